def zf_X7_standsOut (x1 : Int32) (x2 : Int32) (x3 : Int32) (b_staff : TSt) : Option (Bool) := (if x3 = 0 then (Option.bind (zf_X2_nerveOf x1 b_staff) (fun u2 => (Option.bind (zf_X2_nerveOf x2 b_staff) (fun u3 => (if u2 ≤ u3 then some (false) else some (true)))))) else (if x3 = 1 then (Option.bind (zf_X2_nerveOf x1 b_staff) (fun u6 => (Option.bind (zf_X2_nerveOf x2 b_staff) (fun u7 => (if u7 ≤ u6 then some (false) else some (true)))))) else (Option.bind (zf_X2_fledOf x1 b_staff) (fun u9 => (Option.bind (zf_X2_fledOf x2 b_staff) (fun u10 => (if u9 ≤ u10 then some (false) else some (true))))))))
abbrev zr_X7_standsOut : Room := { frames := 2, cells := 0, slots := 0, locals := 42 }
set_option maxHeartbeats 4000000 in
set_option maxRecDepth 100000 in
theorem c_X7_standsOut (l : Launch) (G : va_G) (cy : Nat → ClassId) (tt : Nat → Nat) (L : Nat → Nat) (b_seedNow : Int32) (b_keptSeed : Int32) (b_isKept : Bool) (x1 : Int32) (x2 : Int32) (x3 : Int32) (b_staff : TSt) (res : Bool) (hf : zf_X7_standsOut x1 x2 x3 b_staff = some res) : zCT l yX7_standsOut cX7_standsOut 4 (some .boolean) zr_X7_standsOut G cy tt [.ref ((L 0)), .int x1, .int x2, .int x3] [xU L b_seedNow b_keptSeed b_isKept, xSt ((L 5)) ((L 6)) ((L 7)) ((L 8)) ((L 9)) b_staff.1, xI cy ((L 6)) 8 b_staff.2.1, xI cy ((L 7)) 8 b_staff.2.2.1, xI cy ((L 8)) 8 b_staff.2.2.2.1, xI cy ((L 9)) 8 b_staff.2.2.2.2] (some (.int (bI res))) [xU L b_seedNow b_keptSeed b_isKept, xSt ((L 5)) ((L 6)) ((L 7)) ((L 8)) ((L 9)) b_staff.1, xI cy ((L 6)) 8 b_staff.2.1, xI cy ((L 7)) 8 b_staff.2.2.1, xI cy ((L 8)) 8 b_staff.2.2.2.1, xI cy ((L 9)) 8 b_staff.2.2.2.2] := by
  refine zk_start zn_X7 (Nat.le_of_ble_eq_true rfl) ?_
  intro p e s m args below meth c A ls Q C hr hQ hw hl
  have C : zCx p m c s args meth cX7_standsOut 4 RX7 G cy tt A := C
  have hx := C.1.1
  have hb := C.1.2.1
  have hl : lv_has ls 4 [(0, .ref ((L 0))), (1, .int x1), (2, .int x2), (3, .int x3)] := hl
  rw [zf_X7_standsOut] at hf
  refine lv_iload_n (pc := 0) hx hb dX7_standsOut_0 rfl (lv_at hl 3 rfl) ?_
  by_cases q1 : x3 = (0 : Int32)
  · replace hf := if_t q1 hf
    refine zk_lkIn (pc := 1) (off := 27) (tgt := 28) q1 C dX7_standsOut_1 (by decide +kernel) (by decide +kernel) (by decide) ?_
    refine lv_aload_n (pc := 28) hx hb dX7_standsOut_28 rfl (lv_at hl 0 rfl) ?_
    refine zk_gt (pc := 29) C hw zl_X7_28 0 rfl rfl dX7_standsOut_29 ?_
    refine lv_iload_n (pc := 32) hx hb dX7_standsOut_32 rfl (lv_at hl 1 rfl) ?_
    obtain ⟨u2, u2e, hf⟩ := bd hf
    refine zk_cV (pc := 33) (ci := 2) (q0 := 1) (rest := []) (st1 := [.int u2]) (w' := [xU L b_seedNow b_keptSeed b_isKept, xSt ((L 5)) ((L 6)) ((L 7)) ((L 8)) ((L 9)) b_staff.1, xI cy ((L 6)) 8 b_staff.2.1, xI cy ((L 7)) 8 b_staff.2.2.1, xI cy ((L 8)) 8 b_staff.2.2.2.1, xI cy ((L 9)) 8 b_staff.2.2.2.2]) (mk := [none, none, none, none, none, none]) C hw (c_X2_nerveOf l G cy tt ((L 5)) ((L 6)) ((L 7)) ((L 8)) ((L 9)) x1 b_staff _ u2e) zy_X2_nerveOf zm_X7_159 rfl rfl rfl [1, 2, 3, 4, 5] rfl rfl rfl rfl rfl rfl rfl rfl hl.1 ⟨rfl, rfl⟩ ⟨Nat.le_of_ble_eq_true rfl, Nat.le_of_ble_eq_true rfl⟩ rfl (Nat.le_of_ble_eq_true rfl) ⟨Nat.zero_le _, Nat.zero_le _⟩ dX7_standsOut_33 (fun H locs hw => ?_)
    refine lv_aload_n (pc := 36) hx hb dX7_standsOut_36 rfl (lv_at hl 0 rfl) ?_
    refine zk_gt (pc := 37) C hw zl_X7_28 0 rfl rfl dX7_standsOut_37 ?_
    refine lv_iload_n (pc := 40) hx hb dX7_standsOut_40 rfl (lv_at hl 2 rfl) ?_
    obtain ⟨u3, u3e, hf⟩ := bd hf
    refine zk_cV (pc := 41) (ci := 2) (q0 := 1) (rest := [.int u2]) (st1 := [.int u3, .int u2]) (w' := [xU L b_seedNow b_keptSeed b_isKept, xSt ((L 5)) ((L 6)) ((L 7)) ((L 8)) ((L 9)) b_staff.1, xI cy ((L 6)) 8 b_staff.2.1, xI cy ((L 7)) 8 b_staff.2.2.1, xI cy ((L 8)) 8 b_staff.2.2.2.1, xI cy ((L 9)) 8 b_staff.2.2.2.2]) (mk := [none, none, none, none, none, none]) C hw (c_X2_nerveOf l G cy tt ((L 5)) ((L 6)) ((L 7)) ((L 8)) ((L 9)) x2 b_staff _ u3e) zy_X2_nerveOf zm_X7_159 rfl rfl rfl [1, 2, 3, 4, 5] rfl rfl rfl rfl rfl rfl rfl rfl hl.1 ⟨rfl, rfl⟩ ⟨Nat.le_of_ble_eq_true rfl, Nat.le_of_ble_eq_true rfl⟩ rfl (Nat.le_of_ble_eq_true rfl) ⟨Nat.zero_le _, Nat.zero_le _⟩ dX7_standsOut_41 (fun H locs hw => ?_)
    refine lv_icmp_le (pc := 44) (tgt := 51) hx hb dX7_standsOut_44 (by decide) (fun q4 => ?_) (fun q4 => ?_)
    · replace hf := if_t q4 hf
      refine lv_iconst (pc := 51) (v := 0) hx hb dX7_standsOut_51 (by decide) ?_
      have hf := Option.some.inj hf
      subst hf
      exact zk_retz (pc := 52) (b := false) (ww := [xU L b_seedNow b_keptSeed b_isKept, xSt ((L 5)) ((L 6)) ((L 7)) ((L 8)) ((L 9)) b_staff.1, xI cy ((L 6)) 8 b_staff.2.1, xI cy ((L 7)) 8 b_staff.2.2.1, xI cy ((L 8)) 8 b_staff.2.2.2.1, xI cy ((L 9)) 8 b_staff.2.2.2.2]) C hw hr hQ dX7_standsOut_52
    · replace hf := if_f q4 hf
      refine lv_iconst (pc := 47) (v := 1) hx hb dX7_standsOut_47 (by decide) ?_
      refine lv_goto (pc := 48) (tgt := 52) hx hb dX7_standsOut_48 (by decide) ?_
      have hf := Option.some.inj hf
      subst hf
      exact zk_retz (pc := 52) (b := true) (ww := [xU L b_seedNow b_keptSeed b_isKept, xSt ((L 5)) ((L 6)) ((L 7)) ((L 8)) ((L 9)) b_staff.1, xI cy ((L 6)) 8 b_staff.2.1, xI cy ((L 7)) 8 b_staff.2.2.1, xI cy ((L 8)) 8 b_staff.2.2.2.1, xI cy ((L 9)) 8 b_staff.2.2.2.2]) C hw hr hQ dX7_standsOut_52
  · replace hf := if_f q1 hf
    by_cases q5 : x3 = (1 : Int32)
    · replace hf := if_t q5 hf
      refine zk_lkIn (pc := 1) (off := 52) (tgt := 53) q5 C dX7_standsOut_1 (by decide +kernel) (by decide +kernel) (by decide) ?_
      refine lv_aload_n (pc := 53) hx hb dX7_standsOut_53 rfl (lv_at hl 0 rfl) ?_
      refine zk_gt (pc := 54) C hw zl_X7_28 0 rfl rfl dX7_standsOut_54 ?_
      refine lv_iload_n (pc := 57) hx hb dX7_standsOut_57 rfl (lv_at hl 1 rfl) ?_
      obtain ⟨u6, u6e, hf⟩ := bd hf
      refine zk_cV (pc := 58) (ci := 2) (q0 := 1) (rest := []) (st1 := [.int u6]) (w' := [xU L b_seedNow b_keptSeed b_isKept, xSt ((L 5)) ((L 6)) ((L 7)) ((L 8)) ((L 9)) b_staff.1, xI cy ((L 6)) 8 b_staff.2.1, xI cy ((L 7)) 8 b_staff.2.2.1, xI cy ((L 8)) 8 b_staff.2.2.2.1, xI cy ((L 9)) 8 b_staff.2.2.2.2]) (mk := [none, none, none, none, none, none]) C hw (c_X2_nerveOf l G cy tt ((L 5)) ((L 6)) ((L 7)) ((L 8)) ((L 9)) x1 b_staff _ u6e) zy_X2_nerveOf zm_X7_159 rfl rfl rfl [1, 2, 3, 4, 5] rfl rfl rfl rfl rfl rfl rfl rfl hl.1 ⟨rfl, rfl⟩ ⟨Nat.le_of_ble_eq_true rfl, Nat.le_of_ble_eq_true rfl⟩ rfl (Nat.le_of_ble_eq_true rfl) ⟨Nat.zero_le _, Nat.zero_le _⟩ dX7_standsOut_58 (fun H locs hw => ?_)
      refine lv_aload_n (pc := 61) hx hb dX7_standsOut_61 rfl (lv_at hl 0 rfl) ?_
      refine zk_gt (pc := 62) C hw zl_X7_28 0 rfl rfl dX7_standsOut_62 ?_
      refine lv_iload_n (pc := 65) hx hb dX7_standsOut_65 rfl (lv_at hl 2 rfl) ?_
      obtain ⟨u7, u7e, hf⟩ := bd hf
      refine zk_cV (pc := 66) (ci := 2) (q0 := 1) (rest := [.int u6]) (st1 := [.int u7, .int u6]) (w' := [xU L b_seedNow b_keptSeed b_isKept, xSt ((L 5)) ((L 6)) ((L 7)) ((L 8)) ((L 9)) b_staff.1, xI cy ((L 6)) 8 b_staff.2.1, xI cy ((L 7)) 8 b_staff.2.2.1, xI cy ((L 8)) 8 b_staff.2.2.2.1, xI cy ((L 9)) 8 b_staff.2.2.2.2]) (mk := [none, none, none, none, none, none]) C hw (c_X2_nerveOf l G cy tt ((L 5)) ((L 6)) ((L 7)) ((L 8)) ((L 9)) x2 b_staff _ u7e) zy_X2_nerveOf zm_X7_159 rfl rfl rfl [1, 2, 3, 4, 5] rfl rfl rfl rfl rfl rfl rfl rfl hl.1 ⟨rfl, rfl⟩ ⟨Nat.le_of_ble_eq_true rfl, Nat.le_of_ble_eq_true rfl⟩ rfl (Nat.le_of_ble_eq_true rfl) ⟨Nat.zero_le _, Nat.zero_le _⟩ dX7_standsOut_66 (fun H locs hw => ?_)
      refine lv_icmp_ge (pc := 69) (tgt := 76) hx hb dX7_standsOut_69 (by decide) (fun q8 => ?_) (fun q8 => ?_)
      · replace hf := if_t q8 hf
        refine lv_iconst (pc := 76) (v := 0) hx hb dX7_standsOut_76 (by decide) ?_
        have hf := Option.some.inj hf
        subst hf
        exact zk_retz (pc := 77) (b := false) (ww := [xU L b_seedNow b_keptSeed b_isKept, xSt ((L 5)) ((L 6)) ((L 7)) ((L 8)) ((L 9)) b_staff.1, xI cy ((L 6)) 8 b_staff.2.1, xI cy ((L 7)) 8 b_staff.2.2.1, xI cy ((L 8)) 8 b_staff.2.2.2.1, xI cy ((L 9)) 8 b_staff.2.2.2.2]) C hw hr hQ dX7_standsOut_77
      · replace hf := if_f q8 hf
        refine lv_iconst (pc := 72) (v := 1) hx hb dX7_standsOut_72 (by decide) ?_
        refine lv_goto (pc := 73) (tgt := 77) hx hb dX7_standsOut_73 (by decide) ?_
        have hf := Option.some.inj hf
        subst hf
        exact zk_retz (pc := 77) (b := true) (ww := [xU L b_seedNow b_keptSeed b_isKept, xSt ((L 5)) ((L 6)) ((L 7)) ((L 8)) ((L 9)) b_staff.1, xI cy ((L 6)) 8 b_staff.2.1, xI cy ((L 7)) 8 b_staff.2.2.1, xI cy ((L 8)) 8 b_staff.2.2.2.1, xI cy ((L 9)) 8 b_staff.2.2.2.2]) C hw hr hQ dX7_standsOut_77
    · replace hf := if_f q5 hf
      have eq1 := i32_ne (n := 0) (by decide) q1
      have eq5 := i32_ne (n := 1) (by decide) q5
      refine lv_lookup (pc := 1) (off := 77) (tgt := 78) hx hb dX7_standsOut_1 (by decide +kernel) (by simp [Op.lookupswitch.offset, Ne.symm eq1, Ne.symm eq5]; done) (by decide) ?_
      refine lv_aload_n (pc := 78) hx hb dX7_standsOut_78 rfl (lv_at hl 0 rfl) ?_
      refine zk_gt (pc := 79) C hw zl_X7_28 0 rfl rfl dX7_standsOut_79 ?_
      refine lv_iload_n (pc := 82) hx hb dX7_standsOut_82 rfl (lv_at hl 1 rfl) ?_
      obtain ⟨u9, u9e, hf⟩ := bd hf
      refine zk_cV (pc := 83) (ci := 2) (q0 := 1) (rest := []) (st1 := [.int u9]) (w' := [xU L b_seedNow b_keptSeed b_isKept, xSt ((L 5)) ((L 6)) ((L 7)) ((L 8)) ((L 9)) b_staff.1, xI cy ((L 6)) 8 b_staff.2.1, xI cy ((L 7)) 8 b_staff.2.2.1, xI cy ((L 8)) 8 b_staff.2.2.2.1, xI cy ((L 9)) 8 b_staff.2.2.2.2]) (mk := [none, none, none, none, none, none]) C hw (c_X2_fledOf l G cy tt ((L 5)) ((L 6)) ((L 7)) ((L 8)) ((L 9)) x1 b_staff _ u9e) zy_X2_fledOf zm_X7_207 rfl rfl rfl [1, 2, 3, 4, 5] rfl rfl rfl rfl rfl rfl rfl rfl hl.1 ⟨rfl, rfl⟩ ⟨Nat.le_of_ble_eq_true rfl, Nat.le_of_ble_eq_true rfl⟩ rfl (Nat.le_of_ble_eq_true rfl) ⟨Nat.zero_le _, Nat.zero_le _⟩ dX7_standsOut_83 (fun H locs hw => ?_)
      refine lv_aload_n (pc := 86) hx hb dX7_standsOut_86 rfl (lv_at hl 0 rfl) ?_
      refine zk_gt (pc := 87) C hw zl_X7_28 0 rfl rfl dX7_standsOut_87 ?_
      refine lv_iload_n (pc := 90) hx hb dX7_standsOut_90 rfl (lv_at hl 2 rfl) ?_
      obtain ⟨u10, u10e, hf⟩ := bd hf
      refine zk_cV (pc := 91) (ci := 2) (q0 := 1) (rest := [.int u9]) (st1 := [.int u10, .int u9]) (w' := [xU L b_seedNow b_keptSeed b_isKept, xSt ((L 5)) ((L 6)) ((L 7)) ((L 8)) ((L 9)) b_staff.1, xI cy ((L 6)) 8 b_staff.2.1, xI cy ((L 7)) 8 b_staff.2.2.1, xI cy ((L 8)) 8 b_staff.2.2.2.1, xI cy ((L 9)) 8 b_staff.2.2.2.2]) (mk := [none, none, none, none, none, none]) C hw (c_X2_fledOf l G cy tt ((L 5)) ((L 6)) ((L 7)) ((L 8)) ((L 9)) x2 b_staff _ u10e) zy_X2_fledOf zm_X7_207 rfl rfl rfl [1, 2, 3, 4, 5] rfl rfl rfl rfl rfl rfl rfl rfl hl.1 ⟨rfl, rfl⟩ ⟨Nat.le_of_ble_eq_true rfl, Nat.le_of_ble_eq_true rfl⟩ rfl (Nat.le_of_ble_eq_true rfl) ⟨Nat.zero_le _, Nat.zero_le _⟩ dX7_standsOut_91 (fun H locs hw => ?_)
      refine lv_icmp_le (pc := 94) (tgt := 101) hx hb dX7_standsOut_94 (by decide) (fun q11 => ?_) (fun q11 => ?_)
      · replace hf := if_t q11 hf
        refine lv_iconst (pc := 101) (v := 0) hx hb dX7_standsOut_101 (by decide) ?_
        have hf := Option.some.inj hf
        subst hf
        exact zk_retz (pc := 102) (b := false) (ww := [xU L b_seedNow b_keptSeed b_isKept, xSt ((L 5)) ((L 6)) ((L 7)) ((L 8)) ((L 9)) b_staff.1, xI cy ((L 6)) 8 b_staff.2.1, xI cy ((L 7)) 8 b_staff.2.2.1, xI cy ((L 8)) 8 b_staff.2.2.2.1, xI cy ((L 9)) 8 b_staff.2.2.2.2]) C hw hr hQ dX7_standsOut_102
      · replace hf := if_f q11 hf
        refine lv_iconst (pc := 97) (v := 1) hx hb dX7_standsOut_97 (by decide) ?_
        refine lv_goto (pc := 98) (tgt := 102) hx hb dX7_standsOut_98 (by decide) ?_
        have hf := Option.some.inj hf
        subst hf
        exact zk_retz (pc := 102) (b := true) (ww := [xU L b_seedNow b_keptSeed b_isKept, xSt ((L 5)) ((L 6)) ((L 7)) ((L 8)) ((L 9)) b_staff.1, xI cy ((L 6)) 8 b_staff.2.1, xI cy ((L 7)) 8 b_staff.2.2.1, xI cy ((L 8)) 8 b_staff.2.2.2.1, xI cy ((L 9)) 8 b_staff.2.2.2.2]) C hw hr hQ dX7_standsOut_102
def zf_X7_of_60 (b_staff : TSt) (k37 : Int32 → Int32 → Int32 → (Nat → Int32) → Option (Int32 × (Nat → Int32))) (v1 : Int32) (v2 : Int32) (v3 : Int32) (b_refusals : Nat → Int32) : Option (Int32 × (Nat → Int32)) := k37 v1 v2 ((v3 + 1)) b_refusals
def zf_X7_of_37 (b_staff : TSt) : Nat → Int32 → Int32 → Int32 → (Nat → Int32) → Option (Int32 × (Nat → Int32))
  | 0, _, _, _, _ => none
  | n + 1, v1, v2, v3, b_refusals => (if b_staff.1 ≤ v3 then some (v2, b_refusals) else (Option.bind (zf_X7_standsOut v3 v2 v1 b_staff) (fun u7 => (if u7 then zf_X7_of_60 b_staff (zf_X7_of_37 b_staff n) v1 v3 v3 b_refusals else zf_X7_of_60 b_staff (zf_X7_of_37 b_staff n) v1 v2 v3 b_refusals))))
def zf_X7_of (x1 : Int32) (b_staff : TSt) (b_refusals : Nat → Int32) : Option (Int32 × (Nat → Int32)) := (Option.bind (zf_X7_isWithin x1 (((0 : Int32))) (((2 : Int32)))) (fun u1 => (if u1 then (if 0 < b_staff.1 then zf_X7_of_37 b_staff FU x1 ((0 : Int32)) ((1 : Int32)) b_refusals else (Option.bind (zf_X7_refused (((-5 : Int32))) b_refusals) (fun u4 => some (u4.1, u4.2)))) else (Option.bind (zf_X7_refused (((-2 : Int32))) b_refusals) (fun u5 => some (u5.1, u5.2))))))
abbrev zr_X7_of : Room := { frames := 3, cells := 0, slots := 0, locals := 65 }
set_option maxHeartbeats 4000000 in
set_option maxRecDepth 100000 in
theorem c_X7_of (l : Launch) (G : va_G) (cy : Nat → ClassId) (tt : Nat → Nat) (L : Nat → Nat) (b_seedNow : Int32) (b_keptSeed : Int32) (b_isKept : Bool) (x1 : Int32) (b_staff : TSt) (b_refusals : Nat → Int32) (res : Int32 × (Nat → Int32)) (hf : zf_X7_of x1 b_staff b_refusals = some res) : zCT l yX7_of cX7_of 4 (some .int) zr_X7_of G cy tt [.ref ((L 0)), .int x1] [xU L b_seedNow b_keptSeed b_isKept, xSt ((L 5)) ((L 6)) ((L 7)) ((L 8)) ((L 9)) b_staff.1, xI cy ((L 6)) 8 b_staff.2.1, xI cy ((L 7)) 8 b_staff.2.2.1, xI cy ((L 8)) 8 b_staff.2.2.2.1, xI cy ((L 9)) 8 b_staff.2.2.2.2, xI cy ((L 48)) 5 b_refusals] (some (.int res.1)) [xU L b_seedNow b_keptSeed b_isKept, xSt ((L 5)) ((L 6)) ((L 7)) ((L 8)) ((L 9)) b_staff.1, xI cy ((L 6)) 8 b_staff.2.1, xI cy ((L 7)) 8 b_staff.2.2.1, xI cy ((L 8)) 8 b_staff.2.2.2.1, xI cy ((L 9)) 8 b_staff.2.2.2.2, xI cy ((L 48)) 5 res.2] := by
  refine zk_start zn_X7 (Nat.le_of_ble_eq_true rfl) ?_
  intro p e s m args below meth c A ls Q C hr hQ hw hl
  have C : zCx p m c s args meth cX7_of 4 RX7 G cy tt A := C
  have hx := C.1.1
  have hb := C.1.2.1
  have hl : lv_has ls 4 [(0, .ref ((L 0))), (1, .int x1)] := hl
  have J60 : ∀ (k37 : Int32 → Int32 → Int32 → (Nat → Int32) → Option (Int32 × (Nat → Int32))) (K37 : ∀ (v1 : Int32) (v2 : Int32) (v3 : Int32) (b_refusals : Nat → Int32) (H : Heap) (locs : List Loc) (ls : Array Slot), k37 v1 v2 v3 b_refusals = some res → zWd G A s.heap H locs [xU L b_seedNow b_keptSeed b_isKept, xSt ((L 5)) ((L 6)) ((L 7)) ((L 8)) ((L 9)) b_staff.1, xI cy ((L 6)) 8 b_staff.2.1, xI cy ((L 7)) 8 b_staff.2.2.1, xI cy ((L 8)) 8 b_staff.2.2.2.1, xI cy ((L 9)) 8 b_staff.2.2.2.2, xI cy ((L 48)) 5 b_refusals] → lv_has ls 4 [(0, .ref ((L 0))), (1, .int v1), (2, .int v2), (3, .int v3)] → W p l e zr_X7_of s m args below meth c H locs 0 0 Q (F0 m 37 ls [])), ∀ (v1 : Int32) (v2 : Int32) (v3 : Int32) (b_refusals : Nat → Int32) (H : Heap) (locs : List Loc) (ls : Array Slot), zf_X7_of_60 b_staff k37 v1 v2 v3 b_refusals = some res → zWd G A s.heap H locs [xU L b_seedNow b_keptSeed b_isKept, xSt ((L 5)) ((L 6)) ((L 7)) ((L 8)) ((L 9)) b_staff.1, xI cy ((L 6)) 8 b_staff.2.1, xI cy ((L 7)) 8 b_staff.2.2.1, xI cy ((L 8)) 8 b_staff.2.2.2.1, xI cy ((L 9)) 8 b_staff.2.2.2.2, xI cy ((L 48)) 5 b_refusals] → lv_has ls 4 [(0, .ref ((L 0))), (1, .int v1), (2, .int v2), (3, .int v3)] → W p l e zr_X7_of s m args below meth c H locs 0 0 Q (F0 m 60 ls []) := by
    intro k37 K37 v1 v2 v3 b_refusals H locs ls hf hw hl
    rw [zf_X7_of_60] at hf
    refine lv_iinc (pc := 60) (v := (v3 + 1)) (lv' := [(3, .int ((v3 + 1))), (0, .ref ((L 0))), (1, .int v1), (2, .int v2)]) hx hb dX7_of_60 hl (k := 3) rfl rfl (by decide) rfl (fun ls hl => ?_)
    refine lv_goto (pc := 63) (tgt := 37) hx hb dX7_of_63 (by decide) ?_
    exact K37 v1 v2 ((v3 + 1)) b_refusals _ _ _ hf hw (lv_sub hl [1, 2, 3, 0] rfl)
  have J37 : ∀ (n : Nat), ∀ (v1 : Int32) (v2 : Int32) (v3 : Int32) (b_refusals : Nat → Int32) (H : Heap) (locs : List Loc) (ls : Array Slot), zf_X7_of_37 b_staff n v1 v2 v3 b_refusals = some res → zWd G A s.heap H locs [xU L b_seedNow b_keptSeed b_isKept, xSt ((L 5)) ((L 6)) ((L 7)) ((L 8)) ((L 9)) b_staff.1, xI cy ((L 6)) 8 b_staff.2.1, xI cy ((L 7)) 8 b_staff.2.2.1, xI cy ((L 8)) 8 b_staff.2.2.2.1, xI cy ((L 9)) 8 b_staff.2.2.2.2, xI cy ((L 48)) 5 b_refusals] → lv_has ls 4 [(0, .ref ((L 0))), (1, .int v1), (2, .int v2), (3, .int v3)] → W p l e zr_X7_of s m args below meth c H locs 0 0 Q (F0 m 37 ls []) := by
    intro n
    induction n with
    | zero =>
      intro v1 v2 v3 b_refusals H locs ls hf hw hl
      rw [zf_X7_of_37] at hf
      cases hf
    | succ n ih =>
      intro v1 v2 v3 b_refusals H locs ls hf hw hl
      rw [zf_X7_of_37] at hf
      refine lv_iload_n (pc := 37) hx hb dX7_of_37 rfl (lv_at hl 3 rfl) ?_
      refine lv_aload_n (pc := 38) hx hb dX7_of_38 rfl (lv_at hl 0 rfl) ?_
      refine zk_gt (pc := 39) C hw zl_X7_28 0 rfl rfl dX7_of_39 ?_
      refine zk_gt (pc := 42) C hw zl_X7_303 1 rfl rfl dX7_of_42 ?_
      refine lv_icmp_ge (pc := 45) (tgt := 66) hx hb dX7_of_45 (by decide) (fun q6 => ?_) (fun q6 => ?_)
      · replace hf := if_t q6 hf
        refine lv_iload_n (pc := 66) hx hb dX7_of_66 rfl (lv_at hl 2 rfl) ?_
        have hf := Option.some.inj hf
        subst hf
        exact zk_reti (pc := 67) (ww := [xU L b_seedNow b_keptSeed b_isKept, xSt ((L 5)) ((L 6)) ((L 7)) ((L 8)) ((L 9)) b_staff.1, xI cy ((L 6)) 8 b_staff.2.1, xI cy ((L 7)) 8 b_staff.2.2.1, xI cy ((L 8)) 8 b_staff.2.2.2.1, xI cy ((L 9)) 8 b_staff.2.2.2.2, xI cy ((L 48)) 5 b_refusals]) C hw hr hQ dX7_of_67
      · replace hf := if_f q6 hf
        refine lv_aload_n (pc := 48) hx hb dX7_of_48 rfl (lv_at hl 0 rfl) ?_
        refine lv_iload_n (pc := 49) hx hb dX7_of_49 rfl (lv_at hl 3 rfl) ?_
        refine lv_iload_n (pc := 50) hx hb dX7_of_50 rfl (lv_at hl 2 rfl) ?_
        refine lv_iload_n (pc := 51) hx hb dX7_of_51 rfl (lv_at hl 1 rfl) ?_
        obtain ⟨u7, u7e, hf⟩ := bd hf
        refine zk_cV (pc := 52) (ci := 7) (q0 := 0) (rest := []) (st1 := [.int (bI u7)]) (w' := [xU L b_seedNow b_keptSeed b_isKept, xSt ((L 5)) ((L 6)) ((L 7)) ((L 8)) ((L 9)) b_staff.1, xI cy ((L 6)) 8 b_staff.2.1, xI cy ((L 7)) 8 b_staff.2.2.1, xI cy ((L 8)) 8 b_staff.2.2.2.1, xI cy ((L 9)) 8 b_staff.2.2.2.2, xI cy ((L 48)) 5 b_refusals]) (mk := [none, none, none, none, none, none, none]) C hw (c_X7_standsOut l G cy tt L b_seedNow b_keptSeed b_isKept v3 v2 v1 b_staff _ u7e) zy_X7_standsOut zm_X7_336 rfl rfl rfl [0, 1, 2, 3, 4, 5] rfl rfl rfl rfl rfl rfl rfl rfl hl.1 ⟨rfl, rfl⟩ ⟨Nat.le_of_ble_eq_true rfl, Nat.le_of_ble_eq_true rfl⟩ rfl (Nat.le_of_ble_eq_true rfl) ⟨Nat.zero_le _, Nat.zero_le _⟩ dX7_of_52 (fun H locs hw => ?_)
        refine zk_ifz (pc := 55) (tgt := 60) hx hb dX7_of_55 (by decide) (fun q8 => ?_) (fun q8 => ?_)
        · replace hf := if_f q8 hf
          exact J60 (zf_X7_of_37 b_staff n) ih v1 v2 v3 b_refusals _ _ _ hf hw (lv_sub hl [0, 1, 2, 3] rfl)
        · replace hf := if_t q8 hf
          refine lv_iload_n (pc := 58) hx hb dX7_of_58 rfl (lv_at hl 3 rfl) ?_
          refine lv_istore_n (pc := 59) (lv' := [(2, .int v3), (0, .ref ((L 0))), (1, .int v1), (3, .int v3)]) hx hb dX7_of_59 rfl hl (by decide) rfl (fun ls hl => ?_)
          exact J60 (zf_X7_of_37 b_staff n) ih v1 v3 v3 b_refusals _ _ _ hf hw (lv_sub hl [1, 2, 0, 3] rfl)
  rw [zf_X7_of] at hf
  refine lv_iload_n (pc := 0) hx hb dX7_of_0 rfl (lv_at hl 1 rfl) ?_
  refine lv_iconst (pc := 1) (v := 0) hx hb dX7_of_1 (by decide) ?_
  refine lv_iconst (pc := 2) (v := 2) hx hb dX7_of_2 (by decide) ?_
  obtain ⟨u1, u1e, hf⟩ := bd hf
  refine zk_cS (pc := 3) (rest := []) (st1 := [.int (bI u1)]) (w' := [xU L b_seedNow b_keptSeed b_isKept, xSt ((L 5)) ((L 6)) ((L 7)) ((L 8)) ((L 9)) b_staff.1, xI cy ((L 6)) 8 b_staff.2.1, xI cy ((L 7)) 8 b_staff.2.2.1, xI cy ((L 8)) 8 b_staff.2.2.2.1, xI cy ((L 9)) 8 b_staff.2.2.2.2, xI cy ((L 48)) 5 b_refusals]) (mk := [none, none, none, none, none, none, none]) C hw (c_X7_isWithin l G cy tt x1 (((0 : Int32))) (((2 : Int32))) _ u1e) zy_X7_isWithin zm_X7_99 [] rfl rfl rfl rfl rfl rfl rfl rfl hl.1 ⟨rfl, rfl⟩ ⟨Nat.le_of_ble_eq_true rfl, Nat.le_of_ble_eq_true rfl⟩ rfl (Nat.le_of_ble_eq_true rfl) ⟨Nat.zero_le _, Nat.zero_le _⟩ dX7_of_3 (fun H locs hw => ?_)
  refine zk_ifnz (pc := 6) (tgt := 16) hx hb dX7_of_6 (by decide) (fun q2 => ?_) (fun q2 => ?_)
  · replace hf := if_t q2 hf
    refine lv_aload_n (pc := 16) hx hb dX7_of_16 rfl (lv_at hl 0 rfl) ?_
    refine zk_gt (pc := 17) C hw zl_X7_28 0 rfl rfl dX7_of_17 ?_
    refine zk_gt (pc := 20) C hw zl_X7_303 1 rfl rfl dX7_of_20 ?_
    refine lv_if_gt (pc := 23) (tgt := 33) hx hb dX7_of_23 (by decide) (fun q3 => ?_) (fun q3 => ?_)
    · replace hf := if_t q3 hf
      refine lv_iconst (pc := 33) (v := 0) hx hb dX7_of_33 (by decide) ?_
      refine lv_istore_n (pc := 34) (lv' := [(2, .int ((0 : Int32))), (0, .ref ((L 0))), (1, .int x1)]) hx hb dX7_of_34 rfl hl (by decide) rfl (fun ls hl => ?_)
      refine lv_iconst (pc := 35) (v := 1) hx hb dX7_of_35 (by decide) ?_
      refine lv_istore_n (pc := 36) (lv' := [(3, .int ((1 : Int32))), (2, .int ((0 : Int32))), (0, .ref ((L 0))), (1, .int x1)]) hx hb dX7_of_36 rfl hl (by decide) rfl (fun ls hl => ?_)
      exact J37 FU x1 ((0 : Int32)) ((1 : Int32)) b_refusals _ _ _ hf hw (lv_sub hl [2, 3, 1, 0] rfl)
    · replace hf := if_f q3 hf
      refine lv_aload_n (pc := 26) hx hb dX7_of_26 rfl (lv_at hl 0 rfl) ?_
      refine lv_bipush (pc := 27) (v := -5) hx hb dX7_of_27 (by decide) ?_
      obtain ⟨u4, u4e, hf⟩ := bd hf
      refine zk_cV (pc := 29) (ci := 7) (q0 := 0) (rest := []) (st1 := [.int u4.1]) (w' := [xU L b_seedNow b_keptSeed b_isKept, xSt ((L 5)) ((L 6)) ((L 7)) ((L 8)) ((L 9)) b_staff.1, xI cy ((L 6)) 8 b_staff.2.1, xI cy ((L 7)) 8 b_staff.2.2.1, xI cy ((L 8)) 8 b_staff.2.2.2.1, xI cy ((L 9)) 8 b_staff.2.2.2.2, xI cy ((L 48)) 5 u4.2]) (mk := [none, none, none, none, none, none, some (xI cy ((L 48)) 5 u4.2)]) C hw (c_X7_refused l G cy tt L b_seedNow b_keptSeed b_isKept (((-5 : Int32))) b_refusals _ u4e) zy_X7_refused zm_X7_103 rfl rfl rfl [0, 6] rfl rfl rfl rfl rfl rfl rfl rfl hl.1 ⟨rfl, rfl⟩ ⟨Nat.le_of_ble_eq_true rfl, Nat.le_of_ble_eq_true rfl⟩ rfl (Nat.le_of_ble_eq_true rfl) ⟨Nat.zero_le _, Nat.zero_le _⟩ dX7_of_29 (fun H locs hw => ?_)
      have hf := Option.some.inj hf
      subst hf
      exact zk_reti (pc := 32) (ww := [xU L b_seedNow b_keptSeed b_isKept, xSt ((L 5)) ((L 6)) ((L 7)) ((L 8)) ((L 9)) b_staff.1, xI cy ((L 6)) 8 b_staff.2.1, xI cy ((L 7)) 8 b_staff.2.2.1, xI cy ((L 8)) 8 b_staff.2.2.2.1, xI cy ((L 9)) 8 b_staff.2.2.2.2, xI cy ((L 48)) 5 u4.2]) C hw hr hQ dX7_of_32
  · replace hf := if_f q2 hf
    refine lv_aload_n (pc := 9) hx hb dX7_of_9 rfl (lv_at hl 0 rfl) ?_
    refine lv_bipush (pc := 10) (v := -2) hx hb dX7_of_10 (by decide) ?_
    obtain ⟨u5, u5e, hf⟩ := bd hf
    refine zk_cV (pc := 12) (ci := 7) (q0 := 0) (rest := []) (st1 := [.int u5.1]) (w' := [xU L b_seedNow b_keptSeed b_isKept, xSt ((L 5)) ((L 6)) ((L 7)) ((L 8)) ((L 9)) b_staff.1, xI cy ((L 6)) 8 b_staff.2.1, xI cy ((L 7)) 8 b_staff.2.2.1, xI cy ((L 8)) 8 b_staff.2.2.2.1, xI cy ((L 9)) 8 b_staff.2.2.2.2, xI cy ((L 48)) 5 u5.2]) (mk := [none, none, none, none, none, none, some (xI cy ((L 48)) 5 u5.2)]) C hw (c_X7_refused l G cy tt L b_seedNow b_keptSeed b_isKept (((-2 : Int32))) b_refusals _ u5e) zy_X7_refused zm_X7_103 rfl rfl rfl [0, 6] rfl rfl rfl rfl rfl rfl rfl rfl hl.1 ⟨rfl, rfl⟩ ⟨Nat.le_of_ble_eq_true rfl, Nat.le_of_ble_eq_true rfl⟩ rfl (Nat.le_of_ble_eq_true rfl) ⟨Nat.zero_le _, Nat.zero_le _⟩ dX7_of_12 (fun H locs hw => ?_)
    have hf := Option.some.inj hf
    subst hf
    exact zk_reti (pc := 15) (ww := [xU L b_seedNow b_keptSeed b_isKept, xSt ((L 5)) ((L 6)) ((L 7)) ((L 8)) ((L 9)) b_staff.1, xI cy ((L 6)) 8 b_staff.2.1, xI cy ((L 7)) 8 b_staff.2.2.1, xI cy ((L 8)) 8 b_staff.2.2.2.1, xI cy ((L 9)) 8 b_staff.2.2.2.2, xI cy ((L 48)) 5 u5.2]) C hw hr hQ dX7_of_15
def zf_X7_way (x1 : Int32) (x2 : Int32) (x3 : Int32) (b_now : TTe) (b_staff : TSt) (b_shelves : TSh) (b_walk : TWa) (b_plan : Nat → Int32) (b_refusals : Nat → Int32) : Option (Int32 × TWa × (Nat → Int32) × (Nat → Int32)) := (Option.bind (zf_X7_isWithin x3 (((0 : Int32))) (((2 : Int32)))) (fun u1 => (Option.bind (zf_X7_takeRoster x1 x2 u1 b_staff b_shelves b_plan) (fun u2 => (if u2.1 = 0 then (Option.bind (zf_X6_along x2 b_walk u2.2 b_now b_staff) (fun u4 => (if x3 = 0 then some (u4.2.2.2.2.2.2.1, u4, u2.2, b_refusals) else (if x3 = 1 then some (u4.2.2.2.2.2.2.2.2, u4, u2.2, b_refusals) else some (u4.2.2.2.2.2.2.2.1, u4, u2.2, b_refusals))))) else (Option.bind (zf_X7_refused u2.1 b_refusals) (fun u7 => some (u7.1, b_walk, u2.2, u7.2))))))))
abbrev zr_X7_way : Room := { frames := 6, cells := 0, slots := 0, locals := 134 }
set_option maxHeartbeats 4000000 in
set_option maxRecDepth 100000 in
theorem c_X7_way (l : Launch) (G : va_G) (cy : Nat → ClassId) (tt : Nat → Nat) (L : Nat → Nat) (b_seedNow : Int32) (b_keptSeed : Int32) (b_isKept : Bool) (x1 : Int32) (x2 : Int32) (x3 : Int32) (b_now : TTe) (b_staff : TSt) (b_shelves : TSh) (b_walk : TWa) (b_plan : Nat → Int32) (b_refusals : Nat → Int32) (res : Int32 × TWa × (Nat → Int32) × (Nat → Int32)) (hf : zf_X7_way x1 x2 x3 b_now b_staff b_shelves b_walk b_plan b_refusals = some res) : zCT l yX7_way cX7_way 5 (some .int) zr_X7_way G cy tt [.ref ((L 0)), .int x1, .int x2, .int x3] [xU L b_seedNow b_keptSeed b_isKept, xTe ((L 1)) b_now, xSt ((L 5)) ((L 6)) ((L 7)) ((L 8)) ((L 9)) b_staff.1, xI cy ((L 6)) 8 b_staff.2.1, xI cy ((L 7)) 8 b_staff.2.2.1, xI cy ((L 8)) 8 b_staff.2.2.2.1, xI cy ((L 9)) 8 b_staff.2.2.2.2, xSh ((L 20)) ((L 21)) ((L 22)) ((L 23)), xI cy ((L 21)) 8 b_shelves.1, xI cy ((L 22)) 8 b_shelves.2.1, xRJ cy ((L 23)) 8 (fun j => [some ((L 24)), some ((L 25)), some ((L 26)), some ((L 27)), some ((L 28)), some ((L 29)), some ((L 30)), some ((L 31))].getD j none), xJ cy ((L 24)) 40 ((b_shelves.2.2 0)), xJ cy ((L 25)) 40 ((b_shelves.2.2 1)), xJ cy ((L 26)) 40 ((b_shelves.2.2 2)), xJ cy ((L 27)) 40 ((b_shelves.2.2 3)), xJ cy ((L 28)) 40 ((b_shelves.2.2 4)), xJ cy ((L 29)) 40 ((b_shelves.2.2 5)), xJ cy ((L 30)) 40 ((b_shelves.2.2 6)), xJ cy ((L 31)) 40 ((b_shelves.2.2 7)), xWa ((L 34)) ((L 35)) b_walk.2.1 b_walk.2.2.1 b_walk.2.2.2.1 b_walk.2.2.2.2.1 b_walk.2.2.2.2.2.1 b_walk.2.2.2.2.2.2.1 b_walk.2.2.2.2.2.2.2.1 b_walk.2.2.2.2.2.2.2.2, xTe ((L 35)) b_walk.1, xI cy ((L 46)) 48 b_plan, xI cy ((L 48)) 5 b_refusals] (some (.int res.1)) [xU L b_seedNow b_keptSeed b_isKept, xTe ((L 1)) b_now, xSt ((L 5)) ((L 6)) ((L 7)) ((L 8)) ((L 9)) b_staff.1, xI cy ((L 6)) 8 b_staff.2.1, xI cy ((L 7)) 8 b_staff.2.2.1, xI cy ((L 8)) 8 b_staff.2.2.2.1, xI cy ((L 9)) 8 b_staff.2.2.2.2, xSh ((L 20)) ((L 21)) ((L 22)) ((L 23)), xI cy ((L 21)) 8 b_shelves.1, xI cy ((L 22)) 8 b_shelves.2.1, xRJ cy ((L 23)) 8 (fun j => [some ((L 24)), some ((L 25)), some ((L 26)), some ((L 27)), some ((L 28)), some ((L 29)), some ((L 30)), some ((L 31))].getD j none), xJ cy ((L 24)) 40 ((b_shelves.2.2 0)), xJ cy ((L 25)) 40 ((b_shelves.2.2 1)), xJ cy ((L 26)) 40 ((b_shelves.2.2 2)), xJ cy ((L 27)) 40 ((b_shelves.2.2 3)), xJ cy ((L 28)) 40 ((b_shelves.2.2 4)), xJ cy ((L 29)) 40 ((b_shelves.2.2 5)), xJ cy ((L 30)) 40 ((b_shelves.2.2 6)), xJ cy ((L 31)) 40 ((b_shelves.2.2 7)), xWa ((L 34)) ((L 35)) res.2.1.2.1 res.2.1.2.2.1 res.2.1.2.2.2.1 res.2.1.2.2.2.2.1 res.2.1.2.2.2.2.2.1 res.2.1.2.2.2.2.2.2.1 res.2.1.2.2.2.2.2.2.2.1 res.2.1.2.2.2.2.2.2.2.2, xTe ((L 35)) res.2.1.1, xI cy ((L 46)) 48 res.2.2.1, xI cy ((L 48)) 5 res.2.2.2] := by
  refine zk_start zn_X7 (Nat.le_of_ble_eq_true rfl) ?_
  intro p e s m args below meth c A ls Q C hr hQ hw hl
  have C : zCx p m c s args meth cX7_way 5 RX7 G cy tt A := C
  have hx := C.1.1
  have hb := C.1.2.1
  have hl : lv_has ls 5 [(0, .ref ((L 0))), (1, .int x1), (2, .int x2), (3, .int x3)] := hl
  rw [zf_X7_way] at hf
  refine lv_aload_n (pc := 0) hx hb dX7_way_0 rfl (lv_at hl 0 rfl) ?_
  refine lv_iload_n (pc := 1) hx hb dX7_way_1 rfl (lv_at hl 1 rfl) ?_
  refine lv_iload_n (pc := 2) hx hb dX7_way_2 rfl (lv_at hl 2 rfl) ?_
  refine lv_iload_n (pc := 3) hx hb dX7_way_3 rfl (lv_at hl 3 rfl) ?_
  refine lv_iconst (pc := 4) (v := 0) hx hb dX7_way_4 (by decide) ?_
  refine lv_iconst (pc := 5) (v := 2) hx hb dX7_way_5 (by decide) ?_
  obtain ⟨u1, u1e, hf⟩ := bd hf
  refine zk_cS (pc := 6) (rest := [.int x2, .int x1, .ref ((L 0))]) (st1 := [.int (bI u1), .int x2, .int x1, .ref ((L 0))]) (w' := [xU L b_seedNow b_keptSeed b_isKept, xTe ((L 1)) b_now, xSt ((L 5)) ((L 6)) ((L 7)) ((L 8)) ((L 9)) b_staff.1, xI cy ((L 6)) 8 b_staff.2.1, xI cy ((L 7)) 8 b_staff.2.2.1, xI cy ((L 8)) 8 b_staff.2.2.2.1, xI cy ((L 9)) 8 b_staff.2.2.2.2, xSh ((L 20)) ((L 21)) ((L 22)) ((L 23)), xI cy ((L 21)) 8 b_shelves.1, xI cy ((L 22)) 8 b_shelves.2.1, xRJ cy ((L 23)) 8 (fun j => [some ((L 24)), some ((L 25)), some ((L 26)), some ((L 27)), some ((L 28)), some ((L 29)), some ((L 30)), some ((L 31))].getD j none), xJ cy ((L 24)) 40 ((b_shelves.2.2 0)), xJ cy ((L 25)) 40 ((b_shelves.2.2 1)), xJ cy ((L 26)) 40 ((b_shelves.2.2 2)), xJ cy ((L 27)) 40 ((b_shelves.2.2 3)), xJ cy ((L 28)) 40 ((b_shelves.2.2 4)), xJ cy ((L 29)) 40 ((b_shelves.2.2 5)), xJ cy ((L 30)) 40 ((b_shelves.2.2 6)), xJ cy ((L 31)) 40 ((b_shelves.2.2 7)), xWa ((L 34)) ((L 35)) b_walk.2.1 b_walk.2.2.1 b_walk.2.2.2.1 b_walk.2.2.2.2.1 b_walk.2.2.2.2.2.1 b_walk.2.2.2.2.2.2.1 b_walk.2.2.2.2.2.2.2.1 b_walk.2.2.2.2.2.2.2.2, xTe ((L 35)) b_walk.1, xI cy ((L 46)) 48 b_plan, xI cy ((L 48)) 5 b_refusals]) (mk := [none, none, none, none, none, none, none, none, none, none, none, none, none, none, none, none, none, none, none, none, none, none, none]) C hw (c_X7_isWithin l G cy tt x3 (((0 : Int32))) (((2 : Int32))) _ u1e) zy_X7_isWithin zm_X7_99 [] rfl rfl rfl rfl rfl rfl rfl rfl hl.1 ⟨rfl, rfl⟩ ⟨Nat.le_of_ble_eq_true rfl, Nat.le_of_ble_eq_true rfl⟩ rfl (Nat.le_of_ble_eq_true rfl) ⟨Nat.zero_le _, Nat.zero_le _⟩ dX7_way_6 (fun H locs hw => ?_)
  obtain ⟨u2, u2e, hf⟩ := bd hf
  refine zk_cV (pc := 9) (ci := 7) (q0 := 0) (rest := []) (st1 := [.int u2.1]) (w' := [xU L b_seedNow b_keptSeed b_isKept, xTe ((L 1)) b_now, xSt ((L 5)) ((L 6)) ((L 7)) ((L 8)) ((L 9)) b_staff.1, xI cy ((L 6)) 8 b_staff.2.1, xI cy ((L 7)) 8 b_staff.2.2.1, xI cy ((L 8)) 8 b_staff.2.2.2.1, xI cy ((L 9)) 8 b_staff.2.2.2.2, xSh ((L 20)) ((L 21)) ((L 22)) ((L 23)), xI cy ((L 21)) 8 b_shelves.1, xI cy ((L 22)) 8 b_shelves.2.1, xRJ cy ((L 23)) 8 (fun j => [some ((L 24)), some ((L 25)), some ((L 26)), some ((L 27)), some ((L 28)), some ((L 29)), some ((L 30)), some ((L 31))].getD j none), xJ cy ((L 24)) 40 ((b_shelves.2.2 0)), xJ cy ((L 25)) 40 ((b_shelves.2.2 1)), xJ cy ((L 26)) 40 ((b_shelves.2.2 2)), xJ cy ((L 27)) 40 ((b_shelves.2.2 3)), xJ cy ((L 28)) 40 ((b_shelves.2.2 4)), xJ cy ((L 29)) 40 ((b_shelves.2.2 5)), xJ cy ((L 30)) 40 ((b_shelves.2.2 6)), xJ cy ((L 31)) 40 ((b_shelves.2.2 7)), xWa ((L 34)) ((L 35)) b_walk.2.1 b_walk.2.2.1 b_walk.2.2.2.1 b_walk.2.2.2.2.1 b_walk.2.2.2.2.2.1 b_walk.2.2.2.2.2.2.1 b_walk.2.2.2.2.2.2.2.1 b_walk.2.2.2.2.2.2.2.2, xTe ((L 35)) b_walk.1, xI cy ((L 46)) 48 u2.2, xI cy ((L 48)) 5 b_refusals]) (mk := [none, none, none, none, none, none, none, none, none, none, none, none, none, none, none, none, none, none, none, none, none, some (xI cy ((L 46)) 48 u2.2), none]) C hw (c_X7_takeRoster l G cy tt L b_seedNow b_keptSeed b_isKept x1 x2 u1 b_staff b_shelves b_plan _ u2e) zy_X7_takeRoster zm_X7_242 rfl rfl rfl [0, 2, 3, 4, 5, 6, 7, 8, 9, 10, 11, 12, 13, 14, 15, 16, 17, 18, 21] rfl rfl rfl rfl rfl rfl rfl rfl hl.1 ⟨rfl, rfl⟩ ⟨Nat.le_of_ble_eq_true rfl, Nat.le_of_ble_eq_true rfl⟩ rfl (Nat.le_of_ble_eq_true rfl) ⟨Nat.zero_le _, Nat.zero_le _⟩ dX7_way_9 (fun H locs hw => ?_)
  refine lv_istore (pc := 12) (lv' := [(4, .int u2.1), (0, .ref ((L 0))), (1, .int x1), (2, .int x2), (3, .int x3)]) hx hb dX7_way_12 hl (by decide) rfl (fun ls hl => ?_)
  refine lv_iload (pc := 14) hx hb dX7_way_14 (lv_at hl 0 rfl) ?_
  refine lv_if_eq (pc := 16) (tgt := 26) hx hb dX7_way_16 (by decide) (fun q3 => ?_) (fun q3 => ?_)
  · replace hf := if_t q3 hf
    refine lv_aload_n (pc := 26) hx hb dX7_way_26 rfl (lv_at hl 1 rfl) ?_
    refine zk_gt (pc := 27) C hw zl_X7_55 0 rfl rfl dX7_way_27 ?_
    refine lv_aload_n (pc := 30) hx hb dX7_way_30 rfl (lv_at hl 1 rfl) ?_
    refine zk_gt (pc := 31) C hw zl_X7_73 0 rfl rfl dX7_way_31 ?_
    refine lv_iload_n (pc := 34) hx hb dX7_way_34 rfl (lv_at hl 3 rfl) ?_
    refine lv_aload_n (pc := 35) hx hb dX7_way_35 rfl (lv_at hl 1 rfl) ?_
    refine zk_gt (pc := 36) C hw zl_X7_10 0 rfl rfl dX7_way_36 ?_
    refine lv_aload_n (pc := 39) hx hb dX7_way_39 rfl (lv_at hl 1 rfl) ?_
    refine zk_gt (pc := 40) C hw zl_X7_28 0 rfl rfl dX7_way_40 ?_
    obtain ⟨u4, u4e, hf⟩ := bd hf
    refine zk_cV (pc := 43) (ci := 6) (q0 := 19) (rest := []) (st1 := []) (w' := [xU L b_seedNow b_keptSeed b_isKept, xTe ((L 1)) b_now, xSt ((L 5)) ((L 6)) ((L 7)) ((L 8)) ((L 9)) b_staff.1, xI cy ((L 6)) 8 b_staff.2.1, xI cy ((L 7)) 8 b_staff.2.2.1, xI cy ((L 8)) 8 b_staff.2.2.2.1, xI cy ((L 9)) 8 b_staff.2.2.2.2, xSh ((L 20)) ((L 21)) ((L 22)) ((L 23)), xI cy ((L 21)) 8 b_shelves.1, xI cy ((L 22)) 8 b_shelves.2.1, xRJ cy ((L 23)) 8 (fun j => [some ((L 24)), some ((L 25)), some ((L 26)), some ((L 27)), some ((L 28)), some ((L 29)), some ((L 30)), some ((L 31))].getD j none), xJ cy ((L 24)) 40 ((b_shelves.2.2 0)), xJ cy ((L 25)) 40 ((b_shelves.2.2 1)), xJ cy ((L 26)) 40 ((b_shelves.2.2 2)), xJ cy ((L 27)) 40 ((b_shelves.2.2 3)), xJ cy ((L 28)) 40 ((b_shelves.2.2 4)), xJ cy ((L 29)) 40 ((b_shelves.2.2 5)), xJ cy ((L 30)) 40 ((b_shelves.2.2 6)), xJ cy ((L 31)) 40 ((b_shelves.2.2 7)), xWa ((L 34)) ((L 35)) u4.2.1 u4.2.2.1 u4.2.2.2.1 u4.2.2.2.2.1 u4.2.2.2.2.2.1 u4.2.2.2.2.2.2.1 u4.2.2.2.2.2.2.2.1 u4.2.2.2.2.2.2.2.2, xTe ((L 35)) u4.1, xI cy ((L 46)) 48 u2.2, xI cy ((L 48)) 5 b_refusals]) (mk := [none, none, none, none, none, none, none, none, none, none, none, none, none, none, none, none, none, none, none, some (xWa ((L 34)) ((L 35)) u4.2.1 u4.2.2.1 u4.2.2.2.1 u4.2.2.2.2.1 u4.2.2.2.2.2.1 u4.2.2.2.2.2.2.1 u4.2.2.2.2.2.2.2.1 u4.2.2.2.2.2.2.2.2), some (xTe ((L 35)) u4.1), none, none]) C hw (c_X6_along l G cy tt ((L 34)) ((L 35)) ((L 46)) ((L 1)) ((L 5)) ((L 6)) ((L 7)) ((L 8)) ((L 9)) x2 b_walk u2.2 b_now b_staff _ u4e) zy_X6_along zm_X7_246 rfl rfl rfl [19, 20, 21, 1, 2, 3, 4, 5, 6] rfl rfl rfl rfl rfl rfl rfl rfl hl.1 ⟨rfl, rfl⟩ ⟨Nat.le_of_ble_eq_true rfl, Nat.le_of_ble_eq_true rfl⟩ rfl (Nat.le_of_ble_eq_true rfl) ⟨Nat.zero_le _, Nat.zero_le _⟩ dX7_way_43 (fun H locs hw => ?_)
    refine lv_iload_n (pc := 46) hx hb dX7_way_46 rfl (lv_at hl 4 rfl) ?_
    by_cases q5 : x3 = (0 : Int32)
    · replace hf := if_t q5 hf
      refine zk_lkIn (pc := 47) (off := 25) (tgt := 72) q5 C dX7_way_47 (by decide +kernel) (by decide +kernel) (by decide) ?_
      refine lv_aload_n (pc := 72) hx hb dX7_way_72 rfl (lv_at hl 1 rfl) ?_
      refine zk_gt (pc := 73) C hw zl_X7_55 0 rfl rfl dX7_way_73 ?_
      refine zk_gt (pc := 76) C hw zl_X7_339 19 rfl rfl dX7_way_76 ?_
      have hf := Option.some.inj hf
      subst hf
      exact zk_reti (pc := 79) (ww := [xU L b_seedNow b_keptSeed b_isKept, xTe ((L 1)) b_now, xSt ((L 5)) ((L 6)) ((L 7)) ((L 8)) ((L 9)) b_staff.1, xI cy ((L 6)) 8 b_staff.2.1, xI cy ((L 7)) 8 b_staff.2.2.1, xI cy ((L 8)) 8 b_staff.2.2.2.1, xI cy ((L 9)) 8 b_staff.2.2.2.2, xSh ((L 20)) ((L 21)) ((L 22)) ((L 23)), xI cy ((L 21)) 8 b_shelves.1, xI cy ((L 22)) 8 b_shelves.2.1, xRJ cy ((L 23)) 8 (fun j => [some ((L 24)), some ((L 25)), some ((L 26)), some ((L 27)), some ((L 28)), some ((L 29)), some ((L 30)), some ((L 31))].getD j none), xJ cy ((L 24)) 40 ((b_shelves.2.2 0)), xJ cy ((L 25)) 40 ((b_shelves.2.2 1)), xJ cy ((L 26)) 40 ((b_shelves.2.2 2)), xJ cy ((L 27)) 40 ((b_shelves.2.2 3)), xJ cy ((L 28)) 40 ((b_shelves.2.2 4)), xJ cy ((L 29)) 40 ((b_shelves.2.2 5)), xJ cy ((L 30)) 40 ((b_shelves.2.2 6)), xJ cy ((L 31)) 40 ((b_shelves.2.2 7)), xWa ((L 34)) ((L 35)) u4.2.1 u4.2.2.1 u4.2.2.2.1 u4.2.2.2.2.1 u4.2.2.2.2.2.1 u4.2.2.2.2.2.2.1 u4.2.2.2.2.2.2.2.1 u4.2.2.2.2.2.2.2.2, xTe ((L 35)) u4.1, xI cy ((L 46)) 48 u2.2, xI cy ((L 48)) 5 b_refusals]) C hw hr hQ dX7_way_79
    · replace hf := if_f q5 hf
      by_cases q6 : x3 = (1 : Int32)
      · replace hf := if_t q6 hf
        refine zk_lkIn (pc := 47) (off := 33) (tgt := 80) q6 C dX7_way_47 (by decide +kernel) (by decide +kernel) (by decide) ?_
        refine lv_aload_n (pc := 80) hx hb dX7_way_80 rfl (lv_at hl 1 rfl) ?_
        refine zk_gt (pc := 81) C hw zl_X7_55 0 rfl rfl dX7_way_81 ?_
        refine zk_gt (pc := 84) C hw zl_X7_342 19 rfl rfl dX7_way_84 ?_
        have hf := Option.some.inj hf
        subst hf
        exact zk_reti (pc := 87) (ww := [xU L b_seedNow b_keptSeed b_isKept, xTe ((L 1)) b_now, xSt ((L 5)) ((L 6)) ((L 7)) ((L 8)) ((L 9)) b_staff.1, xI cy ((L 6)) 8 b_staff.2.1, xI cy ((L 7)) 8 b_staff.2.2.1, xI cy ((L 8)) 8 b_staff.2.2.2.1, xI cy ((L 9)) 8 b_staff.2.2.2.2, xSh ((L 20)) ((L 21)) ((L 22)) ((L 23)), xI cy ((L 21)) 8 b_shelves.1, xI cy ((L 22)) 8 b_shelves.2.1, xRJ cy ((L 23)) 8 (fun j => [some ((L 24)), some ((L 25)), some ((L 26)), some ((L 27)), some ((L 28)), some ((L 29)), some ((L 30)), some ((L 31))].getD j none), xJ cy ((L 24)) 40 ((b_shelves.2.2 0)), xJ cy ((L 25)) 40 ((b_shelves.2.2 1)), xJ cy ((L 26)) 40 ((b_shelves.2.2 2)), xJ cy ((L 27)) 40 ((b_shelves.2.2 3)), xJ cy ((L 28)) 40 ((b_shelves.2.2 4)), xJ cy ((L 29)) 40 ((b_shelves.2.2 5)), xJ cy ((L 30)) 40 ((b_shelves.2.2 6)), xJ cy ((L 31)) 40 ((b_shelves.2.2 7)), xWa ((L 34)) ((L 35)) u4.2.1 u4.2.2.1 u4.2.2.2.1 u4.2.2.2.2.1 u4.2.2.2.2.2.1 u4.2.2.2.2.2.2.1 u4.2.2.2.2.2.2.2.1 u4.2.2.2.2.2.2.2.2, xTe ((L 35)) u4.1, xI cy ((L 46)) 48 u2.2, xI cy ((L 48)) 5 b_refusals]) C hw hr hQ dX7_way_87
      · replace hf := if_f q6 hf
        have eq5 := i32_ne (n := 0) (by decide) q5
        have eq6 := i32_ne (n := 1) (by decide) q6
        refine lv_lookup (pc := 47) (off := 41) (tgt := 88) hx hb dX7_way_47 (by decide +kernel) (by simp [Op.lookupswitch.offset, Ne.symm eq5, Ne.symm eq6]; done) (by decide) ?_
        refine lv_aload_n (pc := 88) hx hb dX7_way_88 rfl (lv_at hl 1 rfl) ?_
        refine zk_gt (pc := 89) C hw zl_X7_55 0 rfl rfl dX7_way_89 ?_
        refine zk_gt (pc := 92) C hw zl_X7_345 19 rfl rfl dX7_way_92 ?_
        have hf := Option.some.inj hf
        subst hf
        exact zk_reti (pc := 95) (ww := [xU L b_seedNow b_keptSeed b_isKept, xTe ((L 1)) b_now, xSt ((L 5)) ((L 6)) ((L 7)) ((L 8)) ((L 9)) b_staff.1, xI cy ((L 6)) 8 b_staff.2.1, xI cy ((L 7)) 8 b_staff.2.2.1, xI cy ((L 8)) 8 b_staff.2.2.2.1, xI cy ((L 9)) 8 b_staff.2.2.2.2, xSh ((L 20)) ((L 21)) ((L 22)) ((L 23)), xI cy ((L 21)) 8 b_shelves.1, xI cy ((L 22)) 8 b_shelves.2.1, xRJ cy ((L 23)) 8 (fun j => [some ((L 24)), some ((L 25)), some ((L 26)), some ((L 27)), some ((L 28)), some ((L 29)), some ((L 30)), some ((L 31))].getD j none), xJ cy ((L 24)) 40 ((b_shelves.2.2 0)), xJ cy ((L 25)) 40 ((b_shelves.2.2 1)), xJ cy ((L 26)) 40 ((b_shelves.2.2 2)), xJ cy ((L 27)) 40 ((b_shelves.2.2 3)), xJ cy ((L 28)) 40 ((b_shelves.2.2 4)), xJ cy ((L 29)) 40 ((b_shelves.2.2 5)), xJ cy ((L 30)) 40 ((b_shelves.2.2 6)), xJ cy ((L 31)) 40 ((b_shelves.2.2 7)), xWa ((L 34)) ((L 35)) u4.2.1 u4.2.2.1 u4.2.2.2.1 u4.2.2.2.2.1 u4.2.2.2.2.2.1 u4.2.2.2.2.2.2.1 u4.2.2.2.2.2.2.2.1 u4.2.2.2.2.2.2.2.2, xTe ((L 35)) u4.1, xI cy ((L 46)) 48 u2.2, xI cy ((L 48)) 5 b_refusals]) C hw hr hQ dX7_way_95
  · replace hf := if_f q3 hf
    refine lv_aload_n (pc := 19) hx hb dX7_way_19 rfl (lv_at hl 1 rfl) ?_
    refine lv_iload (pc := 20) hx hb dX7_way_20 (lv_at hl 0 rfl) ?_
    obtain ⟨u7, u7e, hf⟩ := bd hf
    refine zk_cV (pc := 22) (ci := 7) (q0 := 0) (rest := []) (st1 := [.int u7.1]) (w' := [xU L b_seedNow b_keptSeed b_isKept, xTe ((L 1)) b_now, xSt ((L 5)) ((L 6)) ((L 7)) ((L 8)) ((L 9)) b_staff.1, xI cy ((L 6)) 8 b_staff.2.1, xI cy ((L 7)) 8 b_staff.2.2.1, xI cy ((L 8)) 8 b_staff.2.2.2.1, xI cy ((L 9)) 8 b_staff.2.2.2.2, xSh ((L 20)) ((L 21)) ((L 22)) ((L 23)), xI cy ((L 21)) 8 b_shelves.1, xI cy ((L 22)) 8 b_shelves.2.1, xRJ cy ((L 23)) 8 (fun j => [some ((L 24)), some ((L 25)), some ((L 26)), some ((L 27)), some ((L 28)), some ((L 29)), some ((L 30)), some ((L 31))].getD j none), xJ cy ((L 24)) 40 ((b_shelves.2.2 0)), xJ cy ((L 25)) 40 ((b_shelves.2.2 1)), xJ cy ((L 26)) 40 ((b_shelves.2.2 2)), xJ cy ((L 27)) 40 ((b_shelves.2.2 3)), xJ cy ((L 28)) 40 ((b_shelves.2.2 4)), xJ cy ((L 29)) 40 ((b_shelves.2.2 5)), xJ cy ((L 30)) 40 ((b_shelves.2.2 6)), xJ cy ((L 31)) 40 ((b_shelves.2.2 7)), xWa ((L 34)) ((L 35)) b_walk.2.1 b_walk.2.2.1 b_walk.2.2.2.1 b_walk.2.2.2.2.1 b_walk.2.2.2.2.2.1 b_walk.2.2.2.2.2.2.1 b_walk.2.2.2.2.2.2.2.1 b_walk.2.2.2.2.2.2.2.2, xTe ((L 35)) b_walk.1, xI cy ((L 46)) 48 u2.2, xI cy ((L 48)) 5 u7.2]) (mk := [none, none, none, none, none, none, none, none, none, none, none, none, none, none, none, none, none, none, none, none, none, none, some (xI cy ((L 48)) 5 u7.2)]) C hw (c_X7_refused l G cy tt L b_seedNow b_keptSeed b_isKept u2.1 b_refusals _ u7e) zy_X7_refused zm_X7_103 rfl rfl rfl [0, 22] rfl rfl rfl rfl rfl rfl rfl rfl hl.1 ⟨rfl, rfl⟩ ⟨Nat.le_of_ble_eq_true rfl, Nat.le_of_ble_eq_true rfl⟩ rfl (Nat.le_of_ble_eq_true rfl) ⟨Nat.zero_le _, Nat.zero_le _⟩ dX7_way_22 (fun H locs hw => ?_)
    have hf := Option.some.inj hf
    subst hf
    exact zk_reti (pc := 25) (ww := [xU L b_seedNow b_keptSeed b_isKept, xTe ((L 1)) b_now, xSt ((L 5)) ((L 6)) ((L 7)) ((L 8)) ((L 9)) b_staff.1, xI cy ((L 6)) 8 b_staff.2.1, xI cy ((L 7)) 8 b_staff.2.2.1, xI cy ((L 8)) 8 b_staff.2.2.2.1, xI cy ((L 9)) 8 b_staff.2.2.2.2, xSh ((L 20)) ((L 21)) ((L 22)) ((L 23)), xI cy ((L 21)) 8 b_shelves.1, xI cy ((L 22)) 8 b_shelves.2.1, xRJ cy ((L 23)) 8 (fun j => [some ((L 24)), some ((L 25)), some ((L 26)), some ((L 27)), some ((L 28)), some ((L 29)), some ((L 30)), some ((L 31))].getD j none), xJ cy ((L 24)) 40 ((b_shelves.2.2 0)), xJ cy ((L 25)) 40 ((b_shelves.2.2 1)), xJ cy ((L 26)) 40 ((b_shelves.2.2 2)), xJ cy ((L 27)) 40 ((b_shelves.2.2 3)), xJ cy ((L 28)) 40 ((b_shelves.2.2 4)), xJ cy ((L 29)) 40 ((b_shelves.2.2 5)), xJ cy ((L 30)) 40 ((b_shelves.2.2 6)), xJ cy ((L 31)) 40 ((b_shelves.2.2 7)), xWa ((L 34)) ((L 35)) b_walk.2.1 b_walk.2.2.1 b_walk.2.2.2.1 b_walk.2.2.2.2.1 b_walk.2.2.2.2.2.1 b_walk.2.2.2.2.2.2.1 b_walk.2.2.2.2.2.2.2.1 b_walk.2.2.2.2.2.2.2.2, xTe ((L 35)) b_walk.1, xI cy ((L 46)) 48 u2.2, xI cy ((L 48)) 5 u7.2]) C hw hr hQ dX7_way_25
def zf_X7_rageWith (x1 : Int32) (x2 : Int32) (x3 : Int32) (b_now : TTe) (b_staff : TSt) (b_walk : TWa) (b_plan : Nat → Int32) : Option (Int32 × TWa × (Nat → Int32)) := (if x2 < 0 then some (b_now.1, b_walk, b_plan) else (if x2 < (48 : Int32) then (if ix x2 48 then (if ix x2 48 then (Option.bind (zf_X6_along x1 b_walk ((upd b_plan x2.toNatClampNeg x3)) b_now b_staff) (fun u5 => (if ix x2 48 then some (u5.1.1, u5, (upd ((upd b_plan x2.toNatClampNeg x3)) x2.toNatClampNeg ((b_plan x2.toNatClampNeg)))) else none))) else none) else none) else some (b_now.1, b_walk, b_plan)))
abbrev zr_X7_rageWith : Room := { frames := 4, cells := 0, slots := 0, locals := 93 }
set_option maxHeartbeats 4000000 in
set_option maxRecDepth 100000 in
theorem c_X7_rageWith (l : Launch) (G : va_G) (cy : Nat → ClassId) (tt : Nat → Nat) (L : Nat → Nat) (b_seedNow : Int32) (b_keptSeed : Int32) (b_isKept : Bool) (x1 : Int32) (x2 : Int32) (x3 : Int32) (b_now : TTe) (b_staff : TSt) (b_walk : TWa) (b_plan : Nat → Int32) (res : Int32 × TWa × (Nat → Int32)) (hf : zf_X7_rageWith x1 x2 x3 b_now b_staff b_walk b_plan = some res) : zCT l yX7_rageWith cX7_rageWith 5 (some .int) zr_X7_rageWith G cy tt [.ref ((L 0)), .int x1, .int x2, .int x3] [xU L b_seedNow b_keptSeed b_isKept, xTe ((L 1)) b_now, xSt ((L 5)) ((L 6)) ((L 7)) ((L 8)) ((L 9)) b_staff.1, xI cy ((L 6)) 8 b_staff.2.1, xI cy ((L 7)) 8 b_staff.2.2.1, xI cy ((L 8)) 8 b_staff.2.2.2.1, xI cy ((L 9)) 8 b_staff.2.2.2.2, xWa ((L 34)) ((L 35)) b_walk.2.1 b_walk.2.2.1 b_walk.2.2.2.1 b_walk.2.2.2.2.1 b_walk.2.2.2.2.2.1 b_walk.2.2.2.2.2.2.1 b_walk.2.2.2.2.2.2.2.1 b_walk.2.2.2.2.2.2.2.2, xTe ((L 35)) b_walk.1, xI cy ((L 46)) 48 b_plan] (some (.int res.1)) [xU L b_seedNow b_keptSeed b_isKept, xTe ((L 1)) b_now, xSt ((L 5)) ((L 6)) ((L 7)) ((L 8)) ((L 9)) b_staff.1, xI cy ((L 6)) 8 b_staff.2.1, xI cy ((L 7)) 8 b_staff.2.2.1, xI cy ((L 8)) 8 b_staff.2.2.2.1, xI cy ((L 9)) 8 b_staff.2.2.2.2, xWa ((L 34)) ((L 35)) res.2.1.2.1 res.2.1.2.2.1 res.2.1.2.2.2.1 res.2.1.2.2.2.2.1 res.2.1.2.2.2.2.2.1 res.2.1.2.2.2.2.2.2.1 res.2.1.2.2.2.2.2.2.2.1 res.2.1.2.2.2.2.2.2.2.2, xTe ((L 35)) res.2.1.1, xI cy ((L 46)) 48 res.2.2] := by
  refine zk_start zn_X7 (Nat.le_of_ble_eq_true rfl) ?_
  intro p e s m args below meth c A ls Q C hr hQ hw hl
  have C : zCx p m c s args meth cX7_rageWith 5 RX7 G cy tt A := C
  have hx := C.1.1
  have hb := C.1.2.1
  have hl : lv_has ls 5 [(0, .ref ((L 0))), (1, .int x1), (2, .int x2), (3, .int x3)] := hl
  rw [zf_X7_rageWith] at hf
  refine lv_iload_n (pc := 0) hx hb dX7_rageWith_0 rfl (lv_at hl 2 rfl) ?_
  refine lv_if_lt (pc := 1) (tgt := 13) hx hb dX7_rageWith_1 (by decide) (fun q1 => ?_) (fun q1 => ?_)
  · replace hf := if_t q1 hf
    refine lv_aload_n (pc := 13) hx hb dX7_rageWith_13 rfl (lv_at hl 0 rfl) ?_
    refine zk_gt (pc := 14) C hw zl_X7_10 0 rfl rfl dX7_rageWith_14 ?_
    refine zk_gt (pc := 17) C hw zl_X7_330 1 rfl rfl dX7_rageWith_17 ?_
    have hf := Option.some.inj hf
    subst hf
    exact zk_reti (pc := 20) (ww := [xU L b_seedNow b_keptSeed b_isKept, xTe ((L 1)) b_now, xSt ((L 5)) ((L 6)) ((L 7)) ((L 8)) ((L 9)) b_staff.1, xI cy ((L 6)) 8 b_staff.2.1, xI cy ((L 7)) 8 b_staff.2.2.1, xI cy ((L 8)) 8 b_staff.2.2.2.1, xI cy ((L 9)) 8 b_staff.2.2.2.2, xWa ((L 34)) ((L 35)) b_walk.2.1 b_walk.2.2.1 b_walk.2.2.2.1 b_walk.2.2.2.2.1 b_walk.2.2.2.2.2.1 b_walk.2.2.2.2.2.2.1 b_walk.2.2.2.2.2.2.2.1 b_walk.2.2.2.2.2.2.2.2, xTe ((L 35)) b_walk.1, xI cy ((L 46)) 48 b_plan]) C hw hr hQ dX7_rageWith_20
  · replace hf := if_f q1 hf
    refine lv_iload_n (pc := 4) hx hb dX7_rageWith_4 rfl (lv_at hl 2 rfl) ?_
    refine lv_aload_n (pc := 5) hx hb dX7_rageWith_5 rfl (lv_at hl 0 rfl) ?_
    refine zk_gt (pc := 6) C hw zl_X7_73 0 rfl rfl dX7_rageWith_6 ?_
    refine zk_alen (pc := 9) (v := 48) C hw 9 0 rfl rfl rfl dX7_rageWith_9 ?_
    refine lv_icmp_lt (pc := 10) (tgt := 21) hx hb dX7_rageWith_10 (by decide) (fun q2 => ?_) (fun q2 => ?_)
    · replace hf := if_t q2 hf
      refine lv_aload_n (pc := 21) hx hb dX7_rageWith_21 rfl (lv_at hl 0 rfl) ?_
      refine zk_gt (pc := 22) C hw zl_X7_73 0 rfl rfl dX7_rageWith_22 ?_
      refine lv_iload_n (pc := 25) hx hb dX7_rageWith_25 rfl (lv_at hl 2 rfl) ?_
      obtain ⟨q3, hf⟩ := ck hf
      refine zk_iald (pc := 26) C hw 9 rfl q3 dX7_rageWith_26 ?_
      refine lv_istore (pc := 27) (lv' := [(4, .int ((b_plan x2.toNatClampNeg))), (0, .ref ((L 0))), (1, .int x1), (2, .int x2), (3, .int x3)]) hx hb dX7_rageWith_27 hl (by decide) rfl (fun ls hl => ?_)
      refine lv_aload_n (pc := 29) hx hb dX7_rageWith_29 rfl (lv_at hl 1 rfl) ?_
      refine zk_gt (pc := 30) C hw zl_X7_73 0 rfl rfl dX7_rageWith_30 ?_
      refine lv_iload_n (pc := 33) hx hb dX7_rageWith_33 rfl (lv_at hl 3 rfl) ?_
      refine lv_iload_n (pc := 34) hx hb dX7_rageWith_34 rfl (lv_at hl 4 rfl) ?_
      obtain ⟨q4, hf⟩ := ck hf
      refine zk_iast (pc := 35) (w' := [xU L b_seedNow b_keptSeed b_isKept, xTe ((L 1)) b_now, xSt ((L 5)) ((L 6)) ((L 7)) ((L 8)) ((L 9)) b_staff.1, xI cy ((L 6)) 8 b_staff.2.1, xI cy ((L 7)) 8 b_staff.2.2.1, xI cy ((L 8)) 8 b_staff.2.2.2.1, xI cy ((L 9)) 8 b_staff.2.2.2.2, xWa ((L 34)) ((L 35)) b_walk.2.1 b_walk.2.2.1 b_walk.2.2.2.1 b_walk.2.2.2.2.1 b_walk.2.2.2.2.2.1 b_walk.2.2.2.2.2.2.1 b_walk.2.2.2.2.2.2.2.1 b_walk.2.2.2.2.2.2.2.2, xTe ((L 35)) b_walk.1, xI cy ((L 46)) 48 ((upd b_plan x2.toNatClampNeg x3))]) C hw 9 rfl q4 rfl dX7_rageWith_35 (fun H locs hw => ?_)
      refine lv_aload_n (pc := 36) hx hb dX7_rageWith_36 rfl (lv_at hl 1 rfl) ?_
      refine zk_gt (pc := 37) C hw zl_X7_55 0 rfl rfl dX7_rageWith_37 ?_
      refine lv_aload_n (pc := 40) hx hb dX7_rageWith_40 rfl (lv_at hl 1 rfl) ?_
      refine zk_gt (pc := 41) C hw zl_X7_73 0 rfl rfl dX7_rageWith_41 ?_
      refine lv_iload_n (pc := 44) hx hb dX7_rageWith_44 rfl (lv_at hl 2 rfl) ?_
      refine lv_aload_n (pc := 45) hx hb dX7_rageWith_45 rfl (lv_at hl 1 rfl) ?_
      refine zk_gt (pc := 46) C hw zl_X7_10 0 rfl rfl dX7_rageWith_46 ?_
      refine lv_aload_n (pc := 49) hx hb dX7_rageWith_49 rfl (lv_at hl 1 rfl) ?_
      refine zk_gt (pc := 50) C hw zl_X7_28 0 rfl rfl dX7_rageWith_50 ?_
      obtain ⟨u5, u5e, hf⟩ := bd hf
      refine zk_cV (pc := 53) (ci := 6) (q0 := 7) (rest := []) (st1 := []) (w' := [xU L b_seedNow b_keptSeed b_isKept, xTe ((L 1)) b_now, xSt ((L 5)) ((L 6)) ((L 7)) ((L 8)) ((L 9)) b_staff.1, xI cy ((L 6)) 8 b_staff.2.1, xI cy ((L 7)) 8 b_staff.2.2.1, xI cy ((L 8)) 8 b_staff.2.2.2.1, xI cy ((L 9)) 8 b_staff.2.2.2.2, xWa ((L 34)) ((L 35)) u5.2.1 u5.2.2.1 u5.2.2.2.1 u5.2.2.2.2.1 u5.2.2.2.2.2.1 u5.2.2.2.2.2.2.1 u5.2.2.2.2.2.2.2.1 u5.2.2.2.2.2.2.2.2, xTe ((L 35)) u5.1, xI cy ((L 46)) 48 ((upd b_plan x2.toNatClampNeg x3))]) (mk := [none, none, none, none, none, none, none, some (xWa ((L 34)) ((L 35)) u5.2.1 u5.2.2.1 u5.2.2.2.1 u5.2.2.2.2.1 u5.2.2.2.2.2.1 u5.2.2.2.2.2.2.1 u5.2.2.2.2.2.2.2.1 u5.2.2.2.2.2.2.2.2), some (xTe ((L 35)) u5.1), none]) C hw (c_X6_along l G cy tt ((L 34)) ((L 35)) ((L 46)) ((L 1)) ((L 5)) ((L 6)) ((L 7)) ((L 8)) ((L 9)) x1 b_walk ((upd b_plan x2.toNatClampNeg x3)) b_now b_staff _ u5e) zy_X6_along zm_X7_246 rfl rfl rfl [7, 8, 9, 1, 2, 3, 4, 5, 6] rfl rfl rfl rfl rfl rfl rfl rfl hl.1 ⟨rfl, rfl⟩ ⟨Nat.le_of_ble_eq_true rfl, Nat.le_of_ble_eq_true rfl⟩ rfl (Nat.le_of_ble_eq_true rfl) ⟨Nat.zero_le _, Nat.zero_le _⟩ dX7_rageWith_53 (fun H locs hw => ?_)
      refine lv_aload_n (pc := 56) hx hb dX7_rageWith_56 rfl (lv_at hl 1 rfl) ?_
      refine zk_gt (pc := 57) C hw zl_X7_73 0 rfl rfl dX7_rageWith_57 ?_
      refine lv_iload_n (pc := 60) hx hb dX7_rageWith_60 rfl (lv_at hl 3 rfl) ?_
      refine lv_iload (pc := 61) hx hb dX7_rageWith_61 (lv_at hl 0 rfl) ?_
      obtain ⟨q6, hf⟩ := ck hf
      refine zk_iast (pc := 63) (w' := [xU L b_seedNow b_keptSeed b_isKept, xTe ((L 1)) b_now, xSt ((L 5)) ((L 6)) ((L 7)) ((L 8)) ((L 9)) b_staff.1, xI cy ((L 6)) 8 b_staff.2.1, xI cy ((L 7)) 8 b_staff.2.2.1, xI cy ((L 8)) 8 b_staff.2.2.2.1, xI cy ((L 9)) 8 b_staff.2.2.2.2, xWa ((L 34)) ((L 35)) u5.2.1 u5.2.2.1 u5.2.2.2.1 u5.2.2.2.2.1 u5.2.2.2.2.2.1 u5.2.2.2.2.2.2.1 u5.2.2.2.2.2.2.2.1 u5.2.2.2.2.2.2.2.2, xTe ((L 35)) u5.1, xI cy ((L 46)) 48 ((upd ((upd b_plan x2.toNatClampNeg x3)) x2.toNatClampNeg ((b_plan x2.toNatClampNeg))))]) C hw 9 rfl q6 rfl dX7_rageWith_63 (fun H locs hw => ?_)
      refine lv_aload_n (pc := 64) hx hb dX7_rageWith_64 rfl (lv_at hl 1 rfl) ?_
      refine zk_gt (pc := 65) C hw zl_X7_55 0 rfl rfl dX7_rageWith_65 ?_
      refine zk_gt (pc := 68) C hw zl_X7_256 7 rfl rfl dX7_rageWith_68 ?_
      refine zk_gt (pc := 71) C hw zl_X7_330 8 rfl rfl dX7_rageWith_71 ?_
      have hf := Option.some.inj hf
      subst hf
      exact zk_reti (pc := 74) (ww := [xU L b_seedNow b_keptSeed b_isKept, xTe ((L 1)) b_now, xSt ((L 5)) ((L 6)) ((L 7)) ((L 8)) ((L 9)) b_staff.1, xI cy ((L 6)) 8 b_staff.2.1, xI cy ((L 7)) 8 b_staff.2.2.1, xI cy ((L 8)) 8 b_staff.2.2.2.1, xI cy ((L 9)) 8 b_staff.2.2.2.2, xWa ((L 34)) ((L 35)) u5.2.1 u5.2.2.1 u5.2.2.2.1 u5.2.2.2.2.1 u5.2.2.2.2.2.1 u5.2.2.2.2.2.2.1 u5.2.2.2.2.2.2.2.1 u5.2.2.2.2.2.2.2.2, xTe ((L 35)) u5.1, xI cy ((L 46)) 48 ((upd ((upd b_plan x2.toNatClampNeg x3)) x2.toNatClampNeg ((b_plan x2.toNatClampNeg))))]) C hw hr hQ dX7_rageWith_74
    · replace hf := if_f q2 hf
      refine lv_aload_n (pc := 13) hx hb dX7_rageWith_13 rfl (lv_at hl 0 rfl) ?_
      refine zk_gt (pc := 14) C hw zl_X7_10 0 rfl rfl dX7_rageWith_14 ?_
      refine zk_gt (pc := 17) C hw zl_X7_330 1 rfl rfl dX7_rageWith_17 ?_
      have hf := Option.some.inj hf
      subst hf
      exact zk_reti (pc := 20) (ww := [xU L b_seedNow b_keptSeed b_isKept, xTe ((L 1)) b_now, xSt ((L 5)) ((L 6)) ((L 7)) ((L 8)) ((L 9)) b_staff.1, xI cy ((L 6)) 8 b_staff.2.1, xI cy ((L 7)) 8 b_staff.2.2.1, xI cy ((L 8)) 8 b_staff.2.2.2.1, xI cy ((L 9)) 8 b_staff.2.2.2.2, xWa ((L 34)) ((L 35)) b_walk.2.1 b_walk.2.2.1 b_walk.2.2.2.1 b_walk.2.2.2.2.1 b_walk.2.2.2.2.2.1 b_walk.2.2.2.2.2.2.1 b_walk.2.2.2.2.2.2.2.1 b_walk.2.2.2.2.2.2.2.2, xTe ((L 35)) b_walk.1, xI cy ((L 46)) 48 b_plan]) C hw hr hQ dX7_rageWith_20
def zf_X7_matters_69 (b_now : TTe) (b_staff : TSt) (b_shelves : TSh) (k38 : Int32 → Int32 → Int32 → Int32 → TWa → (Nat → Int32) → (Nat → Int32) → Option (Int32 × TWa × (Nat → Int32) × (Nat → Int32))) (v2 : Int32) (v4 : Int32) (v5 : Int32) (v6 : Int32) (b_walk : TWa) (b_plan : Nat → Int32) (b_refusals : Nat → Int32) : Option (Int32 × TWa × (Nat → Int32) × (Nat → Int32)) := k38 v2 v4 v5 ((v6 + 1)) b_walk b_plan b_refusals
def zf_X7_matters_38 (b_now : TTe) (b_staff : TSt) (b_shelves : TSh) : Nat → Int32 → Int32 → Int32 → Int32 → TWa → (Nat → Int32) → (Nat → Int32) → Option (Int32 × TWa × (Nat → Int32) × (Nat → Int32))
  | 0, _, _, _, _, _, _, _ => none
  | n + 1, v2, v4, v5, v6, b_walk, b_plan, b_refusals => (if v2 ≤ v6 then some (v4, b_walk, b_plan, b_refusals) else (Option.bind (zf_X7_rageWith v2 v6 (((-1 : Int32))) b_now b_staff b_walk b_plan) (fun u7 => (if u7.1 ≤ v5 then zf_X7_matters_69 b_now b_staff b_shelves (zf_X7_matters_38 b_now b_staff b_shelves n) v2 v4 v5 v6 u7.2.1 u7.2.2 b_refusals else zf_X7_matters_69 b_now b_staff b_shelves (zf_X7_matters_38 b_now b_staff b_shelves n) v2 v6 u7.1 v6 u7.2.1 u7.2.2 b_refusals))))
def zf_X7_matters (x1 : Int32) (x2 : Int32) (b_now : TTe) (b_staff : TSt) (b_shelves : TSh) (b_walk : TWa) (b_plan : Nat → Int32) (b_refusals : Nat → Int32) : Option (Int32 × TWa × (Nat → Int32) × (Nat → Int32)) := (Option.bind (zf_X7_takeRoster x1 x2 true b_staff b_shelves b_plan) (fun u1 => (if u1.1 = 0 then (if x2 = 0 then (Option.bind (zf_X7_refused (((-5 : Int32))) b_refusals) (fun u4 => some (u4.1, b_walk, u1.2, u4.2))) else zf_X7_matters_38 b_now b_staff b_shelves FU x2 ((-1 : Int32)) ((-1 : Int32)) ((0 : Int32)) b_walk u1.2 b_refusals) else (Option.bind (zf_X7_refused u1.1 b_refusals) (fun u5 => some (u5.1, b_walk, u1.2, u5.2))))))
abbrev zr_X7_matters : Room := { frames := 6, cells := 0, slots := 0, locals := 134 }
set_option maxHeartbeats 4000000 in
set_option maxRecDepth 100000 in
theorem c_X7_matters (l : Launch) (G : va_G) (cy : Nat → ClassId) (tt : Nat → Nat) (L : Nat → Nat) (b_seedNow : Int32) (b_keptSeed : Int32) (b_isKept : Bool) (x1 : Int32) (x2 : Int32) (b_now : TTe) (b_staff : TSt) (b_shelves : TSh) (b_walk : TWa) (b_plan : Nat → Int32) (b_refusals : Nat → Int32) (res : Int32 × TWa × (Nat → Int32) × (Nat → Int32)) (hf : zf_X7_matters x1 x2 b_now b_staff b_shelves b_walk b_plan b_refusals = some res) : zCT l yX7_matters cX7_matters 8 (some .int) zr_X7_matters G cy tt [.ref ((L 0)), .int x1, .int x2] [xU L b_seedNow b_keptSeed b_isKept, xTe ((L 1)) b_now, xSt ((L 5)) ((L 6)) ((L 7)) ((L 8)) ((L 9)) b_staff.1, xI cy ((L 6)) 8 b_staff.2.1, xI cy ((L 7)) 8 b_staff.2.2.1, xI cy ((L 8)) 8 b_staff.2.2.2.1, xI cy ((L 9)) 8 b_staff.2.2.2.2, xSh ((L 20)) ((L 21)) ((L 22)) ((L 23)), xI cy ((L 21)) 8 b_shelves.1, xI cy ((L 22)) 8 b_shelves.2.1, xRJ cy ((L 23)) 8 (fun j => [some ((L 24)), some ((L 25)), some ((L 26)), some ((L 27)), some ((L 28)), some ((L 29)), some ((L 30)), some ((L 31))].getD j none), xJ cy ((L 24)) 40 ((b_shelves.2.2 0)), xJ cy ((L 25)) 40 ((b_shelves.2.2 1)), xJ cy ((L 26)) 40 ((b_shelves.2.2 2)), xJ cy ((L 27)) 40 ((b_shelves.2.2 3)), xJ cy ((L 28)) 40 ((b_shelves.2.2 4)), xJ cy ((L 29)) 40 ((b_shelves.2.2 5)), xJ cy ((L 30)) 40 ((b_shelves.2.2 6)), xJ cy ((L 31)) 40 ((b_shelves.2.2 7)), xWa ((L 34)) ((L 35)) b_walk.2.1 b_walk.2.2.1 b_walk.2.2.2.1 b_walk.2.2.2.2.1 b_walk.2.2.2.2.2.1 b_walk.2.2.2.2.2.2.1 b_walk.2.2.2.2.2.2.2.1 b_walk.2.2.2.2.2.2.2.2, xTe ((L 35)) b_walk.1, xI cy ((L 46)) 48 b_plan, xI cy ((L 48)) 5 b_refusals] (some (.int res.1)) [xU L b_seedNow b_keptSeed b_isKept, xTe ((L 1)) b_now, xSt ((L 5)) ((L 6)) ((L 7)) ((L 8)) ((L 9)) b_staff.1, xI cy ((L 6)) 8 b_staff.2.1, xI cy ((L 7)) 8 b_staff.2.2.1, xI cy ((L 8)) 8 b_staff.2.2.2.1, xI cy ((L 9)) 8 b_staff.2.2.2.2, xSh ((L 20)) ((L 21)) ((L 22)) ((L 23)), xI cy ((L 21)) 8 b_shelves.1, xI cy ((L 22)) 8 b_shelves.2.1, xRJ cy ((L 23)) 8 (fun j => [some ((L 24)), some ((L 25)), some ((L 26)), some ((L 27)), some ((L 28)), some ((L 29)), some ((L 30)), some ((L 31))].getD j none), xJ cy ((L 24)) 40 ((b_shelves.2.2 0)), xJ cy ((L 25)) 40 ((b_shelves.2.2 1)), xJ cy ((L 26)) 40 ((b_shelves.2.2 2)), xJ cy ((L 27)) 40 ((b_shelves.2.2 3)), xJ cy ((L 28)) 40 ((b_shelves.2.2 4)), xJ cy ((L 29)) 40 ((b_shelves.2.2 5)), xJ cy ((L 30)) 40 ((b_shelves.2.2 6)), xJ cy ((L 31)) 40 ((b_shelves.2.2 7)), xWa ((L 34)) ((L 35)) res.2.1.2.1 res.2.1.2.2.1 res.2.1.2.2.2.1 res.2.1.2.2.2.2.1 res.2.1.2.2.2.2.2.1 res.2.1.2.2.2.2.2.2.1 res.2.1.2.2.2.2.2.2.2.1 res.2.1.2.2.2.2.2.2.2.2, xTe ((L 35)) res.2.1.1, xI cy ((L 46)) 48 res.2.2.1, xI cy ((L 48)) 5 res.2.2.2] := by
  refine zk_start zn_X7 (Nat.le_of_ble_eq_true rfl) ?_
  intro p e s m args below meth c A ls Q C hr hQ hw hl
  have C : zCx p m c s args meth cX7_matters 8 RX7 G cy tt A := C
  have hx := C.1.1
  have hb := C.1.2.1
  have hl : lv_has ls 8 [(0, .ref ((L 0))), (1, .int x1), (2, .int x2)] := hl
  have J69 : ∀ (k38 : Int32 → Int32 → Int32 → Int32 → TWa → (Nat → Int32) → (Nat → Int32) → Option (Int32 × TWa × (Nat → Int32) × (Nat → Int32))) (K38 : ∀ (v2 : Int32) (v4 : Int32) (v5 : Int32) (v6 : Int32) (b_walk : TWa) (b_plan : Nat → Int32) (b_refusals : Nat → Int32) (H : Heap) (locs : List Loc) (ls : Array Slot), k38 v2 v4 v5 v6 b_walk b_plan b_refusals = some res → zWd G A s.heap H locs [xU L b_seedNow b_keptSeed b_isKept, xTe ((L 1)) b_now, xSt ((L 5)) ((L 6)) ((L 7)) ((L 8)) ((L 9)) b_staff.1, xI cy ((L 6)) 8 b_staff.2.1, xI cy ((L 7)) 8 b_staff.2.2.1, xI cy ((L 8)) 8 b_staff.2.2.2.1, xI cy ((L 9)) 8 b_staff.2.2.2.2, xSh ((L 20)) ((L 21)) ((L 22)) ((L 23)), xI cy ((L 21)) 8 b_shelves.1, xI cy ((L 22)) 8 b_shelves.2.1, xRJ cy ((L 23)) 8 (fun j => [some ((L 24)), some ((L 25)), some ((L 26)), some ((L 27)), some ((L 28)), some ((L 29)), some ((L 30)), some ((L 31))].getD j none), xJ cy ((L 24)) 40 ((b_shelves.2.2 0)), xJ cy ((L 25)) 40 ((b_shelves.2.2 1)), xJ cy ((L 26)) 40 ((b_shelves.2.2 2)), xJ cy ((L 27)) 40 ((b_shelves.2.2 3)), xJ cy ((L 28)) 40 ((b_shelves.2.2 4)), xJ cy ((L 29)) 40 ((b_shelves.2.2 5)), xJ cy ((L 30)) 40 ((b_shelves.2.2 6)), xJ cy ((L 31)) 40 ((b_shelves.2.2 7)), xWa ((L 34)) ((L 35)) b_walk.2.1 b_walk.2.2.1 b_walk.2.2.2.1 b_walk.2.2.2.2.1 b_walk.2.2.2.2.2.1 b_walk.2.2.2.2.2.2.1 b_walk.2.2.2.2.2.2.2.1 b_walk.2.2.2.2.2.2.2.2, xTe ((L 35)) b_walk.1, xI cy ((L 46)) 48 b_plan, xI cy ((L 48)) 5 b_refusals] → lv_has ls 8 [(0, .ref ((L 0))), (2, .int v2), (4, .int v4), (5, .int v5), (6, .int v6)] → W p l e zr_X7_matters s m args below meth c H locs 0 0 Q (F0 m 38 ls [])), ∀ (v2 : Int32) (v4 : Int32) (v5 : Int32) (v6 : Int32) (b_walk : TWa) (b_plan : Nat → Int32) (b_refusals : Nat → Int32) (H : Heap) (locs : List Loc) (ls : Array Slot), zf_X7_matters_69 b_now b_staff b_shelves k38 v2 v4 v5 v6 b_walk b_plan b_refusals = some res → zWd G A s.heap H locs [xU L b_seedNow b_keptSeed b_isKept, xTe ((L 1)) b_now, xSt ((L 5)) ((L 6)) ((L 7)) ((L 8)) ((L 9)) b_staff.1, xI cy ((L 6)) 8 b_staff.2.1, xI cy ((L 7)) 8 b_staff.2.2.1, xI cy ((L 8)) 8 b_staff.2.2.2.1, xI cy ((L 9)) 8 b_staff.2.2.2.2, xSh ((L 20)) ((L 21)) ((L 22)) ((L 23)), xI cy ((L 21)) 8 b_shelves.1, xI cy ((L 22)) 8 b_shelves.2.1, xRJ cy ((L 23)) 8 (fun j => [some ((L 24)), some ((L 25)), some ((L 26)), some ((L 27)), some ((L 28)), some ((L 29)), some ((L 30)), some ((L 31))].getD j none), xJ cy ((L 24)) 40 ((b_shelves.2.2 0)), xJ cy ((L 25)) 40 ((b_shelves.2.2 1)), xJ cy ((L 26)) 40 ((b_shelves.2.2 2)), xJ cy ((L 27)) 40 ((b_shelves.2.2 3)), xJ cy ((L 28)) 40 ((b_shelves.2.2 4)), xJ cy ((L 29)) 40 ((b_shelves.2.2 5)), xJ cy ((L 30)) 40 ((b_shelves.2.2 6)), xJ cy ((L 31)) 40 ((b_shelves.2.2 7)), xWa ((L 34)) ((L 35)) b_walk.2.1 b_walk.2.2.1 b_walk.2.2.2.1 b_walk.2.2.2.2.1 b_walk.2.2.2.2.2.1 b_walk.2.2.2.2.2.2.1 b_walk.2.2.2.2.2.2.2.1 b_walk.2.2.2.2.2.2.2.2, xTe ((L 35)) b_walk.1, xI cy ((L 46)) 48 b_plan, xI cy ((L 48)) 5 b_refusals] → lv_has ls 8 [(0, .ref ((L 0))), (2, .int v2), (4, .int v4), (5, .int v5), (6, .int v6)] → W p l e zr_X7_matters s m args below meth c H locs 0 0 Q (F0 m 69 ls []) := by
    intro k38 K38 v2 v4 v5 v6 b_walk b_plan b_refusals H locs ls hf hw hl
    rw [zf_X7_matters_69] at hf
    refine lv_iinc (pc := 69) (v := (v6 + 1)) (lv' := [(6, .int ((v6 + 1))), (0, .ref ((L 0))), (2, .int v2), (4, .int v4), (5, .int v5)]) hx hb dX7_matters_69 hl (k := 4) rfl rfl (by decide) rfl (fun ls hl => ?_)
    refine lv_goto (pc := 72) (tgt := 38) hx hb dX7_matters_72 (by decide) ?_
    exact K38 v2 v4 v5 ((v6 + 1)) b_walk b_plan b_refusals _ _ _ hf hw (lv_sub hl [1, 2, 3, 4, 0] rfl)
  have J38 : ∀ (n : Nat), ∀ (v2 : Int32) (v4 : Int32) (v5 : Int32) (v6 : Int32) (b_walk : TWa) (b_plan : Nat → Int32) (b_refusals : Nat → Int32) (H : Heap) (locs : List Loc) (ls : Array Slot), zf_X7_matters_38 b_now b_staff b_shelves n v2 v4 v5 v6 b_walk b_plan b_refusals = some res → zWd G A s.heap H locs [xU L b_seedNow b_keptSeed b_isKept, xTe ((L 1)) b_now, xSt ((L 5)) ((L 6)) ((L 7)) ((L 8)) ((L 9)) b_staff.1, xI cy ((L 6)) 8 b_staff.2.1, xI cy ((L 7)) 8 b_staff.2.2.1, xI cy ((L 8)) 8 b_staff.2.2.2.1, xI cy ((L 9)) 8 b_staff.2.2.2.2, xSh ((L 20)) ((L 21)) ((L 22)) ((L 23)), xI cy ((L 21)) 8 b_shelves.1, xI cy ((L 22)) 8 b_shelves.2.1, xRJ cy ((L 23)) 8 (fun j => [some ((L 24)), some ((L 25)), some ((L 26)), some ((L 27)), some ((L 28)), some ((L 29)), some ((L 30)), some ((L 31))].getD j none), xJ cy ((L 24)) 40 ((b_shelves.2.2 0)), xJ cy ((L 25)) 40 ((b_shelves.2.2 1)), xJ cy ((L 26)) 40 ((b_shelves.2.2 2)), xJ cy ((L 27)) 40 ((b_shelves.2.2 3)), xJ cy ((L 28)) 40 ((b_shelves.2.2 4)), xJ cy ((L 29)) 40 ((b_shelves.2.2 5)), xJ cy ((L 30)) 40 ((b_shelves.2.2 6)), xJ cy ((L 31)) 40 ((b_shelves.2.2 7)), xWa ((L 34)) ((L 35)) b_walk.2.1 b_walk.2.2.1 b_walk.2.2.2.1 b_walk.2.2.2.2.1 b_walk.2.2.2.2.2.1 b_walk.2.2.2.2.2.2.1 b_walk.2.2.2.2.2.2.2.1 b_walk.2.2.2.2.2.2.2.2, xTe ((L 35)) b_walk.1, xI cy ((L 46)) 48 b_plan, xI cy ((L 48)) 5 b_refusals] → lv_has ls 8 [(0, .ref ((L 0))), (2, .int v2), (4, .int v4), (5, .int v5), (6, .int v6)] → W p l e zr_X7_matters s m args below meth c H locs 0 0 Q (F0 m 38 ls []) := by
    intro n
    induction n with
    | zero =>
      intro v2 v4 v5 v6 b_walk b_plan b_refusals H locs ls hf hw hl
      rw [zf_X7_matters_38] at hf
      cases hf
    | succ n ih =>
      intro v2 v4 v5 v6 b_walk b_plan b_refusals H locs ls hf hw hl
      rw [zf_X7_matters_38] at hf
      refine lv_iload (pc := 38) hx hb dX7_matters_38 (lv_at hl 4 rfl) ?_
      refine lv_iload_n (pc := 40) hx hb dX7_matters_40 rfl (lv_at hl 1 rfl) ?_
      refine lv_icmp_ge (pc := 41) (tgt := 75) hx hb dX7_matters_41 (by decide) (fun q6 => ?_) (fun q6 => ?_)
      · replace hf := if_t q6 hf
        refine lv_iload (pc := 75) hx hb dX7_matters_75 (lv_at hl 2 rfl) ?_
        have hf := Option.some.inj hf
        subst hf
        exact zk_reti (pc := 77) (ww := [xU L b_seedNow b_keptSeed b_isKept, xTe ((L 1)) b_now, xSt ((L 5)) ((L 6)) ((L 7)) ((L 8)) ((L 9)) b_staff.1, xI cy ((L 6)) 8 b_staff.2.1, xI cy ((L 7)) 8 b_staff.2.2.1, xI cy ((L 8)) 8 b_staff.2.2.2.1, xI cy ((L 9)) 8 b_staff.2.2.2.2, xSh ((L 20)) ((L 21)) ((L 22)) ((L 23)), xI cy ((L 21)) 8 b_shelves.1, xI cy ((L 22)) 8 b_shelves.2.1, xRJ cy ((L 23)) 8 (fun j => [some ((L 24)), some ((L 25)), some ((L 26)), some ((L 27)), some ((L 28)), some ((L 29)), some ((L 30)), some ((L 31))].getD j none), xJ cy ((L 24)) 40 ((b_shelves.2.2 0)), xJ cy ((L 25)) 40 ((b_shelves.2.2 1)), xJ cy ((L 26)) 40 ((b_shelves.2.2 2)), xJ cy ((L 27)) 40 ((b_shelves.2.2 3)), xJ cy ((L 28)) 40 ((b_shelves.2.2 4)), xJ cy ((L 29)) 40 ((b_shelves.2.2 5)), xJ cy ((L 30)) 40 ((b_shelves.2.2 6)), xJ cy ((L 31)) 40 ((b_shelves.2.2 7)), xWa ((L 34)) ((L 35)) b_walk.2.1 b_walk.2.2.1 b_walk.2.2.2.1 b_walk.2.2.2.2.1 b_walk.2.2.2.2.2.1 b_walk.2.2.2.2.2.2.1 b_walk.2.2.2.2.2.2.2.1 b_walk.2.2.2.2.2.2.2.2, xTe ((L 35)) b_walk.1, xI cy ((L 46)) 48 b_plan, xI cy ((L 48)) 5 b_refusals]) C hw hr hQ dX7_matters_77
      · replace hf := if_f q6 hf
        refine lv_aload_n (pc := 44) hx hb dX7_matters_44 rfl (lv_at hl 0 rfl) ?_
        refine lv_iload_n (pc := 45) hx hb dX7_matters_45 rfl (lv_at hl 1 rfl) ?_
        refine lv_iload (pc := 46) hx hb dX7_matters_46 (lv_at hl 4 rfl) ?_
        refine lv_iconst (pc := 48) (v := -1) hx hb dX7_matters_48 (by decide) ?_
        obtain ⟨u7, u7e, hf⟩ := bd hf
        refine zk_cV (pc := 49) (ci := 7) (q0 := 0) (rest := []) (st1 := [.int u7.1]) (w' := [xU L b_seedNow b_keptSeed b_isKept, xTe ((L 1)) b_now, xSt ((L 5)) ((L 6)) ((L 7)) ((L 8)) ((L 9)) b_staff.1, xI cy ((L 6)) 8 b_staff.2.1, xI cy ((L 7)) 8 b_staff.2.2.1, xI cy ((L 8)) 8 b_staff.2.2.2.1, xI cy ((L 9)) 8 b_staff.2.2.2.2, xSh ((L 20)) ((L 21)) ((L 22)) ((L 23)), xI cy ((L 21)) 8 b_shelves.1, xI cy ((L 22)) 8 b_shelves.2.1, xRJ cy ((L 23)) 8 (fun j => [some ((L 24)), some ((L 25)), some ((L 26)), some ((L 27)), some ((L 28)), some ((L 29)), some ((L 30)), some ((L 31))].getD j none), xJ cy ((L 24)) 40 ((b_shelves.2.2 0)), xJ cy ((L 25)) 40 ((b_shelves.2.2 1)), xJ cy ((L 26)) 40 ((b_shelves.2.2 2)), xJ cy ((L 27)) 40 ((b_shelves.2.2 3)), xJ cy ((L 28)) 40 ((b_shelves.2.2 4)), xJ cy ((L 29)) 40 ((b_shelves.2.2 5)), xJ cy ((L 30)) 40 ((b_shelves.2.2 6)), xJ cy ((L 31)) 40 ((b_shelves.2.2 7)), xWa ((L 34)) ((L 35)) u7.2.1.2.1 u7.2.1.2.2.1 u7.2.1.2.2.2.1 u7.2.1.2.2.2.2.1 u7.2.1.2.2.2.2.2.1 u7.2.1.2.2.2.2.2.2.1 u7.2.1.2.2.2.2.2.2.2.1 u7.2.1.2.2.2.2.2.2.2.2, xTe ((L 35)) u7.2.1.1, xI cy ((L 46)) 48 u7.2.2, xI cy ((L 48)) 5 b_refusals]) (mk := [none, none, none, none, none, none, none, none, none, none, none, none, none, none, none, none, none, none, none, some (xWa ((L 34)) ((L 35)) u7.2.1.2.1 u7.2.1.2.2.1 u7.2.1.2.2.2.1 u7.2.1.2.2.2.2.1 u7.2.1.2.2.2.2.2.1 u7.2.1.2.2.2.2.2.2.1 u7.2.1.2.2.2.2.2.2.2.1 u7.2.1.2.2.2.2.2.2.2.2), some (xTe ((L 35)) u7.2.1.1), some (xI cy ((L 46)) 48 u7.2.2), none]) C hw (c_X7_rageWith l G cy tt L b_seedNow b_keptSeed b_isKept v2 v6 (((-1 : Int32))) b_now b_staff b_walk b_plan _ u7e) zy_X7_rageWith zm_X7_348 rfl rfl rfl [0, 1, 2, 3, 4, 5, 6, 19, 20, 21] rfl rfl rfl rfl rfl rfl rfl rfl hl.1 ⟨rfl, rfl⟩ ⟨Nat.le_of_ble_eq_true rfl, Nat.le_of_ble_eq_true rfl⟩ rfl (Nat.le_of_ble_eq_true rfl) ⟨Nat.zero_le _, Nat.zero_le _⟩ dX7_matters_49 (fun H locs hw => ?_)
        refine lv_istore (pc := 52) (lv' := [(7, .int u7.1), (0, .ref ((L 0))), (2, .int v2), (4, .int v4), (5, .int v5), (6, .int v6)]) hx hb dX7_matters_52 hl (by decide) rfl (fun ls hl => ?_)
        refine lv_iload (pc := 54) hx hb dX7_matters_54 (lv_at hl 0 rfl) ?_
        refine lv_iload (pc := 56) hx hb dX7_matters_56 (lv_at hl 4 rfl) ?_
        refine lv_icmp_le (pc := 58) (tgt := 69) hx hb dX7_matters_58 (by decide) (fun q8 => ?_) (fun q8 => ?_)
        · replace hf := if_t q8 hf
          exact J69 (zf_X7_matters_38 b_now b_staff b_shelves n) ih v2 v4 v5 v6 u7.2.1 u7.2.2 b_refusals _ _ _ hf hw (lv_sub hl [1, 2, 3, 4, 5] rfl)
        · replace hf := if_f q8 hf
          refine lv_iload (pc := 61) hx hb dX7_matters_61 (lv_at hl 0 rfl) ?_
          refine lv_istore (pc := 63) (lv' := [(5, .int u7.1), (7, .int u7.1), (0, .ref ((L 0))), (2, .int v2), (4, .int v4), (6, .int v6)]) hx hb dX7_matters_63 hl (by decide) rfl (fun ls hl => ?_)
          refine lv_iload (pc := 65) hx hb dX7_matters_65 (lv_at hl 5 rfl) ?_
          refine lv_istore (pc := 67) (lv' := [(4, .int v6), (5, .int u7.1), (7, .int u7.1), (0, .ref ((L 0))), (2, .int v2), (6, .int v6)]) hx hb dX7_matters_67 hl (by decide) rfl (fun ls hl => ?_)
          exact J69 (zf_X7_matters_38 b_now b_staff b_shelves n) ih v2 v6 u7.1 v6 u7.2.1 u7.2.2 b_refusals _ _ _ hf hw (lv_sub hl [3, 4, 0, 1, 5] rfl)
  rw [zf_X7_matters] at hf
  refine lv_aload_n (pc := 0) hx hb dX7_matters_0 rfl (lv_at hl 0 rfl) ?_
  refine lv_iload_n (pc := 1) hx hb dX7_matters_1 rfl (lv_at hl 1 rfl) ?_
  refine lv_iload_n (pc := 2) hx hb dX7_matters_2 rfl (lv_at hl 2 rfl) ?_
  refine lv_iconst (pc := 3) (v := 1) hx hb dX7_matters_3 (by decide) ?_
  obtain ⟨u1, u1e, hf⟩ := bd hf
  refine zk_cV (pc := 4) (ci := 7) (q0 := 0) (rest := []) (st1 := [.int u1.1]) (w' := [xU L b_seedNow b_keptSeed b_isKept, xTe ((L 1)) b_now, xSt ((L 5)) ((L 6)) ((L 7)) ((L 8)) ((L 9)) b_staff.1, xI cy ((L 6)) 8 b_staff.2.1, xI cy ((L 7)) 8 b_staff.2.2.1, xI cy ((L 8)) 8 b_staff.2.2.2.1, xI cy ((L 9)) 8 b_staff.2.2.2.2, xSh ((L 20)) ((L 21)) ((L 22)) ((L 23)), xI cy ((L 21)) 8 b_shelves.1, xI cy ((L 22)) 8 b_shelves.2.1, xRJ cy ((L 23)) 8 (fun j => [some ((L 24)), some ((L 25)), some ((L 26)), some ((L 27)), some ((L 28)), some ((L 29)), some ((L 30)), some ((L 31))].getD j none), xJ cy ((L 24)) 40 ((b_shelves.2.2 0)), xJ cy ((L 25)) 40 ((b_shelves.2.2 1)), xJ cy ((L 26)) 40 ((b_shelves.2.2 2)), xJ cy ((L 27)) 40 ((b_shelves.2.2 3)), xJ cy ((L 28)) 40 ((b_shelves.2.2 4)), xJ cy ((L 29)) 40 ((b_shelves.2.2 5)), xJ cy ((L 30)) 40 ((b_shelves.2.2 6)), xJ cy ((L 31)) 40 ((b_shelves.2.2 7)), xWa ((L 34)) ((L 35)) b_walk.2.1 b_walk.2.2.1 b_walk.2.2.2.1 b_walk.2.2.2.2.1 b_walk.2.2.2.2.2.1 b_walk.2.2.2.2.2.2.1 b_walk.2.2.2.2.2.2.2.1 b_walk.2.2.2.2.2.2.2.2, xTe ((L 35)) b_walk.1, xI cy ((L 46)) 48 u1.2, xI cy ((L 48)) 5 b_refusals]) (mk := [none, none, none, none, none, none, none, none, none, none, none, none, none, none, none, none, none, none, none, none, none, some (xI cy ((L 46)) 48 u1.2), none]) C hw (c_X7_takeRoster l G cy tt L b_seedNow b_keptSeed b_isKept x1 x2 true b_staff b_shelves b_plan _ u1e) zy_X7_takeRoster zm_X7_242 rfl rfl rfl [0, 2, 3, 4, 5, 6, 7, 8, 9, 10, 11, 12, 13, 14, 15, 16, 17, 18, 21] rfl rfl rfl rfl rfl rfl rfl rfl hl.1 ⟨rfl, rfl⟩ ⟨Nat.le_of_ble_eq_true rfl, Nat.le_of_ble_eq_true rfl⟩ rfl (Nat.le_of_ble_eq_true rfl) ⟨Nat.zero_le _, Nat.zero_le _⟩ dX7_matters_4 (fun H locs hw => ?_)
  refine lv_istore_n (pc := 7) (lv' := [(3, .int u1.1), (0, .ref ((L 0))), (1, .int x1), (2, .int x2)]) hx hb dX7_matters_7 rfl hl (by decide) rfl (fun ls hl => ?_)
  refine lv_iload_n (pc := 8) hx hb dX7_matters_8 rfl (lv_at hl 0 rfl) ?_
  refine lv_if_eq (pc := 9) (tgt := 18) hx hb dX7_matters_9 (by decide) (fun q2 => ?_) (fun q2 => ?_)
  · replace hf := if_t q2 hf
    refine lv_iload_n (pc := 18) hx hb dX7_matters_18 rfl (lv_at hl 3 rfl) ?_
    refine lv_if_ne (pc := 19) (tgt := 29) hx hb dX7_matters_19 (by decide) (fun q3 => ?_) (fun q3 => ?_)
    · replace hf := if_f q3 hf
      refine lv_iconst (pc := 29) (v := -1) hx hb dX7_matters_29 (by decide) ?_
      refine lv_istore (pc := 30) (lv' := [(4, .int ((-1 : Int32))), (3, .int u1.1), (0, .ref ((L 0))), (1, .int x1), (2, .int x2)]) hx hb dX7_matters_30 hl (by decide) rfl (fun ls hl => ?_)
      refine lv_iconst (pc := 32) (v := -1) hx hb dX7_matters_32 (by decide) ?_
      refine lv_istore (pc := 33) (lv' := [(5, .int ((-1 : Int32))), (4, .int ((-1 : Int32))), (3, .int u1.1), (0, .ref ((L 0))), (1, .int x1), (2, .int x2)]) hx hb dX7_matters_33 hl (by decide) rfl (fun ls hl => ?_)
      refine lv_iconst (pc := 35) (v := 0) hx hb dX7_matters_35 (by decide) ?_
      refine lv_istore (pc := 36) (lv' := [(6, .int ((0 : Int32))), (5, .int ((-1 : Int32))), (4, .int ((-1 : Int32))), (3, .int u1.1), (0, .ref ((L 0))), (1, .int x1), (2, .int x2)]) hx hb dX7_matters_36 hl (by decide) rfl (fun ls hl => ?_)
      exact J38 FU x2 ((-1 : Int32)) ((-1 : Int32)) ((0 : Int32)) b_walk u1.2 b_refusals _ _ _ hf hw (lv_sub hl [4, 6, 2, 1, 0] rfl)
    · replace hf := if_t q3 hf
      refine lv_aload_n (pc := 22) hx hb dX7_matters_22 rfl (lv_at hl 1 rfl) ?_
      refine lv_bipush (pc := 23) (v := -5) hx hb dX7_matters_23 (by decide) ?_
      obtain ⟨u4, u4e, hf⟩ := bd hf
      refine zk_cV (pc := 25) (ci := 7) (q0 := 0) (rest := []) (st1 := [.int u4.1]) (w' := [xU L b_seedNow b_keptSeed b_isKept, xTe ((L 1)) b_now, xSt ((L 5)) ((L 6)) ((L 7)) ((L 8)) ((L 9)) b_staff.1, xI cy ((L 6)) 8 b_staff.2.1, xI cy ((L 7)) 8 b_staff.2.2.1, xI cy ((L 8)) 8 b_staff.2.2.2.1, xI cy ((L 9)) 8 b_staff.2.2.2.2, xSh ((L 20)) ((L 21)) ((L 22)) ((L 23)), xI cy ((L 21)) 8 b_shelves.1, xI cy ((L 22)) 8 b_shelves.2.1, xRJ cy ((L 23)) 8 (fun j => [some ((L 24)), some ((L 25)), some ((L 26)), some ((L 27)), some ((L 28)), some ((L 29)), some ((L 30)), some ((L 31))].getD j none), xJ cy ((L 24)) 40 ((b_shelves.2.2 0)), xJ cy ((L 25)) 40 ((b_shelves.2.2 1)), xJ cy ((L 26)) 40 ((b_shelves.2.2 2)), xJ cy ((L 27)) 40 ((b_shelves.2.2 3)), xJ cy ((L 28)) 40 ((b_shelves.2.2 4)), xJ cy ((L 29)) 40 ((b_shelves.2.2 5)), xJ cy ((L 30)) 40 ((b_shelves.2.2 6)), xJ cy ((L 31)) 40 ((b_shelves.2.2 7)), xWa ((L 34)) ((L 35)) b_walk.2.1 b_walk.2.2.1 b_walk.2.2.2.1 b_walk.2.2.2.2.1 b_walk.2.2.2.2.2.1 b_walk.2.2.2.2.2.2.1 b_walk.2.2.2.2.2.2.2.1 b_walk.2.2.2.2.2.2.2.2, xTe ((L 35)) b_walk.1, xI cy ((L 46)) 48 u1.2, xI cy ((L 48)) 5 u4.2]) (mk := [none, none, none, none, none, none, none, none, none, none, none, none, none, none, none, none, none, none, none, none, none, none, some (xI cy ((L 48)) 5 u4.2)]) C hw (c_X7_refused l G cy tt L b_seedNow b_keptSeed b_isKept (((-5 : Int32))) b_refusals _ u4e) zy_X7_refused zm_X7_103 rfl rfl rfl [0, 22] rfl rfl rfl rfl rfl rfl rfl rfl hl.1 ⟨rfl, rfl⟩ ⟨Nat.le_of_ble_eq_true rfl, Nat.le_of_ble_eq_true rfl⟩ rfl (Nat.le_of_ble_eq_true rfl) ⟨Nat.zero_le _, Nat.zero_le _⟩ dX7_matters_25 (fun H locs hw => ?_)
      have hf := Option.some.inj hf
      subst hf
      exact zk_reti (pc := 28) (ww := [xU L b_seedNow b_keptSeed b_isKept, xTe ((L 1)) b_now, xSt ((L 5)) ((L 6)) ((L 7)) ((L 8)) ((L 9)) b_staff.1, xI cy ((L 6)) 8 b_staff.2.1, xI cy ((L 7)) 8 b_staff.2.2.1, xI cy ((L 8)) 8 b_staff.2.2.2.1, xI cy ((L 9)) 8 b_staff.2.2.2.2, xSh ((L 20)) ((L 21)) ((L 22)) ((L 23)), xI cy ((L 21)) 8 b_shelves.1, xI cy ((L 22)) 8 b_shelves.2.1, xRJ cy ((L 23)) 8 (fun j => [some ((L 24)), some ((L 25)), some ((L 26)), some ((L 27)), some ((L 28)), some ((L 29)), some ((L 30)), some ((L 31))].getD j none), xJ cy ((L 24)) 40 ((b_shelves.2.2 0)), xJ cy ((L 25)) 40 ((b_shelves.2.2 1)), xJ cy ((L 26)) 40 ((b_shelves.2.2 2)), xJ cy ((L 27)) 40 ((b_shelves.2.2 3)), xJ cy ((L 28)) 40 ((b_shelves.2.2 4)), xJ cy ((L 29)) 40 ((b_shelves.2.2 5)), xJ cy ((L 30)) 40 ((b_shelves.2.2 6)), xJ cy ((L 31)) 40 ((b_shelves.2.2 7)), xWa ((L 34)) ((L 35)) b_walk.2.1 b_walk.2.2.1 b_walk.2.2.2.1 b_walk.2.2.2.2.1 b_walk.2.2.2.2.2.1 b_walk.2.2.2.2.2.2.1 b_walk.2.2.2.2.2.2.2.1 b_walk.2.2.2.2.2.2.2.2, xTe ((L 35)) b_walk.1, xI cy ((L 46)) 48 u1.2, xI cy ((L 48)) 5 u4.2]) C hw hr hQ dX7_matters_28
  · replace hf := if_f q2 hf
    refine lv_aload_n (pc := 12) hx hb dX7_matters_12 rfl (lv_at hl 1 rfl) ?_
    refine lv_iload_n (pc := 13) hx hb dX7_matters_13 rfl (lv_at hl 0 rfl) ?_
    obtain ⟨u5, u5e, hf⟩ := bd hf
    refine zk_cV (pc := 14) (ci := 7) (q0 := 0) (rest := []) (st1 := [.int u5.1]) (w' := [xU L b_seedNow b_keptSeed b_isKept, xTe ((L 1)) b_now, xSt ((L 5)) ((L 6)) ((L 7)) ((L 8)) ((L 9)) b_staff.1, xI cy ((L 6)) 8 b_staff.2.1, xI cy ((L 7)) 8 b_staff.2.2.1, xI cy ((L 8)) 8 b_staff.2.2.2.1, xI cy ((L 9)) 8 b_staff.2.2.2.2, xSh ((L 20)) ((L 21)) ((L 22)) ((L 23)), xI cy ((L 21)) 8 b_shelves.1, xI cy ((L 22)) 8 b_shelves.2.1, xRJ cy ((L 23)) 8 (fun j => [some ((L 24)), some ((L 25)), some ((L 26)), some ((L 27)), some ((L 28)), some ((L 29)), some ((L 30)), some ((L 31))].getD j none), xJ cy ((L 24)) 40 ((b_shelves.2.2 0)), xJ cy ((L 25)) 40 ((b_shelves.2.2 1)), xJ cy ((L 26)) 40 ((b_shelves.2.2 2)), xJ cy ((L 27)) 40 ((b_shelves.2.2 3)), xJ cy ((L 28)) 40 ((b_shelves.2.2 4)), xJ cy ((L 29)) 40 ((b_shelves.2.2 5)), xJ cy ((L 30)) 40 ((b_shelves.2.2 6)), xJ cy ((L 31)) 40 ((b_shelves.2.2 7)), xWa ((L 34)) ((L 35)) b_walk.2.1 b_walk.2.2.1 b_walk.2.2.2.1 b_walk.2.2.2.2.1 b_walk.2.2.2.2.2.1 b_walk.2.2.2.2.2.2.1 b_walk.2.2.2.2.2.2.2.1 b_walk.2.2.2.2.2.2.2.2, xTe ((L 35)) b_walk.1, xI cy ((L 46)) 48 u1.2, xI cy ((L 48)) 5 u5.2]) (mk := [none, none, none, none, none, none, none, none, none, none, none, none, none, none, none, none, none, none, none, none, none, none, some (xI cy ((L 48)) 5 u5.2)]) C hw (c_X7_refused l G cy tt L b_seedNow b_keptSeed b_isKept u1.1 b_refusals _ u5e) zy_X7_refused zm_X7_103 rfl rfl rfl [0, 22] rfl rfl rfl rfl rfl rfl rfl rfl hl.1 ⟨rfl, rfl⟩ ⟨Nat.le_of_ble_eq_true rfl, Nat.le_of_ble_eq_true rfl⟩ rfl (Nat.le_of_ble_eq_true rfl) ⟨Nat.zero_le _, Nat.zero_le _⟩ dX7_matters_14 (fun H locs hw => ?_)
    have hf := Option.some.inj hf
    subst hf
    exact zk_reti (pc := 17) (ww := [xU L b_seedNow b_keptSeed b_isKept, xTe ((L 1)) b_now, xSt ((L 5)) ((L 6)) ((L 7)) ((L 8)) ((L 9)) b_staff.1, xI cy ((L 6)) 8 b_staff.2.1, xI cy ((L 7)) 8 b_staff.2.2.1, xI cy ((L 8)) 8 b_staff.2.2.2.1, xI cy ((L 9)) 8 b_staff.2.2.2.2, xSh ((L 20)) ((L 21)) ((L 22)) ((L 23)), xI cy ((L 21)) 8 b_shelves.1, xI cy ((L 22)) 8 b_shelves.2.1, xRJ cy ((L 23)) 8 (fun j => [some ((L 24)), some ((L 25)), some ((L 26)), some ((L 27)), some ((L 28)), some ((L 29)), some ((L 30)), some ((L 31))].getD j none), xJ cy ((L 24)) 40 ((b_shelves.2.2 0)), xJ cy ((L 25)) 40 ((b_shelves.2.2 1)), xJ cy ((L 26)) 40 ((b_shelves.2.2 2)), xJ cy ((L 27)) 40 ((b_shelves.2.2 3)), xJ cy ((L 28)) 40 ((b_shelves.2.2 4)), xJ cy ((L 29)) 40 ((b_shelves.2.2 5)), xJ cy ((L 30)) 40 ((b_shelves.2.2 6)), xJ cy ((L 31)) 40 ((b_shelves.2.2 7)), xWa ((L 34)) ((L 35)) b_walk.2.1 b_walk.2.2.1 b_walk.2.2.2.1 b_walk.2.2.2.2.1 b_walk.2.2.2.2.2.1 b_walk.2.2.2.2.2.2.1 b_walk.2.2.2.2.2.2.2.1 b_walk.2.2.2.2.2.2.2.2, xTe ((L 35)) b_walk.1, xI cy ((L 46)) 48 u1.2, xI cy ((L 48)) 5 u5.2]) C hw hr hQ dX7_matters_17
def zf_X7_instead_92 (b_now : TTe) (b_staff : TSt) (b_shelves : TSh) (k44 : Int32 → Int32 → Int32 → Int32 → Int32 → TWa → (Nat → Int32) → (Nat → Int32) → Option (Int32 × TWa × (Nat → Int32) × (Nat → Int32))) (v2 : Int32) (v3 : Int32) (v5 : Int32) (v6 : Int32) (v7 : Int32) (b_walk : TWa) (b_plan : Nat → Int32) (b_refusals : Nat → Int32) : Option (Int32 × TWa × (Nat → Int32) × (Nat → Int32)) := k44 v2 v3 v5 v6 ((v7 + 1)) b_walk b_plan b_refusals
def zf_X7_instead_44 (b_now : TTe) (b_staff : TSt) (b_shelves : TSh) : Nat → Int32 → Int32 → Int32 → Int32 → Int32 → TWa → (Nat → Int32) → (Nat → Int32) → Option (Int32 × TWa × (Nat → Int32) × (Nat → Int32))
  | 0, _, _, _, _, _, _, _, _ => none
  | n + 1, v2, v3, v5, v6, v7, b_walk, b_plan, b_refusals => (Option.bind (zf_X7_orderCount b_staff) (fun u6 => (if u6 ≤ v7 then some (v5, b_walk, b_plan, b_refusals) else (Option.bind (zf_X2_orderAt v7 b_staff) (fun u8 => (Option.bind (zf_X7_rageWith v2 v3 u8 b_now b_staff b_walk b_plan) (fun u9 => (if v6 ≤ u9.1 then zf_X7_instead_92 b_now b_staff b_shelves (zf_X7_instead_44 b_now b_staff b_shelves n) v2 v3 v5 v6 v7 u9.2.1 u9.2.2 b_refusals else (Option.bind (zf_X2_orderAt v7 b_staff) (fun u11 => zf_X7_instead_92 b_now b_staff b_shelves (zf_X7_instead_44 b_now b_staff b_shelves n) v2 v3 u11 u9.1 v7 u9.2.1 u9.2.2 b_refusals))))))))))
def zf_X7_instead_17 (b_now : TTe) (b_staff : TSt) (b_shelves : TSh) (v2 : Int32) (v3 : Int32) (t0 : Bool) (t1 : Int32) (t2 : Int32) (b_walk : TWa) (b_plan : Nat → Int32) (b_refusals : Nat → Int32) : Option (Int32 × TWa × (Nat → Int32) × (Nat → Int32)) := (Option.bind (zf_X7_takeRoster t2 t1 t0 b_staff b_shelves b_plan) (fun u3 => (if u3.1 = 0 then zf_X7_instead_44 b_now b_staff b_shelves FU v2 v3 ((-1 : Int32)) ((1000000 : Int32)) ((0 : Int32)) b_walk u3.2 b_refusals else (Option.bind (zf_X7_refused u3.1 b_refusals) (fun u5 => some (u5.1, b_walk, u3.2, u5.2))))))
def zf_X7_instead_16 (b_now : TTe) (b_staff : TSt) (b_shelves : TSh) (v2 : Int32) (v3 : Int32) (t0 : Int32) (t1 : Int32) (b_walk : TWa) (b_plan : Nat → Int32) (b_refusals : Nat → Int32) : Option (Int32 × TWa × (Nat → Int32) × (Nat → Int32)) := zf_X7_instead_17 b_now b_staff b_shelves v2 v3 false t0 t1 b_walk b_plan b_refusals
def zf_X7_instead (x1 : Int32) (x2 : Int32) (x3 : Int32) (b_now : TTe) (b_staff : TSt) (b_shelves : TSh) (b_walk : TWa) (b_plan : Nat → Int32) (b_refusals : Nat → Int32) : Option (Int32 × TWa × (Nat → Int32) × (Nat → Int32)) := (if x3 < 0 then zf_X7_instead_16 b_now b_staff b_shelves x2 x3 x2 x1 b_walk b_plan b_refusals else (if x2 ≤ x3 then zf_X7_instead_16 b_now b_staff b_shelves x2 x3 x2 x1 b_walk b_plan b_refusals else zf_X7_instead_17 b_now b_staff b_shelves x2 x3 true x2 x1 b_walk b_plan b_refusals))
abbrev zr_X7_instead : Room := { frames := 6, cells := 0, slots := 0, locals := 134 }
set_option maxHeartbeats 4000000 in
set_option maxRecDepth 100000 in
theorem c_X7_instead (l : Launch) (G : va_G) (cy : Nat → ClassId) (tt : Nat → Nat) (L : Nat → Nat) (b_seedNow : Int32) (b_keptSeed : Int32) (b_isKept : Bool) (x1 : Int32) (x2 : Int32) (x3 : Int32) (b_now : TTe) (b_staff : TSt) (b_shelves : TSh) (b_walk : TWa) (b_plan : Nat → Int32) (b_refusals : Nat → Int32) (res : Int32 × TWa × (Nat → Int32) × (Nat → Int32)) (hf : zf_X7_instead x1 x2 x3 b_now b_staff b_shelves b_walk b_plan b_refusals = some res) : zCT l yX7_instead cX7_instead 9 (some .int) zr_X7_instead G cy tt [.ref ((L 0)), .int x1, .int x2, .int x3] [xU L b_seedNow b_keptSeed b_isKept, xTe ((L 1)) b_now, xSt ((L 5)) ((L 6)) ((L 7)) ((L 8)) ((L 9)) b_staff.1, xI cy ((L 6)) 8 b_staff.2.1, xI cy ((L 7)) 8 b_staff.2.2.1, xI cy ((L 8)) 8 b_staff.2.2.2.1, xI cy ((L 9)) 8 b_staff.2.2.2.2, xSh ((L 20)) ((L 21)) ((L 22)) ((L 23)), xI cy ((L 21)) 8 b_shelves.1, xI cy ((L 22)) 8 b_shelves.2.1, xRJ cy ((L 23)) 8 (fun j => [some ((L 24)), some ((L 25)), some ((L 26)), some ((L 27)), some ((L 28)), some ((L 29)), some ((L 30)), some ((L 31))].getD j none), xJ cy ((L 24)) 40 ((b_shelves.2.2 0)), xJ cy ((L 25)) 40 ((b_shelves.2.2 1)), xJ cy ((L 26)) 40 ((b_shelves.2.2 2)), xJ cy ((L 27)) 40 ((b_shelves.2.2 3)), xJ cy ((L 28)) 40 ((b_shelves.2.2 4)), xJ cy ((L 29)) 40 ((b_shelves.2.2 5)), xJ cy ((L 30)) 40 ((b_shelves.2.2 6)), xJ cy ((L 31)) 40 ((b_shelves.2.2 7)), xWa ((L 34)) ((L 35)) b_walk.2.1 b_walk.2.2.1 b_walk.2.2.2.1 b_walk.2.2.2.2.1 b_walk.2.2.2.2.2.1 b_walk.2.2.2.2.2.2.1 b_walk.2.2.2.2.2.2.2.1 b_walk.2.2.2.2.2.2.2.2, xTe ((L 35)) b_walk.1, xI cy ((L 46)) 48 b_plan, xI cy ((L 48)) 5 b_refusals] (some (.int res.1)) [xU L b_seedNow b_keptSeed b_isKept, xTe ((L 1)) b_now, xSt ((L 5)) ((L 6)) ((L 7)) ((L 8)) ((L 9)) b_staff.1, xI cy ((L 6)) 8 b_staff.2.1, xI cy ((L 7)) 8 b_staff.2.2.1, xI cy ((L 8)) 8 b_staff.2.2.2.1, xI cy ((L 9)) 8 b_staff.2.2.2.2, xSh ((L 20)) ((L 21)) ((L 22)) ((L 23)), xI cy ((L 21)) 8 b_shelves.1, xI cy ((L 22)) 8 b_shelves.2.1, xRJ cy ((L 23)) 8 (fun j => [some ((L 24)), some ((L 25)), some ((L 26)), some ((L 27)), some ((L 28)), some ((L 29)), some ((L 30)), some ((L 31))].getD j none), xJ cy ((L 24)) 40 ((b_shelves.2.2 0)), xJ cy ((L 25)) 40 ((b_shelves.2.2 1)), xJ cy ((L 26)) 40 ((b_shelves.2.2 2)), xJ cy ((L 27)) 40 ((b_shelves.2.2 3)), xJ cy ((L 28)) 40 ((b_shelves.2.2 4)), xJ cy ((L 29)) 40 ((b_shelves.2.2 5)), xJ cy ((L 30)) 40 ((b_shelves.2.2 6)), xJ cy ((L 31)) 40 ((b_shelves.2.2 7)), xWa ((L 34)) ((L 35)) res.2.1.2.1 res.2.1.2.2.1 res.2.1.2.2.2.1 res.2.1.2.2.2.2.1 res.2.1.2.2.2.2.2.1 res.2.1.2.2.2.2.2.2.1 res.2.1.2.2.2.2.2.2.2.1 res.2.1.2.2.2.2.2.2.2.2, xTe ((L 35)) res.2.1.1, xI cy ((L 46)) 48 res.2.2.1, xI cy ((L 48)) 5 res.2.2.2] := by
  refine zk_start zn_X7 (Nat.le_of_ble_eq_true rfl) ?_
  intro p e s m args below meth c A ls Q C hr hQ hw hl
  have C : zCx p m c s args meth cX7_instead 9 RX7 G cy tt A := C
  have hx := C.1.1
  have hb := C.1.2.1
  have hl : lv_has ls 9 [(0, .ref ((L 0))), (1, .int x1), (2, .int x2), (3, .int x3)] := hl
  have J92 : ∀ (k44 : Int32 → Int32 → Int32 → Int32 → Int32 → TWa → (Nat → Int32) → (Nat → Int32) → Option (Int32 × TWa × (Nat → Int32) × (Nat → Int32))) (K44 : ∀ (v2 : Int32) (v3 : Int32) (v5 : Int32) (v6 : Int32) (v7 : Int32) (b_walk : TWa) (b_plan : Nat → Int32) (b_refusals : Nat → Int32) (H : Heap) (locs : List Loc) (ls : Array Slot), k44 v2 v3 v5 v6 v7 b_walk b_plan b_refusals = some res → zWd G A s.heap H locs [xU L b_seedNow b_keptSeed b_isKept, xTe ((L 1)) b_now, xSt ((L 5)) ((L 6)) ((L 7)) ((L 8)) ((L 9)) b_staff.1, xI cy ((L 6)) 8 b_staff.2.1, xI cy ((L 7)) 8 b_staff.2.2.1, xI cy ((L 8)) 8 b_staff.2.2.2.1, xI cy ((L 9)) 8 b_staff.2.2.2.2, xSh ((L 20)) ((L 21)) ((L 22)) ((L 23)), xI cy ((L 21)) 8 b_shelves.1, xI cy ((L 22)) 8 b_shelves.2.1, xRJ cy ((L 23)) 8 (fun j => [some ((L 24)), some ((L 25)), some ((L 26)), some ((L 27)), some ((L 28)), some ((L 29)), some ((L 30)), some ((L 31))].getD j none), xJ cy ((L 24)) 40 ((b_shelves.2.2 0)), xJ cy ((L 25)) 40 ((b_shelves.2.2 1)), xJ cy ((L 26)) 40 ((b_shelves.2.2 2)), xJ cy ((L 27)) 40 ((b_shelves.2.2 3)), xJ cy ((L 28)) 40 ((b_shelves.2.2 4)), xJ cy ((L 29)) 40 ((b_shelves.2.2 5)), xJ cy ((L 30)) 40 ((b_shelves.2.2 6)), xJ cy ((L 31)) 40 ((b_shelves.2.2 7)), xWa ((L 34)) ((L 35)) b_walk.2.1 b_walk.2.2.1 b_walk.2.2.2.1 b_walk.2.2.2.2.1 b_walk.2.2.2.2.2.1 b_walk.2.2.2.2.2.2.1 b_walk.2.2.2.2.2.2.2.1 b_walk.2.2.2.2.2.2.2.2, xTe ((L 35)) b_walk.1, xI cy ((L 46)) 48 b_plan, xI cy ((L 48)) 5 b_refusals] → lv_has ls 9 [(0, .ref ((L 0))), (2, .int v2), (3, .int v3), (5, .int v5), (6, .int v6), (7, .int v7)] → W p l e zr_X7_instead s m args below meth c H locs 0 0 Q (F0 m 44 ls [])), ∀ (v2 : Int32) (v3 : Int32) (v5 : Int32) (v6 : Int32) (v7 : Int32) (b_walk : TWa) (b_plan : Nat → Int32) (b_refusals : Nat → Int32) (H : Heap) (locs : List Loc) (ls : Array Slot), zf_X7_instead_92 b_now b_staff b_shelves k44 v2 v3 v5 v6 v7 b_walk b_plan b_refusals = some res → zWd G A s.heap H locs [xU L b_seedNow b_keptSeed b_isKept, xTe ((L 1)) b_now, xSt ((L 5)) ((L 6)) ((L 7)) ((L 8)) ((L 9)) b_staff.1, xI cy ((L 6)) 8 b_staff.2.1, xI cy ((L 7)) 8 b_staff.2.2.1, xI cy ((L 8)) 8 b_staff.2.2.2.1, xI cy ((L 9)) 8 b_staff.2.2.2.2, xSh ((L 20)) ((L 21)) ((L 22)) ((L 23)), xI cy ((L 21)) 8 b_shelves.1, xI cy ((L 22)) 8 b_shelves.2.1, xRJ cy ((L 23)) 8 (fun j => [some ((L 24)), some ((L 25)), some ((L 26)), some ((L 27)), some ((L 28)), some ((L 29)), some ((L 30)), some ((L 31))].getD j none), xJ cy ((L 24)) 40 ((b_shelves.2.2 0)), xJ cy ((L 25)) 40 ((b_shelves.2.2 1)), xJ cy ((L 26)) 40 ((b_shelves.2.2 2)), xJ cy ((L 27)) 40 ((b_shelves.2.2 3)), xJ cy ((L 28)) 40 ((b_shelves.2.2 4)), xJ cy ((L 29)) 40 ((b_shelves.2.2 5)), xJ cy ((L 30)) 40 ((b_shelves.2.2 6)), xJ cy ((L 31)) 40 ((b_shelves.2.2 7)), xWa ((L 34)) ((L 35)) b_walk.2.1 b_walk.2.2.1 b_walk.2.2.2.1 b_walk.2.2.2.2.1 b_walk.2.2.2.2.2.1 b_walk.2.2.2.2.2.2.1 b_walk.2.2.2.2.2.2.2.1 b_walk.2.2.2.2.2.2.2.2, xTe ((L 35)) b_walk.1, xI cy ((L 46)) 48 b_plan, xI cy ((L 48)) 5 b_refusals] → lv_has ls 9 [(0, .ref ((L 0))), (2, .int v2), (3, .int v3), (5, .int v5), (6, .int v6), (7, .int v7)] → W p l e zr_X7_instead s m args below meth c H locs 0 0 Q (F0 m 92 ls []) := by
    intro k44 K44 v2 v3 v5 v6 v7 b_walk b_plan b_refusals H locs ls hf hw hl
    rw [zf_X7_instead_92] at hf
    refine lv_iinc (pc := 92) (v := (v7 + 1)) (lv' := [(7, .int ((v7 + 1))), (0, .ref ((L 0))), (2, .int v2), (3, .int v3), (5, .int v5), (6, .int v6)]) hx hb dX7_instead_92 hl (k := 5) rfl rfl (by decide) rfl (fun ls hl => ?_)
    refine lv_goto (pc := 95) (tgt := 44) hx hb dX7_instead_95 (by decide) ?_
    exact K44 v2 v3 v5 v6 ((v7 + 1)) b_walk b_plan b_refusals _ _ _ hf hw (lv_sub hl [1, 2, 3, 4, 5, 0] rfl)
  have J44 : ∀ (n : Nat), ∀ (v2 : Int32) (v3 : Int32) (v5 : Int32) (v6 : Int32) (v7 : Int32) (b_walk : TWa) (b_plan : Nat → Int32) (b_refusals : Nat → Int32) (H : Heap) (locs : List Loc) (ls : Array Slot), zf_X7_instead_44 b_now b_staff b_shelves n v2 v3 v5 v6 v7 b_walk b_plan b_refusals = some res → zWd G A s.heap H locs [xU L b_seedNow b_keptSeed b_isKept, xTe ((L 1)) b_now, xSt ((L 5)) ((L 6)) ((L 7)) ((L 8)) ((L 9)) b_staff.1, xI cy ((L 6)) 8 b_staff.2.1, xI cy ((L 7)) 8 b_staff.2.2.1, xI cy ((L 8)) 8 b_staff.2.2.2.1, xI cy ((L 9)) 8 b_staff.2.2.2.2, xSh ((L 20)) ((L 21)) ((L 22)) ((L 23)), xI cy ((L 21)) 8 b_shelves.1, xI cy ((L 22)) 8 b_shelves.2.1, xRJ cy ((L 23)) 8 (fun j => [some ((L 24)), some ((L 25)), some ((L 26)), some ((L 27)), some ((L 28)), some ((L 29)), some ((L 30)), some ((L 31))].getD j none), xJ cy ((L 24)) 40 ((b_shelves.2.2 0)), xJ cy ((L 25)) 40 ((b_shelves.2.2 1)), xJ cy ((L 26)) 40 ((b_shelves.2.2 2)), xJ cy ((L 27)) 40 ((b_shelves.2.2 3)), xJ cy ((L 28)) 40 ((b_shelves.2.2 4)), xJ cy ((L 29)) 40 ((b_shelves.2.2 5)), xJ cy ((L 30)) 40 ((b_shelves.2.2 6)), xJ cy ((L 31)) 40 ((b_shelves.2.2 7)), xWa ((L 34)) ((L 35)) b_walk.2.1 b_walk.2.2.1 b_walk.2.2.2.1 b_walk.2.2.2.2.1 b_walk.2.2.2.2.2.1 b_walk.2.2.2.2.2.2.1 b_walk.2.2.2.2.2.2.2.1 b_walk.2.2.2.2.2.2.2.2, xTe ((L 35)) b_walk.1, xI cy ((L 46)) 48 b_plan, xI cy ((L 48)) 5 b_refusals] → lv_has ls 9 [(0, .ref ((L 0))), (2, .int v2), (3, .int v3), (5, .int v5), (6, .int v6), (7, .int v7)] → W p l e zr_X7_instead s m args below meth c H locs 0 0 Q (F0 m 44 ls []) := by
    intro n
    induction n with
    | zero =>
      intro v2 v3 v5 v6 v7 b_walk b_plan b_refusals H locs ls hf hw hl
      rw [zf_X7_instead_44] at hf
      cases hf
    | succ n ih =>
      intro v2 v3 v5 v6 v7 b_walk b_plan b_refusals H locs ls hf hw hl
      rw [zf_X7_instead_44] at hf
      refine lv_iload (pc := 44) hx hb dX7_instead_44 (lv_at hl 5 rfl) ?_
      refine lv_aload_n (pc := 46) hx hb dX7_instead_46 rfl (lv_at hl 0 rfl) ?_
      obtain ⟨u6, u6e, hf⟩ := bd hf
      refine zk_cV (pc := 47) (ci := 7) (q0 := 0) (rest := [.int v7]) (st1 := [.int u6, .int v7]) (w' := [xU L b_seedNow b_keptSeed b_isKept, xTe ((L 1)) b_now, xSt ((L 5)) ((L 6)) ((L 7)) ((L 8)) ((L 9)) b_staff.1, xI cy ((L 6)) 8 b_staff.2.1, xI cy ((L 7)) 8 b_staff.2.2.1, xI cy ((L 8)) 8 b_staff.2.2.2.1, xI cy ((L 9)) 8 b_staff.2.2.2.2, xSh ((L 20)) ((L 21)) ((L 22)) ((L 23)), xI cy ((L 21)) 8 b_shelves.1, xI cy ((L 22)) 8 b_shelves.2.1, xRJ cy ((L 23)) 8 (fun j => [some ((L 24)), some ((L 25)), some ((L 26)), some ((L 27)), some ((L 28)), some ((L 29)), some ((L 30)), some ((L 31))].getD j none), xJ cy ((L 24)) 40 ((b_shelves.2.2 0)), xJ cy ((L 25)) 40 ((b_shelves.2.2 1)), xJ cy ((L 26)) 40 ((b_shelves.2.2 2)), xJ cy ((L 27)) 40 ((b_shelves.2.2 3)), xJ cy ((L 28)) 40 ((b_shelves.2.2 4)), xJ cy ((L 29)) 40 ((b_shelves.2.2 5)), xJ cy ((L 30)) 40 ((b_shelves.2.2 6)), xJ cy ((L 31)) 40 ((b_shelves.2.2 7)), xWa ((L 34)) ((L 35)) b_walk.2.1 b_walk.2.2.1 b_walk.2.2.2.1 b_walk.2.2.2.2.1 b_walk.2.2.2.2.2.1 b_walk.2.2.2.2.2.2.1 b_walk.2.2.2.2.2.2.2.1 b_walk.2.2.2.2.2.2.2.2, xTe ((L 35)) b_walk.1, xI cy ((L 46)) 48 b_plan, xI cy ((L 48)) 5 b_refusals]) (mk := [none, none, none, none, none, none, none, none, none, none, none, none, none, none, none, none, none, none, none, none, none, none, none]) C hw (c_X7_orderCount l G cy tt L b_seedNow b_keptSeed b_isKept b_staff _ u6e) zy_X7_orderCount zm_X7_233 rfl rfl rfl [0, 2, 3, 4, 5, 6] rfl rfl rfl rfl rfl rfl rfl rfl hl.1 ⟨rfl, rfl⟩ ⟨Nat.le_of_ble_eq_true rfl, Nat.le_of_ble_eq_true rfl⟩ rfl (Nat.le_of_ble_eq_true rfl) ⟨Nat.zero_le _, Nat.zero_le _⟩ dX7_instead_47 (fun H locs hw => ?_)
      refine lv_icmp_ge (pc := 50) (tgt := 98) hx hb dX7_instead_50 (by decide) (fun q7 => ?_) (fun q7 => ?_)
      · replace hf := if_t q7 hf
        refine lv_iload (pc := 98) hx hb dX7_instead_98 (lv_at hl 3 rfl) ?_
        have hf := Option.some.inj hf
        subst hf
        exact zk_reti (pc := 100) (ww := [xU L b_seedNow b_keptSeed b_isKept, xTe ((L 1)) b_now, xSt ((L 5)) ((L 6)) ((L 7)) ((L 8)) ((L 9)) b_staff.1, xI cy ((L 6)) 8 b_staff.2.1, xI cy ((L 7)) 8 b_staff.2.2.1, xI cy ((L 8)) 8 b_staff.2.2.2.1, xI cy ((L 9)) 8 b_staff.2.2.2.2, xSh ((L 20)) ((L 21)) ((L 22)) ((L 23)), xI cy ((L 21)) 8 b_shelves.1, xI cy ((L 22)) 8 b_shelves.2.1, xRJ cy ((L 23)) 8 (fun j => [some ((L 24)), some ((L 25)), some ((L 26)), some ((L 27)), some ((L 28)), some ((L 29)), some ((L 30)), some ((L 31))].getD j none), xJ cy ((L 24)) 40 ((b_shelves.2.2 0)), xJ cy ((L 25)) 40 ((b_shelves.2.2 1)), xJ cy ((L 26)) 40 ((b_shelves.2.2 2)), xJ cy ((L 27)) 40 ((b_shelves.2.2 3)), xJ cy ((L 28)) 40 ((b_shelves.2.2 4)), xJ cy ((L 29)) 40 ((b_shelves.2.2 5)), xJ cy ((L 30)) 40 ((b_shelves.2.2 6)), xJ cy ((L 31)) 40 ((b_shelves.2.2 7)), xWa ((L 34)) ((L 35)) b_walk.2.1 b_walk.2.2.1 b_walk.2.2.2.1 b_walk.2.2.2.2.1 b_walk.2.2.2.2.2.1 b_walk.2.2.2.2.2.2.1 b_walk.2.2.2.2.2.2.2.1 b_walk.2.2.2.2.2.2.2.2, xTe ((L 35)) b_walk.1, xI cy ((L 46)) 48 b_plan, xI cy ((L 48)) 5 b_refusals]) C hw hr hQ dX7_instead_100
      · replace hf := if_f q7 hf
        refine lv_aload_n (pc := 53) hx hb dX7_instead_53 rfl (lv_at hl 0 rfl) ?_
        refine lv_iload_n (pc := 54) hx hb dX7_instead_54 rfl (lv_at hl 1 rfl) ?_
        refine lv_iload_n (pc := 55) hx hb dX7_instead_55 rfl (lv_at hl 2 rfl) ?_
        refine lv_aload_n (pc := 56) hx hb dX7_instead_56 rfl (lv_at hl 0 rfl) ?_
        refine zk_gt (pc := 57) C hw zl_X7_28 0 rfl rfl dX7_instead_57 ?_
        refine lv_iload (pc := 60) hx hb dX7_instead_60 (lv_at hl 5 rfl) ?_
        obtain ⟨u8, u8e, hf⟩ := bd hf
        refine zk_cV (pc := 62) (ci := 2) (q0 := 2) (rest := [.int v3, .int v2, .ref ((L 0))]) (st1 := [.int u8, .int v3, .int v2, .ref ((L 0))]) (w' := [xU L b_seedNow b_keptSeed b_isKept, xTe ((L 1)) b_now, xSt ((L 5)) ((L 6)) ((L 7)) ((L 8)) ((L 9)) b_staff.1, xI cy ((L 6)) 8 b_staff.2.1, xI cy ((L 7)) 8 b_staff.2.2.1, xI cy ((L 8)) 8 b_staff.2.2.2.1, xI cy ((L 9)) 8 b_staff.2.2.2.2, xSh ((L 20)) ((L 21)) ((L 22)) ((L 23)), xI cy ((L 21)) 8 b_shelves.1, xI cy ((L 22)) 8 b_shelves.2.1, xRJ cy ((L 23)) 8 (fun j => [some ((L 24)), some ((L 25)), some ((L 26)), some ((L 27)), some ((L 28)), some ((L 29)), some ((L 30)), some ((L 31))].getD j none), xJ cy ((L 24)) 40 ((b_shelves.2.2 0)), xJ cy ((L 25)) 40 ((b_shelves.2.2 1)), xJ cy ((L 26)) 40 ((b_shelves.2.2 2)), xJ cy ((L 27)) 40 ((b_shelves.2.2 3)), xJ cy ((L 28)) 40 ((b_shelves.2.2 4)), xJ cy ((L 29)) 40 ((b_shelves.2.2 5)), xJ cy ((L 30)) 40 ((b_shelves.2.2 6)), xJ cy ((L 31)) 40 ((b_shelves.2.2 7)), xWa ((L 34)) ((L 35)) b_walk.2.1 b_walk.2.2.1 b_walk.2.2.2.1 b_walk.2.2.2.2.1 b_walk.2.2.2.2.2.1 b_walk.2.2.2.2.2.2.1 b_walk.2.2.2.2.2.2.2.1 b_walk.2.2.2.2.2.2.2.2, xTe ((L 35)) b_walk.1, xI cy ((L 46)) 48 b_plan, xI cy ((L 48)) 5 b_refusals]) (mk := [none, none, none, none, none, none, none, none, none, none, none, none, none, none, none, none, none, none, none, none, none, none, none]) C hw (c_X2_orderAt l G cy tt ((L 5)) ((L 6)) ((L 7)) ((L 8)) ((L 9)) v7 b_staff _ u8e) zy_X2_orderAt zm_X7_236 rfl rfl rfl [2, 3, 4, 5, 6] rfl rfl rfl rfl rfl rfl rfl rfl hl.1 ⟨rfl, rfl⟩ ⟨Nat.le_of_ble_eq_true rfl, Nat.le_of_ble_eq_true rfl⟩ rfl (Nat.le_of_ble_eq_true rfl) ⟨Nat.zero_le _, Nat.zero_le _⟩ dX7_instead_62 (fun H locs hw => ?_)
        obtain ⟨u9, u9e, hf⟩ := bd hf
        refine zk_cV (pc := 65) (ci := 7) (q0 := 0) (rest := []) (st1 := [.int u9.1]) (w' := [xU L b_seedNow b_keptSeed b_isKept, xTe ((L 1)) b_now, xSt ((L 5)) ((L 6)) ((L 7)) ((L 8)) ((L 9)) b_staff.1, xI cy ((L 6)) 8 b_staff.2.1, xI cy ((L 7)) 8 b_staff.2.2.1, xI cy ((L 8)) 8 b_staff.2.2.2.1, xI cy ((L 9)) 8 b_staff.2.2.2.2, xSh ((L 20)) ((L 21)) ((L 22)) ((L 23)), xI cy ((L 21)) 8 b_shelves.1, xI cy ((L 22)) 8 b_shelves.2.1, xRJ cy ((L 23)) 8 (fun j => [some ((L 24)), some ((L 25)), some ((L 26)), some ((L 27)), some ((L 28)), some ((L 29)), some ((L 30)), some ((L 31))].getD j none), xJ cy ((L 24)) 40 ((b_shelves.2.2 0)), xJ cy ((L 25)) 40 ((b_shelves.2.2 1)), xJ cy ((L 26)) 40 ((b_shelves.2.2 2)), xJ cy ((L 27)) 40 ((b_shelves.2.2 3)), xJ cy ((L 28)) 40 ((b_shelves.2.2 4)), xJ cy ((L 29)) 40 ((b_shelves.2.2 5)), xJ cy ((L 30)) 40 ((b_shelves.2.2 6)), xJ cy ((L 31)) 40 ((b_shelves.2.2 7)), xWa ((L 34)) ((L 35)) u9.2.1.2.1 u9.2.1.2.2.1 u9.2.1.2.2.2.1 u9.2.1.2.2.2.2.1 u9.2.1.2.2.2.2.2.1 u9.2.1.2.2.2.2.2.2.1 u9.2.1.2.2.2.2.2.2.2.1 u9.2.1.2.2.2.2.2.2.2.2, xTe ((L 35)) u9.2.1.1, xI cy ((L 46)) 48 u9.2.2, xI cy ((L 48)) 5 b_refusals]) (mk := [none, none, none, none, none, none, none, none, none, none, none, none, none, none, none, none, none, none, none, some (xWa ((L 34)) ((L 35)) u9.2.1.2.1 u9.2.1.2.2.1 u9.2.1.2.2.2.1 u9.2.1.2.2.2.2.1 u9.2.1.2.2.2.2.2.1 u9.2.1.2.2.2.2.2.2.1 u9.2.1.2.2.2.2.2.2.2.1 u9.2.1.2.2.2.2.2.2.2.2), some (xTe ((L 35)) u9.2.1.1), some (xI cy ((L 46)) 48 u9.2.2), none]) C hw (c_X7_rageWith l G cy tt L b_seedNow b_keptSeed b_isKept v2 v3 u8 b_now b_staff b_walk b_plan _ u9e) zy_X7_rageWith zm_X7_348 rfl rfl rfl [0, 1, 2, 3, 4, 5, 6, 19, 20, 21] rfl rfl rfl rfl rfl rfl rfl rfl hl.1 ⟨rfl, rfl⟩ ⟨Nat.le_of_ble_eq_true rfl, Nat.le_of_ble_eq_true rfl⟩ rfl (Nat.le_of_ble_eq_true rfl) ⟨Nat.zero_le _, Nat.zero_le _⟩ dX7_instead_65 (fun H locs hw => ?_)
        refine lv_istore (pc := 68) (lv' := [(8, .int u9.1), (0, .ref ((L 0))), (2, .int v2), (3, .int v3), (5, .int v5), (6, .int v6), (7, .int v7)]) hx hb dX7_instead_68 hl (by decide) rfl (fun ls hl => ?_)
        refine lv_iload (pc := 70) hx hb dX7_instead_70 (lv_at hl 0 rfl) ?_
        refine lv_iload (pc := 72) hx hb dX7_instead_72 (lv_at hl 5 rfl) ?_
        refine lv_icmp_ge (pc := 74) (tgt := 92) hx hb dX7_instead_74 (by decide) (fun q10 => ?_) (fun q10 => ?_)
        · replace hf := if_t q10 hf
          exact J92 (zf_X7_instead_44 b_now b_staff b_shelves n) ih v2 v3 v5 v6 v7 u9.2.1 u9.2.2 b_refusals _ _ _ hf hw (lv_sub hl [1, 2, 3, 4, 5, 6] rfl)
        · replace hf := if_f q10 hf
          refine lv_iload (pc := 77) hx hb dX7_instead_77 (lv_at hl 0 rfl) ?_
          refine lv_istore (pc := 79) (lv' := [(6, .int u9.1), (8, .int u9.1), (0, .ref ((L 0))), (2, .int v2), (3, .int v3), (5, .int v5), (7, .int v7)]) hx hb dX7_instead_79 hl (by decide) rfl (fun ls hl => ?_)
          refine lv_aload_n (pc := 81) hx hb dX7_instead_81 rfl (lv_at hl 2 rfl) ?_
          refine zk_gt (pc := 82) C hw zl_X7_28 0 rfl rfl dX7_instead_82 ?_
          refine lv_iload (pc := 85) hx hb dX7_instead_85 (lv_at hl 6 rfl) ?_
          obtain ⟨u11, u11e, hf⟩ := bd hf
          refine zk_cV (pc := 87) (ci := 2) (q0 := 2) (rest := []) (st1 := [.int u11]) (w' := [xU L b_seedNow b_keptSeed b_isKept, xTe ((L 1)) b_now, xSt ((L 5)) ((L 6)) ((L 7)) ((L 8)) ((L 9)) b_staff.1, xI cy ((L 6)) 8 b_staff.2.1, xI cy ((L 7)) 8 b_staff.2.2.1, xI cy ((L 8)) 8 b_staff.2.2.2.1, xI cy ((L 9)) 8 b_staff.2.2.2.2, xSh ((L 20)) ((L 21)) ((L 22)) ((L 23)), xI cy ((L 21)) 8 b_shelves.1, xI cy ((L 22)) 8 b_shelves.2.1, xRJ cy ((L 23)) 8 (fun j => [some ((L 24)), some ((L 25)), some ((L 26)), some ((L 27)), some ((L 28)), some ((L 29)), some ((L 30)), some ((L 31))].getD j none), xJ cy ((L 24)) 40 ((b_shelves.2.2 0)), xJ cy ((L 25)) 40 ((b_shelves.2.2 1)), xJ cy ((L 26)) 40 ((b_shelves.2.2 2)), xJ cy ((L 27)) 40 ((b_shelves.2.2 3)), xJ cy ((L 28)) 40 ((b_shelves.2.2 4)), xJ cy ((L 29)) 40 ((b_shelves.2.2 5)), xJ cy ((L 30)) 40 ((b_shelves.2.2 6)), xJ cy ((L 31)) 40 ((b_shelves.2.2 7)), xWa ((L 34)) ((L 35)) u9.2.1.2.1 u9.2.1.2.2.1 u9.2.1.2.2.2.1 u9.2.1.2.2.2.2.1 u9.2.1.2.2.2.2.2.1 u9.2.1.2.2.2.2.2.2.1 u9.2.1.2.2.2.2.2.2.2.1 u9.2.1.2.2.2.2.2.2.2.2, xTe ((L 35)) u9.2.1.1, xI cy ((L 46)) 48 u9.2.2, xI cy ((L 48)) 5 b_refusals]) (mk := [none, none, none, none, none, none, none, none, none, none, none, none, none, none, none, none, none, none, none, none, none, none, none]) C hw (c_X2_orderAt l G cy tt ((L 5)) ((L 6)) ((L 7)) ((L 8)) ((L 9)) v7 b_staff _ u11e) zy_X2_orderAt zm_X7_236 rfl rfl rfl [2, 3, 4, 5, 6] rfl rfl rfl rfl rfl rfl rfl rfl hl.1 ⟨rfl, rfl⟩ ⟨Nat.le_of_ble_eq_true rfl, Nat.le_of_ble_eq_true rfl⟩ rfl (Nat.le_of_ble_eq_true rfl) ⟨Nat.zero_le _, Nat.zero_le _⟩ dX7_instead_87 (fun H locs hw => ?_)
          refine lv_istore (pc := 90) (lv' := [(5, .int u11), (6, .int u9.1), (8, .int u9.1), (0, .ref ((L 0))), (2, .int v2), (3, .int v3), (7, .int v7)]) hx hb dX7_instead_90 hl (by decide) rfl (fun ls hl => ?_)
          exact J92 (zf_X7_instead_44 b_now b_staff b_shelves n) ih v2 v3 u11 u9.1 v7 u9.2.1 u9.2.2 b_refusals _ _ _ hf hw (lv_sub hl [3, 4, 5, 0, 1, 6] rfl)
  have J17 : ∀ (v2 : Int32) (v3 : Int32) (t0 : Bool) (t1 : Int32) (t2 : Int32) (b_walk : TWa) (b_plan : Nat → Int32) (b_refusals : Nat → Int32) (H : Heap) (locs : List Loc) (ls : Array Slot), zf_X7_instead_17 b_now b_staff b_shelves v2 v3 t0 t1 t2 b_walk b_plan b_refusals = some res → zWd G A s.heap H locs [xU L b_seedNow b_keptSeed b_isKept, xTe ((L 1)) b_now, xSt ((L 5)) ((L 6)) ((L 7)) ((L 8)) ((L 9)) b_staff.1, xI cy ((L 6)) 8 b_staff.2.1, xI cy ((L 7)) 8 b_staff.2.2.1, xI cy ((L 8)) 8 b_staff.2.2.2.1, xI cy ((L 9)) 8 b_staff.2.2.2.2, xSh ((L 20)) ((L 21)) ((L 22)) ((L 23)), xI cy ((L 21)) 8 b_shelves.1, xI cy ((L 22)) 8 b_shelves.2.1, xRJ cy ((L 23)) 8 (fun j => [some ((L 24)), some ((L 25)), some ((L 26)), some ((L 27)), some ((L 28)), some ((L 29)), some ((L 30)), some ((L 31))].getD j none), xJ cy ((L 24)) 40 ((b_shelves.2.2 0)), xJ cy ((L 25)) 40 ((b_shelves.2.2 1)), xJ cy ((L 26)) 40 ((b_shelves.2.2 2)), xJ cy ((L 27)) 40 ((b_shelves.2.2 3)), xJ cy ((L 28)) 40 ((b_shelves.2.2 4)), xJ cy ((L 29)) 40 ((b_shelves.2.2 5)), xJ cy ((L 30)) 40 ((b_shelves.2.2 6)), xJ cy ((L 31)) 40 ((b_shelves.2.2 7)), xWa ((L 34)) ((L 35)) b_walk.2.1 b_walk.2.2.1 b_walk.2.2.2.1 b_walk.2.2.2.2.1 b_walk.2.2.2.2.2.1 b_walk.2.2.2.2.2.2.1 b_walk.2.2.2.2.2.2.2.1 b_walk.2.2.2.2.2.2.2.2, xTe ((L 35)) b_walk.1, xI cy ((L 46)) 48 b_plan, xI cy ((L 48)) 5 b_refusals] → lv_has ls 9 [(0, .ref ((L 0))), (2, .int v2), (3, .int v3)] → W p l e zr_X7_instead s m args below meth c H locs 0 0 Q (F0 m 17 ls [.int (bI t0), .int t1, .int t2, .ref ((L 0))]) := by
    intro v2 v3 t0 t1 t2 b_walk b_plan b_refusals H locs ls hf hw hl
    rw [zf_X7_instead_17] at hf
    obtain ⟨u3, u3e, hf⟩ := bd hf
    refine zk_cV (pc := 17) (ci := 7) (q0 := 0) (rest := []) (st1 := [.int u3.1]) (w' := [xU L b_seedNow b_keptSeed b_isKept, xTe ((L 1)) b_now, xSt ((L 5)) ((L 6)) ((L 7)) ((L 8)) ((L 9)) b_staff.1, xI cy ((L 6)) 8 b_staff.2.1, xI cy ((L 7)) 8 b_staff.2.2.1, xI cy ((L 8)) 8 b_staff.2.2.2.1, xI cy ((L 9)) 8 b_staff.2.2.2.2, xSh ((L 20)) ((L 21)) ((L 22)) ((L 23)), xI cy ((L 21)) 8 b_shelves.1, xI cy ((L 22)) 8 b_shelves.2.1, xRJ cy ((L 23)) 8 (fun j => [some ((L 24)), some ((L 25)), some ((L 26)), some ((L 27)), some ((L 28)), some ((L 29)), some ((L 30)), some ((L 31))].getD j none), xJ cy ((L 24)) 40 ((b_shelves.2.2 0)), xJ cy ((L 25)) 40 ((b_shelves.2.2 1)), xJ cy ((L 26)) 40 ((b_shelves.2.2 2)), xJ cy ((L 27)) 40 ((b_shelves.2.2 3)), xJ cy ((L 28)) 40 ((b_shelves.2.2 4)), xJ cy ((L 29)) 40 ((b_shelves.2.2 5)), xJ cy ((L 30)) 40 ((b_shelves.2.2 6)), xJ cy ((L 31)) 40 ((b_shelves.2.2 7)), xWa ((L 34)) ((L 35)) b_walk.2.1 b_walk.2.2.1 b_walk.2.2.2.1 b_walk.2.2.2.2.1 b_walk.2.2.2.2.2.1 b_walk.2.2.2.2.2.2.1 b_walk.2.2.2.2.2.2.2.1 b_walk.2.2.2.2.2.2.2.2, xTe ((L 35)) b_walk.1, xI cy ((L 46)) 48 u3.2, xI cy ((L 48)) 5 b_refusals]) (mk := [none, none, none, none, none, none, none, none, none, none, none, none, none, none, none, none, none, none, none, none, none, some (xI cy ((L 46)) 48 u3.2), none]) C hw (c_X7_takeRoster l G cy tt L b_seedNow b_keptSeed b_isKept t2 t1 t0 b_staff b_shelves b_plan _ u3e) zy_X7_takeRoster zm_X7_242 rfl rfl rfl [0, 2, 3, 4, 5, 6, 7, 8, 9, 10, 11, 12, 13, 14, 15, 16, 17, 18, 21] rfl rfl rfl rfl rfl rfl rfl rfl hl.1 ⟨rfl, rfl⟩ ⟨Nat.le_of_ble_eq_true rfl, Nat.le_of_ble_eq_true rfl⟩ rfl (Nat.le_of_ble_eq_true rfl) ⟨Nat.zero_le _, Nat.zero_le _⟩ dX7_instead_17 (fun H locs hw => ?_)
    refine lv_istore (pc := 20) (lv' := [(4, .int u3.1), (0, .ref ((L 0))), (2, .int v2), (3, .int v3)]) hx hb dX7_instead_20 hl (by decide) rfl (fun ls hl => ?_)
    refine lv_iload (pc := 22) hx hb dX7_instead_22 (lv_at hl 0 rfl) ?_
    refine lv_if_eq (pc := 24) (tgt := 34) hx hb dX7_instead_24 (by decide) (fun q4 => ?_) (fun q4 => ?_)
    · replace hf := if_t q4 hf
      refine lv_iconst (pc := 34) (v := -1) hx hb dX7_instead_34 (by decide) ?_
      refine lv_istore (pc := 35) (lv' := [(5, .int ((-1 : Int32))), (4, .int u3.1), (0, .ref ((L 0))), (2, .int v2), (3, .int v3)]) hx hb dX7_instead_35 hl (by decide) rfl (fun ls hl => ?_)
      refine lv_ldc (pc := 37) (v := 1000000) hx hb C.1.2.2.2.1 (C.1.2.2.2.2 _ zc_X7_232) dX7_instead_37 ?_
      refine lv_istore (pc := 39) (lv' := [(6, .int ((1000000 : Int32))), (5, .int ((-1 : Int32))), (4, .int u3.1), (0, .ref ((L 0))), (2, .int v2), (3, .int v3)]) hx hb dX7_instead_39 hl (by decide) rfl (fun ls hl => ?_)
      refine lv_iconst (pc := 41) (v := 0) hx hb dX7_instead_41 (by decide) ?_
      refine lv_istore (pc := 42) (lv' := [(7, .int ((0 : Int32))), (6, .int ((1000000 : Int32))), (5, .int ((-1 : Int32))), (4, .int u3.1), (0, .ref ((L 0))), (2, .int v2), (3, .int v3)]) hx hb dX7_instead_42 hl (by decide) rfl (fun ls hl => ?_)
      exact J44 FU v2 v3 ((-1 : Int32)) ((1000000 : Int32)) ((0 : Int32)) b_walk u3.2 b_refusals _ _ _ hf hw (lv_sub hl [4, 5, 6, 2, 1, 0] rfl)
    · replace hf := if_f q4 hf
      refine lv_aload_n (pc := 27) hx hb dX7_instead_27 rfl (lv_at hl 1 rfl) ?_
      refine lv_iload (pc := 28) hx hb dX7_instead_28 (lv_at hl 0 rfl) ?_
      obtain ⟨u5, u5e, hf⟩ := bd hf
      refine zk_cV (pc := 30) (ci := 7) (q0 := 0) (rest := []) (st1 := [.int u5.1]) (w' := [xU L b_seedNow b_keptSeed b_isKept, xTe ((L 1)) b_now, xSt ((L 5)) ((L 6)) ((L 7)) ((L 8)) ((L 9)) b_staff.1, xI cy ((L 6)) 8 b_staff.2.1, xI cy ((L 7)) 8 b_staff.2.2.1, xI cy ((L 8)) 8 b_staff.2.2.2.1, xI cy ((L 9)) 8 b_staff.2.2.2.2, xSh ((L 20)) ((L 21)) ((L 22)) ((L 23)), xI cy ((L 21)) 8 b_shelves.1, xI cy ((L 22)) 8 b_shelves.2.1, xRJ cy ((L 23)) 8 (fun j => [some ((L 24)), some ((L 25)), some ((L 26)), some ((L 27)), some ((L 28)), some ((L 29)), some ((L 30)), some ((L 31))].getD j none), xJ cy ((L 24)) 40 ((b_shelves.2.2 0)), xJ cy ((L 25)) 40 ((b_shelves.2.2 1)), xJ cy ((L 26)) 40 ((b_shelves.2.2 2)), xJ cy ((L 27)) 40 ((b_shelves.2.2 3)), xJ cy ((L 28)) 40 ((b_shelves.2.2 4)), xJ cy ((L 29)) 40 ((b_shelves.2.2 5)), xJ cy ((L 30)) 40 ((b_shelves.2.2 6)), xJ cy ((L 31)) 40 ((b_shelves.2.2 7)), xWa ((L 34)) ((L 35)) b_walk.2.1 b_walk.2.2.1 b_walk.2.2.2.1 b_walk.2.2.2.2.1 b_walk.2.2.2.2.2.1 b_walk.2.2.2.2.2.2.1 b_walk.2.2.2.2.2.2.2.1 b_walk.2.2.2.2.2.2.2.2, xTe ((L 35)) b_walk.1, xI cy ((L 46)) 48 u3.2, xI cy ((L 48)) 5 u5.2]) (mk := [none, none, none, none, none, none, none, none, none, none, none, none, none, none, none, none, none, none, none, none, none, none, some (xI cy ((L 48)) 5 u5.2)]) C hw (c_X7_refused l G cy tt L b_seedNow b_keptSeed b_isKept u3.1 b_refusals _ u5e) zy_X7_refused zm_X7_103 rfl rfl rfl [0, 22] rfl rfl rfl rfl rfl rfl rfl rfl hl.1 ⟨rfl, rfl⟩ ⟨Nat.le_of_ble_eq_true rfl, Nat.le_of_ble_eq_true rfl⟩ rfl (Nat.le_of_ble_eq_true rfl) ⟨Nat.zero_le _, Nat.zero_le _⟩ dX7_instead_30 (fun H locs hw => ?_)
      have hf := Option.some.inj hf
      subst hf
      exact zk_reti (pc := 33) (ww := [xU L b_seedNow b_keptSeed b_isKept, xTe ((L 1)) b_now, xSt ((L 5)) ((L 6)) ((L 7)) ((L 8)) ((L 9)) b_staff.1, xI cy ((L 6)) 8 b_staff.2.1, xI cy ((L 7)) 8 b_staff.2.2.1, xI cy ((L 8)) 8 b_staff.2.2.2.1, xI cy ((L 9)) 8 b_staff.2.2.2.2, xSh ((L 20)) ((L 21)) ((L 22)) ((L 23)), xI cy ((L 21)) 8 b_shelves.1, xI cy ((L 22)) 8 b_shelves.2.1, xRJ cy ((L 23)) 8 (fun j => [some ((L 24)), some ((L 25)), some ((L 26)), some ((L 27)), some ((L 28)), some ((L 29)), some ((L 30)), some ((L 31))].getD j none), xJ cy ((L 24)) 40 ((b_shelves.2.2 0)), xJ cy ((L 25)) 40 ((b_shelves.2.2 1)), xJ cy ((L 26)) 40 ((b_shelves.2.2 2)), xJ cy ((L 27)) 40 ((b_shelves.2.2 3)), xJ cy ((L 28)) 40 ((b_shelves.2.2 4)), xJ cy ((L 29)) 40 ((b_shelves.2.2 5)), xJ cy ((L 30)) 40 ((b_shelves.2.2 6)), xJ cy ((L 31)) 40 ((b_shelves.2.2 7)), xWa ((L 34)) ((L 35)) b_walk.2.1 b_walk.2.2.1 b_walk.2.2.2.1 b_walk.2.2.2.2.1 b_walk.2.2.2.2.2.1 b_walk.2.2.2.2.2.2.1 b_walk.2.2.2.2.2.2.2.1 b_walk.2.2.2.2.2.2.2.2, xTe ((L 35)) b_walk.1, xI cy ((L 46)) 48 u3.2, xI cy ((L 48)) 5 u5.2]) C hw hr hQ dX7_instead_33
  have J16 : ∀ (v2 : Int32) (v3 : Int32) (t0 : Int32) (t1 : Int32) (b_walk : TWa) (b_plan : Nat → Int32) (b_refusals : Nat → Int32) (H : Heap) (locs : List Loc) (ls : Array Slot), zf_X7_instead_16 b_now b_staff b_shelves v2 v3 t0 t1 b_walk b_plan b_refusals = some res → zWd G A s.heap H locs [xU L b_seedNow b_keptSeed b_isKept, xTe ((L 1)) b_now, xSt ((L 5)) ((L 6)) ((L 7)) ((L 8)) ((L 9)) b_staff.1, xI cy ((L 6)) 8 b_staff.2.1, xI cy ((L 7)) 8 b_staff.2.2.1, xI cy ((L 8)) 8 b_staff.2.2.2.1, xI cy ((L 9)) 8 b_staff.2.2.2.2, xSh ((L 20)) ((L 21)) ((L 22)) ((L 23)), xI cy ((L 21)) 8 b_shelves.1, xI cy ((L 22)) 8 b_shelves.2.1, xRJ cy ((L 23)) 8 (fun j => [some ((L 24)), some ((L 25)), some ((L 26)), some ((L 27)), some ((L 28)), some ((L 29)), some ((L 30)), some ((L 31))].getD j none), xJ cy ((L 24)) 40 ((b_shelves.2.2 0)), xJ cy ((L 25)) 40 ((b_shelves.2.2 1)), xJ cy ((L 26)) 40 ((b_shelves.2.2 2)), xJ cy ((L 27)) 40 ((b_shelves.2.2 3)), xJ cy ((L 28)) 40 ((b_shelves.2.2 4)), xJ cy ((L 29)) 40 ((b_shelves.2.2 5)), xJ cy ((L 30)) 40 ((b_shelves.2.2 6)), xJ cy ((L 31)) 40 ((b_shelves.2.2 7)), xWa ((L 34)) ((L 35)) b_walk.2.1 b_walk.2.2.1 b_walk.2.2.2.1 b_walk.2.2.2.2.1 b_walk.2.2.2.2.2.1 b_walk.2.2.2.2.2.2.1 b_walk.2.2.2.2.2.2.2.1 b_walk.2.2.2.2.2.2.2.2, xTe ((L 35)) b_walk.1, xI cy ((L 46)) 48 b_plan, xI cy ((L 48)) 5 b_refusals] → lv_has ls 9 [(0, .ref ((L 0))), (2, .int v2), (3, .int v3)] → W p l e zr_X7_instead s m args below meth c H locs 0 0 Q (F0 m 16 ls [.int t0, .int t1, .ref ((L 0))]) := by
    intro v2 v3 t0 t1 b_walk b_plan b_refusals H locs ls hf hw hl
    rw [zf_X7_instead_16] at hf
    refine lv_iconst (pc := 16) (v := 0) hx hb dX7_instead_16 (by decide) ?_
    exact J17 v2 v3 false t0 t1 b_walk b_plan b_refusals _ _ _ hf hw (lv_sub hl [0, 1, 2] rfl)
  rw [zf_X7_instead] at hf
  refine lv_aload_n (pc := 0) hx hb dX7_instead_0 rfl (lv_at hl 0 rfl) ?_
  refine lv_iload_n (pc := 1) hx hb dX7_instead_1 rfl (lv_at hl 1 rfl) ?_
  refine lv_iload_n (pc := 2) hx hb dX7_instead_2 rfl (lv_at hl 2 rfl) ?_
  refine lv_iload_n (pc := 3) hx hb dX7_instead_3 rfl (lv_at hl 3 rfl) ?_
  refine lv_if_lt (pc := 4) (tgt := 16) hx hb dX7_instead_4 (by decide) (fun q1 => ?_) (fun q1 => ?_)
  · replace hf := if_t q1 hf
    exact J16 x2 x3 x2 x1 b_walk b_plan b_refusals _ _ _ hf hw (lv_sub hl [0, 2, 3] rfl)
  · replace hf := if_f q1 hf
    refine lv_iload_n (pc := 7) hx hb dX7_instead_7 rfl (lv_at hl 3 rfl) ?_
    refine lv_iload_n (pc := 8) hx hb dX7_instead_8 rfl (lv_at hl 2 rfl) ?_
    refine lv_icmp_ge (pc := 9) (tgt := 16) hx hb dX7_instead_9 (by decide) (fun q2 => ?_) (fun q2 => ?_)
    · replace hf := if_t q2 hf
      exact J16 x2 x3 x2 x1 b_walk b_plan b_refusals _ _ _ hf hw (lv_sub hl [0, 2, 3] rfl)
    · replace hf := if_f q2 hf
      refine lv_iconst (pc := 12) (v := 1) hx hb dX7_instead_12 (by decide) ?_
      refine lv_goto (pc := 13) (tgt := 17) hx hb dX7_instead_13 (by decide) ?_
      exact J17 x2 x3 true x2 x1 b_walk b_plan b_refusals _ _ _ hf hw (lv_sub hl [0, 2, 3] rfl)
def zf_X7_rageAfter (x1 : Int32) (x2 : Int32) (b_now : TTe) (b_trial : TTe) (b_staff : TSt) : Option (Int32 × TTe) := (Option.bind (zf_X5_become b_trial b_now) (fun u1 => (Option.bind (zf_X5_pass x2 ((x1, u1.2.1, u1.2.2.1, u1.2.2.2.1, u1.2.2.2.2.1, u1.2.2.2.2.2.1, u1.2.2.2.2.2.2)) b_staff) (fun u2 => some (u2.1, u2)))))
abbrev zr_X7_rageAfter : Room := { frames := 3, cells := 0, slots := 0, locals := 68 }
set_option maxHeartbeats 4000000 in
set_option maxRecDepth 100000 in
theorem c_X7_rageAfter (l : Launch) (G : va_G) (cy : Nat → ClassId) (tt : Nat → Nat) (L : Nat → Nat) (b_seedNow : Int32) (b_keptSeed : Int32) (b_isKept : Bool) (x1 : Int32) (x2 : Int32) (b_now : TTe) (b_trial : TTe) (b_staff : TSt) (res : Int32 × TTe) (hf : zf_X7_rageAfter x1 x2 b_now b_trial b_staff = some res) : zCT l yX7_rageAfter cX7_rageAfter 3 (some .int) zr_X7_rageAfter G cy tt [.ref ((L 0)), .int x1, .int x2] [xU L b_seedNow b_keptSeed b_isKept, xTe ((L 1)) b_now, xTe ((L 2)) b_trial, xSt ((L 5)) ((L 6)) ((L 7)) ((L 8)) ((L 9)) b_staff.1, xI cy ((L 6)) 8 b_staff.2.1, xI cy ((L 7)) 8 b_staff.2.2.1, xI cy ((L 8)) 8 b_staff.2.2.2.1, xI cy ((L 9)) 8 b_staff.2.2.2.2] (some (.int res.1)) [xU L b_seedNow b_keptSeed b_isKept, xTe ((L 1)) b_now, xTe ((L 2)) res.2, xSt ((L 5)) ((L 6)) ((L 7)) ((L 8)) ((L 9)) b_staff.1, xI cy ((L 6)) 8 b_staff.2.1, xI cy ((L 7)) 8 b_staff.2.2.1, xI cy ((L 8)) 8 b_staff.2.2.2.1, xI cy ((L 9)) 8 b_staff.2.2.2.2] := by
  refine zk_start zn_X7 (Nat.le_of_ble_eq_true rfl) ?_
  intro p e s m args below meth c A ls Q C hr hQ hw hl
  have C : zCx p m c s args meth cX7_rageAfter 3 RX7 G cy tt A := C
  have hx := C.1.1
  have hb := C.1.2.1
  have hl : lv_has ls 3 [(0, .ref ((L 0))), (1, .int x1), (2, .int x2)] := hl
  rw [zf_X7_rageAfter] at hf
  refine lv_aload_n (pc := 0) hx hb dX7_rageAfter_0 rfl (lv_at hl 0 rfl) ?_
  refine zk_gt (pc := 1) C hw zl_X7_16 0 rfl rfl dX7_rageAfter_1 ?_
  refine lv_aload_n (pc := 4) hx hb dX7_rageAfter_4 rfl (lv_at hl 0 rfl) ?_
  refine zk_gt (pc := 5) C hw zl_X7_10 0 rfl rfl dX7_rageAfter_5 ?_
  obtain ⟨u1, u1e, hf⟩ := bd hf
  refine zk_cV (pc := 8) (ci := 5) (q0 := 2) (rest := []) (st1 := []) (w' := [xU L b_seedNow b_keptSeed b_isKept, xTe ((L 1)) b_now, xTe ((L 2)) u1, xSt ((L 5)) ((L 6)) ((L 7)) ((L 8)) ((L 9)) b_staff.1, xI cy ((L 6)) 8 b_staff.2.1, xI cy ((L 7)) 8 b_staff.2.2.1, xI cy ((L 8)) 8 b_staff.2.2.2.1, xI cy ((L 9)) 8 b_staff.2.2.2.2]) (mk := [none, none, some (xTe ((L 2)) u1), none, none, none, none, none]) C hw (c_X5_become l G cy tt ((L 2)) ((L 1)) b_trial b_now _ u1e) zy_X5_become zm_X7_193 rfl rfl rfl [2, 1] rfl rfl rfl rfl rfl rfl rfl rfl hl.1 ⟨rfl, rfl⟩ ⟨Nat.le_of_ble_eq_true rfl, Nat.le_of_ble_eq_true rfl⟩ rfl (Nat.le_of_ble_eq_true rfl) ⟨Nat.zero_le _, Nat.zero_le _⟩ dX7_rageAfter_8 (fun H locs hw => ?_)
  refine lv_aload_n (pc := 11) hx hb dX7_rageAfter_11 rfl (lv_at hl 0 rfl) ?_
  refine zk_gt (pc := 12) C hw zl_X7_16 0 rfl rfl dX7_rageAfter_12 ?_
  refine lv_iload_n (pc := 15) hx hb dX7_rageAfter_15 rfl (lv_at hl 1 rfl) ?_
  refine zk_put (pc := 16) (w' := [xU L b_seedNow b_keptSeed b_isKept, xTe ((L 1)) b_now, xTe ((L 2)) ((x1, u1.2.1, u1.2.2.1, u1.2.2.2.1, u1.2.2.2.2.1, u1.2.2.2.2.2.1, u1.2.2.2.2.2.2)), xSt ((L 5)) ((L 6)) ((L 7)) ((L 8)) ((L 9)) b_staff.1, xI cy ((L 6)) 8 b_staff.2.1, xI cy ((L 7)) 8 b_staff.2.2.1, xI cy ((L 8)) 8 b_staff.2.2.2.1, xI cy ((L 9)) 8 b_staff.2.2.2.2]) C hw zp_X7_330 2 rfl rfl rfl (Nat.le_of_ble_eq_true rfl) rfl dX7_rageAfter_16 (fun H locs hw => ?_)
  refine lv_aload_n (pc := 19) hx hb dX7_rageAfter_19 rfl (lv_at hl 0 rfl) ?_
  refine zk_gt (pc := 20) C hw zl_X7_16 0 rfl rfl dX7_rageAfter_20 ?_
  refine lv_iload_n (pc := 23) hx hb dX7_rageAfter_23 rfl (lv_at hl 2 rfl) ?_
  refine lv_aload_n (pc := 24) hx hb dX7_rageAfter_24 rfl (lv_at hl 0 rfl) ?_
  refine zk_gt (pc := 25) C hw zl_X7_28 0 rfl rfl dX7_rageAfter_25 ?_
  obtain ⟨u2, u2e, hf⟩ := bd hf
  refine zk_cV (pc := 28) (ci := 5) (q0 := 2) (rest := []) (st1 := []) (w' := [xU L b_seedNow b_keptSeed b_isKept, xTe ((L 1)) b_now, xTe ((L 2)) u2, xSt ((L 5)) ((L 6)) ((L 7)) ((L 8)) ((L 9)) b_staff.1, xI cy ((L 6)) 8 b_staff.2.1, xI cy ((L 7)) 8 b_staff.2.2.1, xI cy ((L 8)) 8 b_staff.2.2.2.1, xI cy ((L 9)) 8 b_staff.2.2.2.2]) (mk := [none, none, some (xTe ((L 2)) u2), none, none, none, none, none]) C hw (c_X5_pass l G cy tt ((L 2)) ((L 5)) ((L 6)) ((L 7)) ((L 8)) ((L 9)) x2 ((x1, u1.2.1, u1.2.2.1, u1.2.2.2.1, u1.2.2.2.2.1, u1.2.2.2.2.2.1, u1.2.2.2.2.2.2)) b_staff _ u2e) zy_X5_pass zm_X7_307 rfl rfl rfl [2, 3, 4, 5, 6, 7] rfl rfl rfl rfl rfl rfl rfl rfl hl.1 ⟨rfl, rfl⟩ ⟨Nat.le_of_ble_eq_true rfl, Nat.le_of_ble_eq_true rfl⟩ rfl (Nat.le_of_ble_eq_true rfl) ⟨Nat.zero_le _, Nat.zero_le _⟩ dX7_rageAfter_28 (fun H locs hw => ?_)
  refine lv_aload_n (pc := 31) hx hb dX7_rageAfter_31 rfl (lv_at hl 0 rfl) ?_
  refine zk_gt (pc := 32) C hw zl_X7_16 0 rfl rfl dX7_rageAfter_32 ?_
  refine zk_gt (pc := 35) C hw zl_X7_330 2 rfl rfl dX7_rageAfter_35 ?_
  have hf := Option.some.inj hf
  subst hf
  exact zk_reti (pc := 38) (ww := [xU L b_seedNow b_keptSeed b_isKept, xTe ((L 1)) b_now, xTe ((L 2)) u2, xSt ((L 5)) ((L 6)) ((L 7)) ((L 8)) ((L 9)) b_staff.1, xI cy ((L 6)) 8 b_staff.2.1, xI cy ((L 7)) 8 b_staff.2.2.1, xI cy ((L 8)) 8 b_staff.2.2.2.1, xI cy ((L 9)) 8 b_staff.2.2.2.2]) C hw hr hQ dX7_rageAfter_38
def zf_X7_better_18 (b_now : TTe) (b_staff : TSt) (b_trial : TTe) (b_refusals : Nat → Int32) : Option (Int32 × TTe × (Nat → Int32)) := (Option.bind (zf_X7_refused (((-2 : Int32))) b_refusals) (fun u9 => some (u9.1, b_trial, u9.2)))
def zf_X7_better_57 (b_now : TTe) (b_staff : TSt) (k30 : Int32 → Int32 → Int32 → Int32 → TTe → (Nat → Int32) → Option (Int32 × TTe × (Nat → Int32))) (v1 : Int32) (v2 : Int32) (v3 : Int32) (v4 : Int32) (b_trial : TTe) (b_refusals : Nat → Int32) : Option (Int32 × TTe × (Nat → Int32)) := k30 v1 v2 v3 ((v4 + 1)) b_trial b_refusals
def zf_X7_better_30 (b_now : TTe) (b_staff : TSt) : Nat → Int32 → Int32 → Int32 → Int32 → TTe → (Nat → Int32) → Option (Int32 × TTe × (Nat → Int32))
  | 0, _, _, _, _, _, _ => none
  | n + 1, v1, v2, v3, v4, b_trial, b_refusals => (if (99 : Int32) < v4 then some (v3, b_trial, b_refusals) else (Option.bind (zf_X7_rageAfter v4 v1 b_now b_trial b_staff) (fun u6 => (Option.bind (zf_X7_rageAfter v4 v2 b_now u6.2 b_staff) (fun u7 => (if u7.1 ≤ u6.1 then zf_X7_better_57 b_now b_staff (zf_X7_better_30 b_now b_staff n) v1 v2 v3 v4 u7.2 b_refusals else zf_X7_better_57 b_now b_staff (zf_X7_better_30 b_now b_staff n) v1 v2 ((v3 + 1)) v4 u7.2 b_refusals))))))
def zf_X7_better (x1 : Int32) (x2 : Int32) (b_now : TTe) (b_trial : TTe) (b_staff : TSt) (b_refusals : Nat → Int32) : Option (Int32 × TTe × (Nat → Int32)) := (Option.bind (zf_X7_isOrder x1.toInt64 b_staff) (fun u1 => (if u1 then (Option.bind (zf_X7_isOrder x2.toInt64 b_staff) (fun u3 => (if u3 then zf_X7_better_30 b_now b_staff FU x1 x2 ((0 : Int32)) ((0 : Int32)) b_trial b_refusals else zf_X7_better_18 b_now b_staff b_trial b_refusals))) else zf_X7_better_18 b_now b_staff b_trial b_refusals)))
abbrev zr_X7_better : Room := { frames := 4, cells := 0, slots := 0, locals := 90 }
set_option maxHeartbeats 4000000 in
set_option maxRecDepth 100000 in
theorem c_X7_better (l : Launch) (G : va_G) (cy : Nat → ClassId) (tt : Nat → Nat) (L : Nat → Nat) (b_seedNow : Int32) (b_keptSeed : Int32) (b_isKept : Bool) (x1 : Int32) (x2 : Int32) (b_now : TTe) (b_trial : TTe) (b_staff : TSt) (b_refusals : Nat → Int32) (res : Int32 × TTe × (Nat → Int32)) (hf : zf_X7_better x1 x2 b_now b_trial b_staff b_refusals = some res) : zCT l yX7_better cX7_better 5 (some .int) zr_X7_better G cy tt [.ref ((L 0)), .int x1, .int x2] [xU L b_seedNow b_keptSeed b_isKept, xTe ((L 1)) b_now, xTe ((L 2)) b_trial, xSt ((L 5)) ((L 6)) ((L 7)) ((L 8)) ((L 9)) b_staff.1, xI cy ((L 6)) 8 b_staff.2.1, xI cy ((L 7)) 8 b_staff.2.2.1, xI cy ((L 8)) 8 b_staff.2.2.2.1, xI cy ((L 9)) 8 b_staff.2.2.2.2, xI cy ((L 48)) 5 b_refusals] (some (.int res.1)) [xU L b_seedNow b_keptSeed b_isKept, xTe ((L 1)) b_now, xTe ((L 2)) res.2.1, xSt ((L 5)) ((L 6)) ((L 7)) ((L 8)) ((L 9)) b_staff.1, xI cy ((L 6)) 8 b_staff.2.1, xI cy ((L 7)) 8 b_staff.2.2.1, xI cy ((L 8)) 8 b_staff.2.2.2.1, xI cy ((L 9)) 8 b_staff.2.2.2.2, xI cy ((L 48)) 5 res.2.2] := by
  refine zk_start zn_X7 (Nat.le_of_ble_eq_true rfl) ?_
  intro p e s m args below meth c A ls Q C hr hQ hw hl
  have C : zCx p m c s args meth cX7_better 5 RX7 G cy tt A := C
  have hx := C.1.1
  have hb := C.1.2.1
  have hl : lv_has ls 5 [(0, .ref ((L 0))), (1, .int x1), (2, .int x2)] := hl
  have J18 : ∀ (b_trial : TTe) (b_refusals : Nat → Int32) (H : Heap) (locs : List Loc) (ls : Array Slot), zf_X7_better_18 b_now b_staff b_trial b_refusals = some res → zWd G A s.heap H locs [xU L b_seedNow b_keptSeed b_isKept, xTe ((L 1)) b_now, xTe ((L 2)) b_trial, xSt ((L 5)) ((L 6)) ((L 7)) ((L 8)) ((L 9)) b_staff.1, xI cy ((L 6)) 8 b_staff.2.1, xI cy ((L 7)) 8 b_staff.2.2.1, xI cy ((L 8)) 8 b_staff.2.2.2.1, xI cy ((L 9)) 8 b_staff.2.2.2.2, xI cy ((L 48)) 5 b_refusals] → lv_has ls 5 [(0, .ref ((L 0)))] → W p l e zr_X7_better s m args below meth c H locs 0 0 Q (F0 m 18 ls []) := by
    intro b_trial b_refusals H locs ls hf hw hl
    rw [zf_X7_better_18] at hf
    refine lv_aload_n (pc := 18) hx hb dX7_better_18 rfl (lv_at hl 0 rfl) ?_
    refine lv_bipush (pc := 19) (v := -2) hx hb dX7_better_19 (by decide) ?_
    obtain ⟨u9, u9e, hf⟩ := bd hf
    refine zk_cV (pc := 21) (ci := 7) (q0 := 0) (rest := []) (st1 := [.int u9.1]) (w' := [xU L b_seedNow b_keptSeed b_isKept, xTe ((L 1)) b_now, xTe ((L 2)) b_trial, xSt ((L 5)) ((L 6)) ((L 7)) ((L 8)) ((L 9)) b_staff.1, xI cy ((L 6)) 8 b_staff.2.1, xI cy ((L 7)) 8 b_staff.2.2.1, xI cy ((L 8)) 8 b_staff.2.2.2.1, xI cy ((L 9)) 8 b_staff.2.2.2.2, xI cy ((L 48)) 5 u9.2]) (mk := [none, none, none, none, none, none, none, none, some (xI cy ((L 48)) 5 u9.2)]) C hw (c_X7_refused l G cy tt L b_seedNow b_keptSeed b_isKept (((-2 : Int32))) b_refusals _ u9e) zy_X7_refused zm_X7_103 rfl rfl rfl [0, 8] rfl rfl rfl rfl rfl rfl rfl rfl hl.1 ⟨rfl, rfl⟩ ⟨Nat.le_of_ble_eq_true rfl, Nat.le_of_ble_eq_true rfl⟩ rfl (Nat.le_of_ble_eq_true rfl) ⟨Nat.zero_le _, Nat.zero_le _⟩ dX7_better_21 (fun H locs hw => ?_)
    have hf := Option.some.inj hf
    subst hf
    exact zk_reti (pc := 24) (ww := [xU L b_seedNow b_keptSeed b_isKept, xTe ((L 1)) b_now, xTe ((L 2)) b_trial, xSt ((L 5)) ((L 6)) ((L 7)) ((L 8)) ((L 9)) b_staff.1, xI cy ((L 6)) 8 b_staff.2.1, xI cy ((L 7)) 8 b_staff.2.2.1, xI cy ((L 8)) 8 b_staff.2.2.2.1, xI cy ((L 9)) 8 b_staff.2.2.2.2, xI cy ((L 48)) 5 u9.2]) C hw hr hQ dX7_better_24
  have J57 : ∀ (k30 : Int32 → Int32 → Int32 → Int32 → TTe → (Nat → Int32) → Option (Int32 × TTe × (Nat → Int32))) (K30 : ∀ (v1 : Int32) (v2 : Int32) (v3 : Int32) (v4 : Int32) (b_trial : TTe) (b_refusals : Nat → Int32) (H : Heap) (locs : List Loc) (ls : Array Slot), k30 v1 v2 v3 v4 b_trial b_refusals = some res → zWd G A s.heap H locs [xU L b_seedNow b_keptSeed b_isKept, xTe ((L 1)) b_now, xTe ((L 2)) b_trial, xSt ((L 5)) ((L 6)) ((L 7)) ((L 8)) ((L 9)) b_staff.1, xI cy ((L 6)) 8 b_staff.2.1, xI cy ((L 7)) 8 b_staff.2.2.1, xI cy ((L 8)) 8 b_staff.2.2.2.1, xI cy ((L 9)) 8 b_staff.2.2.2.2, xI cy ((L 48)) 5 b_refusals] → lv_has ls 5 [(0, .ref ((L 0))), (1, .int v1), (2, .int v2), (3, .int v3), (4, .int v4)] → W p l e zr_X7_better s m args below meth c H locs 0 0 Q (F0 m 30 ls [])), ∀ (v1 : Int32) (v2 : Int32) (v3 : Int32) (v4 : Int32) (b_trial : TTe) (b_refusals : Nat → Int32) (H : Heap) (locs : List Loc) (ls : Array Slot), zf_X7_better_57 b_now b_staff k30 v1 v2 v3 v4 b_trial b_refusals = some res → zWd G A s.heap H locs [xU L b_seedNow b_keptSeed b_isKept, xTe ((L 1)) b_now, xTe ((L 2)) b_trial, xSt ((L 5)) ((L 6)) ((L 7)) ((L 8)) ((L 9)) b_staff.1, xI cy ((L 6)) 8 b_staff.2.1, xI cy ((L 7)) 8 b_staff.2.2.1, xI cy ((L 8)) 8 b_staff.2.2.2.1, xI cy ((L 9)) 8 b_staff.2.2.2.2, xI cy ((L 48)) 5 b_refusals] → lv_has ls 5 [(0, .ref ((L 0))), (1, .int v1), (2, .int v2), (3, .int v3), (4, .int v4)] → W p l e zr_X7_better s m args below meth c H locs 0 0 Q (F0 m 57 ls []) := by
    intro k30 K30 v1 v2 v3 v4 b_trial b_refusals H locs ls hf hw hl
    rw [zf_X7_better_57] at hf
    refine lv_iinc (pc := 57) (v := (v4 + 1)) (lv' := [(4, .int ((v4 + 1))), (0, .ref ((L 0))), (1, .int v1), (2, .int v2), (3, .int v3)]) hx hb dX7_better_57 hl (k := 4) rfl rfl (by decide) rfl (fun ls hl => ?_)
    refine lv_goto (pc := 60) (tgt := 30) hx hb dX7_better_60 (by decide) ?_
    exact K30 v1 v2 v3 ((v4 + 1)) b_trial b_refusals _ _ _ hf hw (lv_sub hl [1, 2, 3, 4, 0] rfl)
  have J30 : ∀ (n : Nat), ∀ (v1 : Int32) (v2 : Int32) (v3 : Int32) (v4 : Int32) (b_trial : TTe) (b_refusals : Nat → Int32) (H : Heap) (locs : List Loc) (ls : Array Slot), zf_X7_better_30 b_now b_staff n v1 v2 v3 v4 b_trial b_refusals = some res → zWd G A s.heap H locs [xU L b_seedNow b_keptSeed b_isKept, xTe ((L 1)) b_now, xTe ((L 2)) b_trial, xSt ((L 5)) ((L 6)) ((L 7)) ((L 8)) ((L 9)) b_staff.1, xI cy ((L 6)) 8 b_staff.2.1, xI cy ((L 7)) 8 b_staff.2.2.1, xI cy ((L 8)) 8 b_staff.2.2.2.1, xI cy ((L 9)) 8 b_staff.2.2.2.2, xI cy ((L 48)) 5 b_refusals] → lv_has ls 5 [(0, .ref ((L 0))), (1, .int v1), (2, .int v2), (3, .int v3), (4, .int v4)] → W p l e zr_X7_better s m args below meth c H locs 0 0 Q (F0 m 30 ls []) := by
    intro n
    induction n with
    | zero =>
      intro v1 v2 v3 v4 b_trial b_refusals H locs ls hf hw hl
      rw [zf_X7_better_30] at hf
      cases hf
    | succ n ih =>
      intro v1 v2 v3 v4 b_trial b_refusals H locs ls hf hw hl
      rw [zf_X7_better_30] at hf
      refine lv_iload (pc := 30) hx hb dX7_better_30 (lv_at hl 4 rfl) ?_
      refine lv_bipush (pc := 32) (v := 99) hx hb dX7_better_32 (by decide) ?_
      refine lv_icmp_gt (pc := 34) (tgt := 63) hx hb dX7_better_34 (by decide) (fun q5 => ?_) (fun q5 => ?_)
      · replace hf := if_t q5 hf
        refine lv_iload_n (pc := 63) hx hb dX7_better_63 rfl (lv_at hl 3 rfl) ?_
        have hf := Option.some.inj hf
        subst hf
        exact zk_reti (pc := 64) (ww := [xU L b_seedNow b_keptSeed b_isKept, xTe ((L 1)) b_now, xTe ((L 2)) b_trial, xSt ((L 5)) ((L 6)) ((L 7)) ((L 8)) ((L 9)) b_staff.1, xI cy ((L 6)) 8 b_staff.2.1, xI cy ((L 7)) 8 b_staff.2.2.1, xI cy ((L 8)) 8 b_staff.2.2.2.1, xI cy ((L 9)) 8 b_staff.2.2.2.2, xI cy ((L 48)) 5 b_refusals]) C hw hr hQ dX7_better_64
      · replace hf := if_f q5 hf
        refine lv_aload_n (pc := 37) hx hb dX7_better_37 rfl (lv_at hl 0 rfl) ?_
        refine lv_iload (pc := 38) hx hb dX7_better_38 (lv_at hl 4 rfl) ?_
        refine lv_iload_n (pc := 40) hx hb dX7_better_40 rfl (lv_at hl 1 rfl) ?_
        obtain ⟨u6, u6e, hf⟩ := bd hf
        refine zk_cV (pc := 41) (ci := 7) (q0 := 0) (rest := []) (st1 := [.int u6.1]) (w' := [xU L b_seedNow b_keptSeed b_isKept, xTe ((L 1)) b_now, xTe ((L 2)) u6.2, xSt ((L 5)) ((L 6)) ((L 7)) ((L 8)) ((L 9)) b_staff.1, xI cy ((L 6)) 8 b_staff.2.1, xI cy ((L 7)) 8 b_staff.2.2.1, xI cy ((L 8)) 8 b_staff.2.2.2.1, xI cy ((L 9)) 8 b_staff.2.2.2.2, xI cy ((L 48)) 5 b_refusals]) (mk := [none, none, some (xTe ((L 2)) u6.2), none, none, none, none, none, none]) C hw (c_X7_rageAfter l G cy tt L b_seedNow b_keptSeed b_isKept v4 v1 b_now b_trial b_staff _ u6e) zy_X7_rageAfter zm_X7_351 rfl rfl rfl [0, 1, 2, 3, 4, 5, 6, 7] rfl rfl rfl rfl rfl rfl rfl rfl hl.1 ⟨rfl, rfl⟩ ⟨Nat.le_of_ble_eq_true rfl, Nat.le_of_ble_eq_true rfl⟩ rfl (Nat.le_of_ble_eq_true rfl) ⟨Nat.zero_le _, Nat.zero_le _⟩ dX7_better_41 (fun H locs hw => ?_)
        refine lv_aload_n (pc := 44) hx hb dX7_better_44 rfl (lv_at hl 0 rfl) ?_
        refine lv_iload (pc := 45) hx hb dX7_better_45 (lv_at hl 4 rfl) ?_
        refine lv_iload_n (pc := 47) hx hb dX7_better_47 rfl (lv_at hl 2 rfl) ?_
        obtain ⟨u7, u7e, hf⟩ := bd hf
        refine zk_cV (pc := 48) (ci := 7) (q0 := 0) (rest := [.int u6.1]) (st1 := [.int u7.1, .int u6.1]) (w' := [xU L b_seedNow b_keptSeed b_isKept, xTe ((L 1)) b_now, xTe ((L 2)) u7.2, xSt ((L 5)) ((L 6)) ((L 7)) ((L 8)) ((L 9)) b_staff.1, xI cy ((L 6)) 8 b_staff.2.1, xI cy ((L 7)) 8 b_staff.2.2.1, xI cy ((L 8)) 8 b_staff.2.2.2.1, xI cy ((L 9)) 8 b_staff.2.2.2.2, xI cy ((L 48)) 5 b_refusals]) (mk := [none, none, some (xTe ((L 2)) u7.2), none, none, none, none, none, none]) C hw (c_X7_rageAfter l G cy tt L b_seedNow b_keptSeed b_isKept v4 v2 b_now u6.2 b_staff _ u7e) zy_X7_rageAfter zm_X7_351 rfl rfl rfl [0, 1, 2, 3, 4, 5, 6, 7] rfl rfl rfl rfl rfl rfl rfl rfl hl.1 ⟨rfl, rfl⟩ ⟨Nat.le_of_ble_eq_true rfl, Nat.le_of_ble_eq_true rfl⟩ rfl (Nat.le_of_ble_eq_true rfl) ⟨Nat.zero_le _, Nat.zero_le _⟩ dX7_better_48 (fun H locs hw => ?_)
        refine lv_icmp_ge (pc := 51) (tgt := 57) hx hb dX7_better_51 (by decide) (fun q8 => ?_) (fun q8 => ?_)
        · replace hf := if_t q8 hf
          exact J57 (zf_X7_better_30 b_now b_staff n) ih v1 v2 v3 v4 u7.2 b_refusals _ _ _ hf hw (lv_sub hl [0, 1, 2, 3, 4] rfl)
        · replace hf := if_f q8 hf
          refine lv_iinc (pc := 54) (v := (v3 + 1)) (lv' := [(3, .int ((v3 + 1))), (0, .ref ((L 0))), (1, .int v1), (2, .int v2), (4, .int v4)]) hx hb dX7_better_54 hl (k := 3) rfl rfl (by decide) rfl (fun ls hl => ?_)
          exact J57 (zf_X7_better_30 b_now b_staff n) ih v1 v2 ((v3 + 1)) v4 u7.2 b_refusals _ _ _ hf hw (lv_sub hl [1, 2, 3, 0, 4] rfl)
  rw [zf_X7_better] at hf
  refine lv_aload_n (pc := 0) hx hb dX7_better_0 rfl (lv_at hl 0 rfl) ?_
  refine lv_iload_n (pc := 1) hx hb dX7_better_1 rfl (lv_at hl 1 rfl) ?_
  refine lv_i2l (pc := 2) (v := x1.toInt64) hx hb dX7_better_2 rfl ?_
  obtain ⟨u1, u1e, hf⟩ := bd hf
  refine zk_cV (pc := 3) (ci := 7) (q0 := 0) (rest := []) (st1 := [.int (bI u1)]) (w' := [xU L b_seedNow b_keptSeed b_isKept, xTe ((L 1)) b_now, xTe ((L 2)) b_trial, xSt ((L 5)) ((L 6)) ((L 7)) ((L 8)) ((L 9)) b_staff.1, xI cy ((L 6)) 8 b_staff.2.1, xI cy ((L 7)) 8 b_staff.2.2.1, xI cy ((L 8)) 8 b_staff.2.2.2.1, xI cy ((L 9)) 8 b_staff.2.2.2.2, xI cy ((L 48)) 5 b_refusals]) (mk := [none, none, none, none, none, none, none, none, none]) C hw (c_X7_isOrder l G cy tt L b_seedNow b_keptSeed b_isKept x1.toInt64 b_staff _ u1e) zy_X7_isOrder zm_X7_221 rfl rfl rfl [0, 3, 4, 5, 6, 7] rfl rfl rfl rfl rfl rfl rfl rfl hl.1 ⟨rfl, rfl⟩ ⟨Nat.le_of_ble_eq_true rfl, Nat.le_of_ble_eq_true rfl⟩ rfl (Nat.le_of_ble_eq_true rfl) ⟨Nat.zero_le _, Nat.zero_le _⟩ dX7_better_3 (fun H locs hw => ?_)
  refine zk_ifz (pc := 6) (tgt := 18) hx hb dX7_better_6 (by decide) (fun q2 => ?_) (fun q2 => ?_)
  · replace hf := if_f q2 hf
    exact J18 b_trial b_refusals _ _ _ hf hw (lv_sub hl [0] rfl)
  · replace hf := if_t q2 hf
    refine lv_aload_n (pc := 9) hx hb dX7_better_9 rfl (lv_at hl 0 rfl) ?_
    refine lv_iload_n (pc := 10) hx hb dX7_better_10 rfl (lv_at hl 2 rfl) ?_
    refine lv_i2l (pc := 11) (v := x2.toInt64) hx hb dX7_better_11 rfl ?_
    obtain ⟨u3, u3e, hf⟩ := bd hf
    refine zk_cV (pc := 12) (ci := 7) (q0 := 0) (rest := []) (st1 := [.int (bI u3)]) (w' := [xU L b_seedNow b_keptSeed b_isKept, xTe ((L 1)) b_now, xTe ((L 2)) b_trial, xSt ((L 5)) ((L 6)) ((L 7)) ((L 8)) ((L 9)) b_staff.1, xI cy ((L 6)) 8 b_staff.2.1, xI cy ((L 7)) 8 b_staff.2.2.1, xI cy ((L 8)) 8 b_staff.2.2.2.1, xI cy ((L 9)) 8 b_staff.2.2.2.2, xI cy ((L 48)) 5 b_refusals]) (mk := [none, none, none, none, none, none, none, none, none]) C hw (c_X7_isOrder l G cy tt L b_seedNow b_keptSeed b_isKept x2.toInt64 b_staff _ u3e) zy_X7_isOrder zm_X7_221 rfl rfl rfl [0, 3, 4, 5, 6, 7] rfl rfl rfl rfl rfl rfl rfl rfl hl.1 ⟨rfl, rfl⟩ ⟨Nat.le_of_ble_eq_true rfl, Nat.le_of_ble_eq_true rfl⟩ rfl (Nat.le_of_ble_eq_true rfl) ⟨Nat.zero_le _, Nat.zero_le _⟩ dX7_better_12 (fun H locs hw => ?_)
    refine zk_ifnz (pc := 15) (tgt := 25) hx hb dX7_better_15 (by decide) (fun q4 => ?_) (fun q4 => ?_)
    · replace hf := if_t q4 hf
      refine lv_iconst (pc := 25) (v := 0) hx hb dX7_better_25 (by decide) ?_
      refine lv_istore_n (pc := 26) (lv' := [(3, .int ((0 : Int32))), (0, .ref ((L 0))), (1, .int x1), (2, .int x2)]) hx hb dX7_better_26 rfl hl (by decide) rfl (fun ls hl => ?_)
      refine lv_iconst (pc := 27) (v := 0) hx hb dX7_better_27 (by decide) ?_
      refine lv_istore (pc := 28) (lv' := [(4, .int ((0 : Int32))), (3, .int ((0 : Int32))), (0, .ref ((L 0))), (1, .int x1), (2, .int x2)]) hx hb dX7_better_28 hl (by decide) rfl (fun ls hl => ?_)
      exact J30 FU x1 x2 ((0 : Int32)) ((0 : Int32)) b_trial b_refusals _ _ _ hf hw (lv_sub hl [2, 3, 4, 1, 0] rfl)
    · replace hf := if_f q4 hf
      exact J18 b_trial b_refusals _ _ _ hf hw (lv_sub hl [0] rfl)
def zf_X7_still_18 (b_now : TTe) (b_staff : TSt) : Nat → Int32 → Int32 → TTe → (Nat → Int32) → Option (Int32 × TTe × (Nat → Int32))
  | 0, _, _, _, _ => none
  | n + 1, v1, v2, b_trial, b_refusals => (if (99 : Int32) < v2 then some ((-1 : Int32), b_trial, b_refusals) else (Option.bind (zf_X7_rageAfter v2 v1 b_now b_trial b_staff) (fun u5 => (if u5.1 = v2 then some (v2, u5.2, b_refusals) else zf_X7_still_18 b_now b_staff n v1 ((v2 + 1)) u5.2 b_refusals))))
def zf_X7_still (x1 : Int32) (b_now : TTe) (b_trial : TTe) (b_staff : TSt) (b_refusals : Nat → Int32) : Option (Int32 × TTe × (Nat → Int32)) := (Option.bind (zf_X7_isOrder x1.toInt64 b_staff) (fun u1 => (if u1 then zf_X7_still_18 b_now b_staff FU x1 ((0 : Int32)) b_trial b_refusals else (Option.bind (zf_X7_refused (((-2 : Int32))) b_refusals) (fun u3 => some (u3.1, b_trial, u3.2))))))
abbrev zr_X7_still : Room := { frames := 4, cells := 0, slots := 0, locals := 90 }
set_option maxHeartbeats 4000000 in
set_option maxRecDepth 100000 in
theorem c_X7_still (l : Launch) (G : va_G) (cy : Nat → ClassId) (tt : Nat → Nat) (L : Nat → Nat) (b_seedNow : Int32) (b_keptSeed : Int32) (b_isKept : Bool) (x1 : Int32) (b_now : TTe) (b_trial : TTe) (b_staff : TSt) (b_refusals : Nat → Int32) (res : Int32 × TTe × (Nat → Int32)) (hf : zf_X7_still x1 b_now b_trial b_staff b_refusals = some res) : zCT l yX7_still cX7_still 3 (some .int) zr_X7_still G cy tt [.ref ((L 0)), .int x1] [xU L b_seedNow b_keptSeed b_isKept, xTe ((L 1)) b_now, xTe ((L 2)) b_trial, xSt ((L 5)) ((L 6)) ((L 7)) ((L 8)) ((L 9)) b_staff.1, xI cy ((L 6)) 8 b_staff.2.1, xI cy ((L 7)) 8 b_staff.2.2.1, xI cy ((L 8)) 8 b_staff.2.2.2.1, xI cy ((L 9)) 8 b_staff.2.2.2.2, xI cy ((L 48)) 5 b_refusals] (some (.int res.1)) [xU L b_seedNow b_keptSeed b_isKept, xTe ((L 1)) b_now, xTe ((L 2)) res.2.1, xSt ((L 5)) ((L 6)) ((L 7)) ((L 8)) ((L 9)) b_staff.1, xI cy ((L 6)) 8 b_staff.2.1, xI cy ((L 7)) 8 b_staff.2.2.1, xI cy ((L 8)) 8 b_staff.2.2.2.1, xI cy ((L 9)) 8 b_staff.2.2.2.2, xI cy ((L 48)) 5 res.2.2] := by
  refine zk_start zn_X7 (Nat.le_of_ble_eq_true rfl) ?_
  intro p e s m args below meth c A ls Q C hr hQ hw hl
  have C : zCx p m c s args meth cX7_still 3 RX7 G cy tt A := C
  have hx := C.1.1
  have hb := C.1.2.1
  have hl : lv_has ls 3 [(0, .ref ((L 0))), (1, .int x1)] := hl
  have J18 : ∀ (n : Nat), ∀ (v1 : Int32) (v2 : Int32) (b_trial : TTe) (b_refusals : Nat → Int32) (H : Heap) (locs : List Loc) (ls : Array Slot), zf_X7_still_18 b_now b_staff n v1 v2 b_trial b_refusals = some res → zWd G A s.heap H locs [xU L b_seedNow b_keptSeed b_isKept, xTe ((L 1)) b_now, xTe ((L 2)) b_trial, xSt ((L 5)) ((L 6)) ((L 7)) ((L 8)) ((L 9)) b_staff.1, xI cy ((L 6)) 8 b_staff.2.1, xI cy ((L 7)) 8 b_staff.2.2.1, xI cy ((L 8)) 8 b_staff.2.2.2.1, xI cy ((L 9)) 8 b_staff.2.2.2.2, xI cy ((L 48)) 5 b_refusals] → lv_has ls 3 [(0, .ref ((L 0))), (1, .int v1), (2, .int v2)] → W p l e zr_X7_still s m args below meth c H locs 0 0 Q (F0 m 18 ls []) := by
    intro n
    induction n with
    | zero =>
      intro v1 v2 b_trial b_refusals H locs ls hf hw hl
      rw [zf_X7_still_18] at hf
      cases hf
    | succ n ih =>
      intro v1 v2 b_trial b_refusals H locs ls hf hw hl
      rw [zf_X7_still_18] at hf
      refine lv_iload_n (pc := 18) hx hb dX7_still_18 rfl (lv_at hl 2 rfl) ?_
      refine lv_bipush (pc := 19) (v := 99) hx hb dX7_still_19 (by decide) ?_
      refine lv_icmp_gt (pc := 21) (tgt := 42) hx hb dX7_still_21 (by decide) (fun q4 => ?_) (fun q4 => ?_)
      · replace hf := if_t q4 hf
        refine lv_iconst (pc := 42) (v := -1) hx hb dX7_still_42 (by decide) ?_
        have hf := Option.some.inj hf
        subst hf
        exact zk_reti (pc := 43) (ww := [xU L b_seedNow b_keptSeed b_isKept, xTe ((L 1)) b_now, xTe ((L 2)) b_trial, xSt ((L 5)) ((L 6)) ((L 7)) ((L 8)) ((L 9)) b_staff.1, xI cy ((L 6)) 8 b_staff.2.1, xI cy ((L 7)) 8 b_staff.2.2.1, xI cy ((L 8)) 8 b_staff.2.2.2.1, xI cy ((L 9)) 8 b_staff.2.2.2.2, xI cy ((L 48)) 5 b_refusals]) C hw hr hQ dX7_still_43
      · replace hf := if_f q4 hf
        refine lv_aload_n (pc := 24) hx hb dX7_still_24 rfl (lv_at hl 0 rfl) ?_
        refine lv_iload_n (pc := 25) hx hb dX7_still_25 rfl (lv_at hl 2 rfl) ?_
        refine lv_iload_n (pc := 26) hx hb dX7_still_26 rfl (lv_at hl 1 rfl) ?_
        obtain ⟨u5, u5e, hf⟩ := bd hf
        refine zk_cV (pc := 27) (ci := 7) (q0 := 0) (rest := []) (st1 := [.int u5.1]) (w' := [xU L b_seedNow b_keptSeed b_isKept, xTe ((L 1)) b_now, xTe ((L 2)) u5.2, xSt ((L 5)) ((L 6)) ((L 7)) ((L 8)) ((L 9)) b_staff.1, xI cy ((L 6)) 8 b_staff.2.1, xI cy ((L 7)) 8 b_staff.2.2.1, xI cy ((L 8)) 8 b_staff.2.2.2.1, xI cy ((L 9)) 8 b_staff.2.2.2.2, xI cy ((L 48)) 5 b_refusals]) (mk := [none, none, some (xTe ((L 2)) u5.2), none, none, none, none, none, none]) C hw (c_X7_rageAfter l G cy tt L b_seedNow b_keptSeed b_isKept v2 v1 b_now b_trial b_staff _ u5e) zy_X7_rageAfter zm_X7_351 rfl rfl rfl [0, 1, 2, 3, 4, 5, 6, 7] rfl rfl rfl rfl rfl rfl rfl rfl hl.1 ⟨rfl, rfl⟩ ⟨Nat.le_of_ble_eq_true rfl, Nat.le_of_ble_eq_true rfl⟩ rfl (Nat.le_of_ble_eq_true rfl) ⟨Nat.zero_le _, Nat.zero_le _⟩ dX7_still_27 (fun H locs hw => ?_)
        refine lv_iload_n (pc := 30) hx hb dX7_still_30 rfl (lv_at hl 2 rfl) ?_
        refine lv_icmp_ne (pc := 31) (tgt := 36) hx hb dX7_still_31 (by decide) (fun q6 => ?_) (fun q6 => ?_)
        · replace hf := if_f q6 hf
          refine lv_iinc (pc := 36) (v := (v2 + 1)) (lv' := [(2, .int ((v2 + 1))), (0, .ref ((L 0))), (1, .int v1)]) hx hb dX7_still_36 hl (k := 2) rfl rfl (by decide) rfl (fun ls hl => ?_)
          refine lv_goto (pc := 39) (tgt := 18) hx hb dX7_still_39 (by decide) ?_
          exact ih v1 ((v2 + 1)) u5.2 b_refusals _ _ _ hf hw (lv_sub hl [1, 2, 0] rfl)
        · replace hf := if_t q6 hf
          refine lv_iload_n (pc := 34) hx hb dX7_still_34 rfl (lv_at hl 2 rfl) ?_
          have hf := Option.some.inj hf
          subst hf
          exact zk_reti (pc := 35) (ww := [xU L b_seedNow b_keptSeed b_isKept, xTe ((L 1)) b_now, xTe ((L 2)) u5.2, xSt ((L 5)) ((L 6)) ((L 7)) ((L 8)) ((L 9)) b_staff.1, xI cy ((L 6)) 8 b_staff.2.1, xI cy ((L 7)) 8 b_staff.2.2.1, xI cy ((L 8)) 8 b_staff.2.2.2.1, xI cy ((L 9)) 8 b_staff.2.2.2.2, xI cy ((L 48)) 5 b_refusals]) C hw hr hQ dX7_still_35
  rw [zf_X7_still] at hf
  refine lv_aload_n (pc := 0) hx hb dX7_still_0 rfl (lv_at hl 0 rfl) ?_
  refine lv_iload_n (pc := 1) hx hb dX7_still_1 rfl (lv_at hl 1 rfl) ?_
  refine lv_i2l (pc := 2) (v := x1.toInt64) hx hb dX7_still_2 rfl ?_
  obtain ⟨u1, u1e, hf⟩ := bd hf
  refine zk_cV (pc := 3) (ci := 7) (q0 := 0) (rest := []) (st1 := [.int (bI u1)]) (w' := [xU L b_seedNow b_keptSeed b_isKept, xTe ((L 1)) b_now, xTe ((L 2)) b_trial, xSt ((L 5)) ((L 6)) ((L 7)) ((L 8)) ((L 9)) b_staff.1, xI cy ((L 6)) 8 b_staff.2.1, xI cy ((L 7)) 8 b_staff.2.2.1, xI cy ((L 8)) 8 b_staff.2.2.2.1, xI cy ((L 9)) 8 b_staff.2.2.2.2, xI cy ((L 48)) 5 b_refusals]) (mk := [none, none, none, none, none, none, none, none, none]) C hw (c_X7_isOrder l G cy tt L b_seedNow b_keptSeed b_isKept x1.toInt64 b_staff _ u1e) zy_X7_isOrder zm_X7_221 rfl rfl rfl [0, 3, 4, 5, 6, 7] rfl rfl rfl rfl rfl rfl rfl rfl hl.1 ⟨rfl, rfl⟩ ⟨Nat.le_of_ble_eq_true rfl, Nat.le_of_ble_eq_true rfl⟩ rfl (Nat.le_of_ble_eq_true rfl) ⟨Nat.zero_le _, Nat.zero_le _⟩ dX7_still_3 (fun H locs hw => ?_)
  refine zk_ifnz (pc := 6) (tgt := 16) hx hb dX7_still_6 (by decide) (fun q2 => ?_) (fun q2 => ?_)
  · replace hf := if_t q2 hf
    refine lv_iconst (pc := 16) (v := 0) hx hb dX7_still_16 (by decide) ?_
    refine lv_istore_n (pc := 17) (lv' := [(2, .int ((0 : Int32))), (0, .ref ((L 0))), (1, .int x1)]) hx hb dX7_still_17 rfl hl (by decide) rfl (fun ls hl => ?_)
    exact J18 FU x1 ((0 : Int32)) b_trial b_refusals _ _ _ hf hw (lv_sub hl [1, 2, 0] rfl)
  · replace hf := if_f q2 hf
    refine lv_aload_n (pc := 9) hx hb dX7_still_9 rfl (lv_at hl 0 rfl) ?_
    refine lv_bipush (pc := 10) (v := -2) hx hb dX7_still_10 (by decide) ?_
    obtain ⟨u3, u3e, hf⟩ := bd hf
    refine zk_cV (pc := 12) (ci := 7) (q0 := 0) (rest := []) (st1 := [.int u3.1]) (w' := [xU L b_seedNow b_keptSeed b_isKept, xTe ((L 1)) b_now, xTe ((L 2)) b_trial, xSt ((L 5)) ((L 6)) ((L 7)) ((L 8)) ((L 9)) b_staff.1, xI cy ((L 6)) 8 b_staff.2.1, xI cy ((L 7)) 8 b_staff.2.2.1, xI cy ((L 8)) 8 b_staff.2.2.2.1, xI cy ((L 9)) 8 b_staff.2.2.2.2, xI cy ((L 48)) 5 u3.2]) (mk := [none, none, none, none, none, none, none, none, some (xI cy ((L 48)) 5 u3.2)]) C hw (c_X7_refused l G cy tt L b_seedNow b_keptSeed b_isKept (((-2 : Int32))) b_refusals _ u3e) zy_X7_refused zm_X7_103 rfl rfl rfl [0, 8] rfl rfl rfl rfl rfl rfl rfl rfl hl.1 ⟨rfl, rfl⟩ ⟨Nat.le_of_ble_eq_true rfl, Nat.le_of_ble_eq_true rfl⟩ rfl (Nat.le_of_ble_eq_true rfl) ⟨Nat.zero_le _, Nat.zero_le _⟩ dX7_still_12 (fun H locs hw => ?_)
    have hf := Option.some.inj hf
    subst hf
    exact zk_reti (pc := 15) (ww := [xU L b_seedNow b_keptSeed b_isKept, xTe ((L 1)) b_now, xTe ((L 2)) b_trial, xSt ((L 5)) ((L 6)) ((L 7)) ((L 8)) ((L 9)) b_staff.1, xI cy ((L 6)) 8 b_staff.2.1, xI cy ((L 7)) 8 b_staff.2.2.1, xI cy ((L 8)) 8 b_staff.2.2.2.1, xI cy ((L 9)) 8 b_staff.2.2.2.2, xI cy ((L 48)) 5 u3.2]) C hw hr hQ dX7_still_15
def zf_X7_calmFor_19 (b_now : TTe) (b_staff : TSt) : Nat → Int32 → Int32 → TTe → (Nat → Int32) → Option (Int32 × TTe × (Nat → Int32))
  | 0, _, _, _, _ => none
  | n + 1, v1, v2, b_trial, b_refusals => (if (99 : Int32) < v2 then some ((-1 : Int32), b_trial, b_refusals) else (Option.bind (zf_X5_become b_trial b_now) (fun u5 => (Option.bind (zf_X5_pass (((10 : Int32))) ((u5.1, v2, u5.2.2.1, u5.2.2.2.1, u5.2.2.2.2.1, u5.2.2.2.2.2.1, u5.2.2.2.2.2.2)) b_staff) (fun u6 => (if v1 < u6.1 then zf_X7_calmFor_19 b_now b_staff n v1 ((v2 + 1)) u6 b_refusals else some (v2, u6, b_refusals)))))))
def zf_X7_calmFor (x1 : Int32) (b_now : TTe) (b_trial : TTe) (b_staff : TSt) (b_refusals : Nat → Int32) : Option (Int32 × TTe × (Nat → Int32)) := (Option.bind (zf_X7_isWithin x1 (((0 : Int32))) (((99 : Int32)))) (fun u1 => (if u1 then zf_X7_calmFor_19 b_now b_staff FU x1 ((0 : Int32)) b_trial b_refusals else (Option.bind (zf_X7_refused (((-2 : Int32))) b_refusals) (fun u3 => some (u3.1, b_trial, u3.2))))))
abbrev zr_X7_calmFor : Room := { frames := 3, cells := 0, slots := 0, locals := 68 }
set_option maxHeartbeats 4000000 in
set_option maxRecDepth 100000 in
theorem c_X7_calmFor (l : Launch) (G : va_G) (cy : Nat → ClassId) (tt : Nat → Nat) (L : Nat → Nat) (b_seedNow : Int32) (b_keptSeed : Int32) (b_isKept : Bool) (x1 : Int32) (b_now : TTe) (b_trial : TTe) (b_staff : TSt) (b_refusals : Nat → Int32) (res : Int32 × TTe × (Nat → Int32)) (hf : zf_X7_calmFor x1 b_now b_trial b_staff b_refusals = some res) : zCT l yX7_calmFor cX7_calmFor 3 (some .int) zr_X7_calmFor G cy tt [.ref ((L 0)), .int x1] [xU L b_seedNow b_keptSeed b_isKept, xTe ((L 1)) b_now, xTe ((L 2)) b_trial, xSt ((L 5)) ((L 6)) ((L 7)) ((L 8)) ((L 9)) b_staff.1, xI cy ((L 6)) 8 b_staff.2.1, xI cy ((L 7)) 8 b_staff.2.2.1, xI cy ((L 8)) 8 b_staff.2.2.2.1, xI cy ((L 9)) 8 b_staff.2.2.2.2, xI cy ((L 48)) 5 b_refusals] (some (.int res.1)) [xU L b_seedNow b_keptSeed b_isKept, xTe ((L 1)) b_now, xTe ((L 2)) res.2.1, xSt ((L 5)) ((L 6)) ((L 7)) ((L 8)) ((L 9)) b_staff.1, xI cy ((L 6)) 8 b_staff.2.1, xI cy ((L 7)) 8 b_staff.2.2.1, xI cy ((L 8)) 8 b_staff.2.2.2.1, xI cy ((L 9)) 8 b_staff.2.2.2.2, xI cy ((L 48)) 5 res.2.2] := by
  refine zk_start zn_X7 (Nat.le_of_ble_eq_true rfl) ?_
  intro p e s m args below meth c A ls Q C hr hQ hw hl
  have C : zCx p m c s args meth cX7_calmFor 3 RX7 G cy tt A := C
  have hx := C.1.1
  have hb := C.1.2.1
  have hl : lv_has ls 3 [(0, .ref ((L 0))), (1, .int x1)] := hl
  have J19 : ∀ (n : Nat), ∀ (v1 : Int32) (v2 : Int32) (b_trial : TTe) (b_refusals : Nat → Int32) (H : Heap) (locs : List Loc) (ls : Array Slot), zf_X7_calmFor_19 b_now b_staff n v1 v2 b_trial b_refusals = some res → zWd G A s.heap H locs [xU L b_seedNow b_keptSeed b_isKept, xTe ((L 1)) b_now, xTe ((L 2)) b_trial, xSt ((L 5)) ((L 6)) ((L 7)) ((L 8)) ((L 9)) b_staff.1, xI cy ((L 6)) 8 b_staff.2.1, xI cy ((L 7)) 8 b_staff.2.2.1, xI cy ((L 8)) 8 b_staff.2.2.2.1, xI cy ((L 9)) 8 b_staff.2.2.2.2, xI cy ((L 48)) 5 b_refusals] → lv_has ls 3 [(0, .ref ((L 0))), (1, .int v1), (2, .int v2)] → W p l e zr_X7_calmFor s m args below meth c H locs 0 0 Q (F0 m 19 ls []) := by
    intro n
    induction n with
    | zero =>
      intro v1 v2 b_trial b_refusals H locs ls hf hw hl
      rw [zf_X7_calmFor_19] at hf
      cases hf
    | succ n ih =>
      intro v1 v2 b_trial b_refusals H locs ls hf hw hl
      rw [zf_X7_calmFor_19] at hf
      refine lv_iload_n (pc := 19) hx hb dX7_calmFor_19 rfl (lv_at hl 2 rfl) ?_
      refine lv_bipush (pc := 20) (v := 99) hx hb dX7_calmFor_20 (by decide) ?_
      refine lv_icmp_gt (pc := 22) (tgt := 76) hx hb dX7_calmFor_22 (by decide) (fun q4 => ?_) (fun q4 => ?_)
      · replace hf := if_t q4 hf
        refine lv_iconst (pc := 76) (v := -1) hx hb dX7_calmFor_76 (by decide) ?_
        have hf := Option.some.inj hf
        subst hf
        exact zk_reti (pc := 77) (ww := [xU L b_seedNow b_keptSeed b_isKept, xTe ((L 1)) b_now, xTe ((L 2)) b_trial, xSt ((L 5)) ((L 6)) ((L 7)) ((L 8)) ((L 9)) b_staff.1, xI cy ((L 6)) 8 b_staff.2.1, xI cy ((L 7)) 8 b_staff.2.2.1, xI cy ((L 8)) 8 b_staff.2.2.2.1, xI cy ((L 9)) 8 b_staff.2.2.2.2, xI cy ((L 48)) 5 b_refusals]) C hw hr hQ dX7_calmFor_77
      · replace hf := if_f q4 hf
        refine lv_aload_n (pc := 25) hx hb dX7_calmFor_25 rfl (lv_at hl 0 rfl) ?_
        refine zk_gt (pc := 26) C hw zl_X7_16 0 rfl rfl dX7_calmFor_26 ?_
        refine lv_aload_n (pc := 29) hx hb dX7_calmFor_29 rfl (lv_at hl 0 rfl) ?_
        refine zk_gt (pc := 30) C hw zl_X7_10 0 rfl rfl dX7_calmFor_30 ?_
        obtain ⟨u5, u5e, hf⟩ := bd hf
        refine zk_cV (pc := 33) (ci := 5) (q0 := 2) (rest := []) (st1 := []) (w' := [xU L b_seedNow b_keptSeed b_isKept, xTe ((L 1)) b_now, xTe ((L 2)) u5, xSt ((L 5)) ((L 6)) ((L 7)) ((L 8)) ((L 9)) b_staff.1, xI cy ((L 6)) 8 b_staff.2.1, xI cy ((L 7)) 8 b_staff.2.2.1, xI cy ((L 8)) 8 b_staff.2.2.2.1, xI cy ((L 9)) 8 b_staff.2.2.2.2, xI cy ((L 48)) 5 b_refusals]) (mk := [none, none, some (xTe ((L 2)) u5), none, none, none, none, none, none]) C hw (c_X5_become l G cy tt ((L 2)) ((L 1)) b_trial b_now _ u5e) zy_X5_become zm_X7_193 rfl rfl rfl [2, 1] rfl rfl rfl rfl rfl rfl rfl rfl hl.1 ⟨rfl, rfl⟩ ⟨Nat.le_of_ble_eq_true rfl, Nat.le_of_ble_eq_true rfl⟩ rfl (Nat.le_of_ble_eq_true rfl) ⟨Nat.zero_le _, Nat.zero_le _⟩ dX7_calmFor_33 (fun H locs hw => ?_)
        refine lv_aload_n (pc := 36) hx hb dX7_calmFor_36 rfl (lv_at hl 0 rfl) ?_
        refine zk_gt (pc := 37) C hw zl_X7_16 0 rfl rfl dX7_calmFor_37 ?_
        refine lv_iload_n (pc := 40) hx hb dX7_calmFor_40 rfl (lv_at hl 2 rfl) ?_
        refine zk_put (pc := 41) (w' := [xU L b_seedNow b_keptSeed b_isKept, xTe ((L 1)) b_now, xTe ((L 2)) ((u5.1, v2, u5.2.2.1, u5.2.2.2.1, u5.2.2.2.2.1, u5.2.2.2.2.2.1, u5.2.2.2.2.2.2)), xSt ((L 5)) ((L 6)) ((L 7)) ((L 8)) ((L 9)) b_staff.1, xI cy ((L 6)) 8 b_staff.2.1, xI cy ((L 7)) 8 b_staff.2.2.1, xI cy ((L 8)) 8 b_staff.2.2.2.1, xI cy ((L 9)) 8 b_staff.2.2.2.2, xI cy ((L 48)) 5 b_refusals]) C hw zp_X7_239 2 rfl rfl rfl (Nat.le_of_ble_eq_true rfl) rfl dX7_calmFor_41 (fun H locs hw => ?_)
        refine lv_aload_n (pc := 44) hx hb dX7_calmFor_44 rfl (lv_at hl 0 rfl) ?_
        refine zk_gt (pc := 45) C hw zl_X7_16 0 rfl rfl dX7_calmFor_45 ?_
        refine lv_bipush (pc := 48) (v := 10) hx hb dX7_calmFor_48 (by decide) ?_
        refine lv_aload_n (pc := 50) hx hb dX7_calmFor_50 rfl (lv_at hl 0 rfl) ?_
        refine zk_gt (pc := 51) C hw zl_X7_28 0 rfl rfl dX7_calmFor_51 ?_
        obtain ⟨u6, u6e, hf⟩ := bd hf
        refine zk_cV (pc := 54) (ci := 5) (q0 := 2) (rest := []) (st1 := []) (w' := [xU L b_seedNow b_keptSeed b_isKept, xTe ((L 1)) b_now, xTe ((L 2)) u6, xSt ((L 5)) ((L 6)) ((L 7)) ((L 8)) ((L 9)) b_staff.1, xI cy ((L 6)) 8 b_staff.2.1, xI cy ((L 7)) 8 b_staff.2.2.1, xI cy ((L 8)) 8 b_staff.2.2.2.1, xI cy ((L 9)) 8 b_staff.2.2.2.2, xI cy ((L 48)) 5 b_refusals]) (mk := [none, none, some (xTe ((L 2)) u6), none, none, none, none, none, none]) C hw (c_X5_pass l G cy tt ((L 2)) ((L 5)) ((L 6)) ((L 7)) ((L 8)) ((L 9)) (((10 : Int32))) ((u5.1, v2, u5.2.2.1, u5.2.2.2.1, u5.2.2.2.2.1, u5.2.2.2.2.2.1, u5.2.2.2.2.2.2)) b_staff _ u6e) zy_X5_pass zm_X7_307 rfl rfl rfl [2, 3, 4, 5, 6, 7] rfl rfl rfl rfl rfl rfl rfl rfl hl.1 ⟨rfl, rfl⟩ ⟨Nat.le_of_ble_eq_true rfl, Nat.le_of_ble_eq_true rfl⟩ rfl (Nat.le_of_ble_eq_true rfl) ⟨Nat.zero_le _, Nat.zero_le _⟩ dX7_calmFor_54 (fun H locs hw => ?_)
        refine lv_aload_n (pc := 57) hx hb dX7_calmFor_57 rfl (lv_at hl 0 rfl) ?_
        refine zk_gt (pc := 58) C hw zl_X7_16 0 rfl rfl dX7_calmFor_58 ?_
        refine zk_gt (pc := 61) C hw zl_X7_330 2 rfl rfl dX7_calmFor_61 ?_
        refine lv_iload_n (pc := 64) hx hb dX7_calmFor_64 rfl (lv_at hl 1 rfl) ?_
        refine lv_icmp_gt (pc := 65) (tgt := 70) hx hb dX7_calmFor_65 (by decide) (fun q7 => ?_) (fun q7 => ?_)
        · replace hf := if_t q7 hf
          refine lv_iinc (pc := 70) (v := (v2 + 1)) (lv' := [(2, .int ((v2 + 1))), (0, .ref ((L 0))), (1, .int v1)]) hx hb dX7_calmFor_70 hl (k := 2) rfl rfl (by decide) rfl (fun ls hl => ?_)
          refine lv_goto (pc := 73) (tgt := 19) hx hb dX7_calmFor_73 (by decide) ?_
          exact ih v1 ((v2 + 1)) u6 b_refusals _ _ _ hf hw (lv_sub hl [1, 2, 0] rfl)
        · replace hf := if_f q7 hf
          refine lv_iload_n (pc := 68) hx hb dX7_calmFor_68 rfl (lv_at hl 2 rfl) ?_
          have hf := Option.some.inj hf
          subst hf
          exact zk_reti (pc := 69) (ww := [xU L b_seedNow b_keptSeed b_isKept, xTe ((L 1)) b_now, xTe ((L 2)) u6, xSt ((L 5)) ((L 6)) ((L 7)) ((L 8)) ((L 9)) b_staff.1, xI cy ((L 6)) 8 b_staff.2.1, xI cy ((L 7)) 8 b_staff.2.2.1, xI cy ((L 8)) 8 b_staff.2.2.2.1, xI cy ((L 9)) 8 b_staff.2.2.2.2, xI cy ((L 48)) 5 b_refusals]) C hw hr hQ dX7_calmFor_69
  rw [zf_X7_calmFor] at hf
  refine lv_iload_n (pc := 0) hx hb dX7_calmFor_0 rfl (lv_at hl 1 rfl) ?_
  refine lv_iconst (pc := 1) (v := 0) hx hb dX7_calmFor_1 (by decide) ?_
  refine lv_bipush (pc := 2) (v := 99) hx hb dX7_calmFor_2 (by decide) ?_
  obtain ⟨u1, u1e, hf⟩ := bd hf
  refine zk_cS (pc := 4) (rest := []) (st1 := [.int (bI u1)]) (w' := [xU L b_seedNow b_keptSeed b_isKept, xTe ((L 1)) b_now, xTe ((L 2)) b_trial, xSt ((L 5)) ((L 6)) ((L 7)) ((L 8)) ((L 9)) b_staff.1, xI cy ((L 6)) 8 b_staff.2.1, xI cy ((L 7)) 8 b_staff.2.2.1, xI cy ((L 8)) 8 b_staff.2.2.2.1, xI cy ((L 9)) 8 b_staff.2.2.2.2, xI cy ((L 48)) 5 b_refusals]) (mk := [none, none, none, none, none, none, none, none, none]) C hw (c_X7_isWithin l G cy tt x1 (((0 : Int32))) (((99 : Int32))) _ u1e) zy_X7_isWithin zm_X7_99 [] rfl rfl rfl rfl rfl rfl rfl rfl hl.1 ⟨rfl, rfl⟩ ⟨Nat.le_of_ble_eq_true rfl, Nat.le_of_ble_eq_true rfl⟩ rfl (Nat.le_of_ble_eq_true rfl) ⟨Nat.zero_le _, Nat.zero_le _⟩ dX7_calmFor_4 (fun H locs hw => ?_)
  refine zk_ifnz (pc := 7) (tgt := 17) hx hb dX7_calmFor_7 (by decide) (fun q2 => ?_) (fun q2 => ?_)
  · replace hf := if_t q2 hf
    refine lv_iconst (pc := 17) (v := 0) hx hb dX7_calmFor_17 (by decide) ?_
    refine lv_istore_n (pc := 18) (lv' := [(2, .int ((0 : Int32))), (0, .ref ((L 0))), (1, .int x1)]) hx hb dX7_calmFor_18 rfl hl (by decide) rfl (fun ls hl => ?_)
    exact J19 FU x1 ((0 : Int32)) b_trial b_refusals _ _ _ hf hw (lv_sub hl [1, 2, 0] rfl)
  · replace hf := if_f q2 hf
    refine lv_aload_n (pc := 10) hx hb dX7_calmFor_10 rfl (lv_at hl 0 rfl) ?_
    refine lv_bipush (pc := 11) (v := -2) hx hb dX7_calmFor_11 (by decide) ?_
    obtain ⟨u3, u3e, hf⟩ := bd hf
    refine zk_cV (pc := 13) (ci := 7) (q0 := 0) (rest := []) (st1 := [.int u3.1]) (w' := [xU L b_seedNow b_keptSeed b_isKept, xTe ((L 1)) b_now, xTe ((L 2)) b_trial, xSt ((L 5)) ((L 6)) ((L 7)) ((L 8)) ((L 9)) b_staff.1, xI cy ((L 6)) 8 b_staff.2.1, xI cy ((L 7)) 8 b_staff.2.2.1, xI cy ((L 8)) 8 b_staff.2.2.2.1, xI cy ((L 9)) 8 b_staff.2.2.2.2, xI cy ((L 48)) 5 u3.2]) (mk := [none, none, none, none, none, none, none, none, some (xI cy ((L 48)) 5 u3.2)]) C hw (c_X7_refused l G cy tt L b_seedNow b_keptSeed b_isKept (((-2 : Int32))) b_refusals _ u3e) zy_X7_refused zm_X7_103 rfl rfl rfl [0, 8] rfl rfl rfl rfl rfl rfl rfl rfl hl.1 ⟨rfl, rfl⟩ ⟨Nat.le_of_ble_eq_true rfl, Nat.le_of_ble_eq_true rfl⟩ rfl (Nat.le_of_ble_eq_true rfl) ⟨Nat.zero_le _, Nat.zero_le _⟩ dX7_calmFor_13 (fun H locs hw => ?_)
    have hf := Option.some.inj hf
    subst hf
    exact zk_reti (pc := 16) (ww := [xU L b_seedNow b_keptSeed b_isKept, xTe ((L 1)) b_now, xTe ((L 2)) b_trial, xSt ((L 5)) ((L 6)) ((L 7)) ((L 8)) ((L 9)) b_staff.1, xI cy ((L 6)) 8 b_staff.2.1, xI cy ((L 7)) 8 b_staff.2.2.1, xI cy ((L 8)) 8 b_staff.2.2.2.1, xI cy ((L 9)) 8 b_staff.2.2.2.2, xI cy ((L 48)) 5 u3.2]) C hw hr hQ dX7_calmFor_16
def zf_X7_grown_29 (b_now : TTe) (b_staff : TSt) : Nat → Int32 → Int32 → TTe → (Nat → Int32) → Option (Int32 × TTe × (Nat → Int32))
  | 0, _, _, _, _ => none
  | n + 1, v1, v2, b_trial, b_refusals => (if (200 : Int32) < v2 then some ((-1 : Int32), b_trial, b_refusals) else (if b_trial.2.2.1 = (9 : Int32) then some (v2, b_trial, b_refusals) else (Option.bind (zf_X5_pass v1 b_trial b_staff) (fun u7 => zf_X7_grown_29 b_now b_staff n v1 ((v2 + 1)) u7 b_refusals))))
def zf_X7_grown (x1 : Int32) (b_now : TTe) (b_trial : TTe) (b_staff : TSt) (b_refusals : Nat → Int32) : Option (Int32 × TTe × (Nat → Int32)) := (Option.bind (zf_X7_isOrder x1.toInt64 b_staff) (fun u1 => (if u1 then (Option.bind (zf_X5_become b_trial b_now) (fun u3 => zf_X7_grown_29 b_now b_staff FU x1 ((0 : Int32)) u3 b_refusals)) else (Option.bind (zf_X7_refused (((-2 : Int32))) b_refusals) (fun u4 => some (u4.1, b_trial, u4.2))))))
abbrev zr_X7_grown : Room := { frames := 3, cells := 0, slots := 0, locals := 68 }
set_option maxHeartbeats 4000000 in
set_option maxRecDepth 100000 in
theorem c_X7_grown (l : Launch) (G : va_G) (cy : Nat → ClassId) (tt : Nat → Nat) (L : Nat → Nat) (b_seedNow : Int32) (b_keptSeed : Int32) (b_isKept : Bool) (x1 : Int32) (b_now : TTe) (b_trial : TTe) (b_staff : TSt) (b_refusals : Nat → Int32) (res : Int32 × TTe × (Nat → Int32)) (hf : zf_X7_grown x1 b_now b_trial b_staff b_refusals = some res) : zCT l yX7_grown cX7_grown 3 (some .int) zr_X7_grown G cy tt [.ref ((L 0)), .int x1] [xU L b_seedNow b_keptSeed b_isKept, xTe ((L 1)) b_now, xTe ((L 2)) b_trial, xSt ((L 5)) ((L 6)) ((L 7)) ((L 8)) ((L 9)) b_staff.1, xI cy ((L 6)) 8 b_staff.2.1, xI cy ((L 7)) 8 b_staff.2.2.1, xI cy ((L 8)) 8 b_staff.2.2.2.1, xI cy ((L 9)) 8 b_staff.2.2.2.2, xI cy ((L 48)) 5 b_refusals] (some (.int res.1)) [xU L b_seedNow b_keptSeed b_isKept, xTe ((L 1)) b_now, xTe ((L 2)) res.2.1, xSt ((L 5)) ((L 6)) ((L 7)) ((L 8)) ((L 9)) b_staff.1, xI cy ((L 6)) 8 b_staff.2.1, xI cy ((L 7)) 8 b_staff.2.2.1, xI cy ((L 8)) 8 b_staff.2.2.2.1, xI cy ((L 9)) 8 b_staff.2.2.2.2, xI cy ((L 48)) 5 res.2.2] := by
  refine zk_start zn_X7 (Nat.le_of_ble_eq_true rfl) ?_
  intro p e s m args below meth c A ls Q C hr hQ hw hl
  have C : zCx p m c s args meth cX7_grown 3 RX7 G cy tt A := C
  have hx := C.1.1
  have hb := C.1.2.1
  have hl : lv_has ls 3 [(0, .ref ((L 0))), (1, .int x1)] := hl
  have J29 : ∀ (n : Nat), ∀ (v1 : Int32) (v2 : Int32) (b_trial : TTe) (b_refusals : Nat → Int32) (H : Heap) (locs : List Loc) (ls : Array Slot), zf_X7_grown_29 b_now b_staff n v1 v2 b_trial b_refusals = some res → zWd G A s.heap H locs [xU L b_seedNow b_keptSeed b_isKept, xTe ((L 1)) b_now, xTe ((L 2)) b_trial, xSt ((L 5)) ((L 6)) ((L 7)) ((L 8)) ((L 9)) b_staff.1, xI cy ((L 6)) 8 b_staff.2.1, xI cy ((L 7)) 8 b_staff.2.2.1, xI cy ((L 8)) 8 b_staff.2.2.2.1, xI cy ((L 9)) 8 b_staff.2.2.2.2, xI cy ((L 48)) 5 b_refusals] → lv_has ls 3 [(0, .ref ((L 0))), (1, .int v1), (2, .int v2)] → W p l e zr_X7_grown s m args below meth c H locs 0 0 Q (F0 m 29 ls []) := by
    intro n
    induction n with
    | zero =>
      intro v1 v2 b_trial b_refusals H locs ls hf hw hl
      rw [zf_X7_grown_29] at hf
      cases hf
    | succ n ih =>
      intro v1 v2 b_trial b_refusals H locs ls hf hw hl
      rw [zf_X7_grown_29] at hf
      refine lv_iload_n (pc := 29) hx hb dX7_grown_29 rfl (lv_at hl 2 rfl) ?_
      refine lv_sipush (pc := 30) (v := 200) hx hb dX7_grown_30 (by decide) ?_
      refine lv_icmp_gt (pc := 33) (tgt := 68) hx hb dX7_grown_33 (by decide) (fun q5 => ?_) (fun q5 => ?_)
      · replace hf := if_t q5 hf
        refine lv_iconst (pc := 68) (v := -1) hx hb dX7_grown_68 (by decide) ?_
        have hf := Option.some.inj hf
        subst hf
        exact zk_reti (pc := 69) (ww := [xU L b_seedNow b_keptSeed b_isKept, xTe ((L 1)) b_now, xTe ((L 2)) b_trial, xSt ((L 5)) ((L 6)) ((L 7)) ((L 8)) ((L 9)) b_staff.1, xI cy ((L 6)) 8 b_staff.2.1, xI cy ((L 7)) 8 b_staff.2.2.1, xI cy ((L 8)) 8 b_staff.2.2.2.1, xI cy ((L 9)) 8 b_staff.2.2.2.2, xI cy ((L 48)) 5 b_refusals]) C hw hr hQ dX7_grown_69
      · replace hf := if_f q5 hf
        refine lv_aload_n (pc := 36) hx hb dX7_grown_36 rfl (lv_at hl 0 rfl) ?_
        refine zk_gt (pc := 37) C hw zl_X7_16 0 rfl rfl dX7_grown_37 ?_
        refine zk_gt (pc := 40) C hw zl_X7_354 2 rfl rfl dX7_grown_40 ?_
        refine lv_bipush (pc := 43) (v := 9) hx hb dX7_grown_43 (by decide) ?_
        refine lv_icmp_ne (pc := 45) (tgt := 50) hx hb dX7_grown_45 (by decide) (fun q6 => ?_) (fun q6 => ?_)
        · replace hf := if_f q6 hf
          refine lv_aload_n (pc := 50) hx hb dX7_grown_50 rfl (lv_at hl 0 rfl) ?_
          refine zk_gt (pc := 51) C hw zl_X7_16 0 rfl rfl dX7_grown_51 ?_
          refine lv_iload_n (pc := 54) hx hb dX7_grown_54 rfl (lv_at hl 1 rfl) ?_
          refine lv_aload_n (pc := 55) hx hb dX7_grown_55 rfl (lv_at hl 0 rfl) ?_
          refine zk_gt (pc := 56) C hw zl_X7_28 0 rfl rfl dX7_grown_56 ?_
          obtain ⟨u7, u7e, hf⟩ := bd hf
          refine zk_cV (pc := 59) (ci := 5) (q0 := 2) (rest := []) (st1 := []) (w' := [xU L b_seedNow b_keptSeed b_isKept, xTe ((L 1)) b_now, xTe ((L 2)) u7, xSt ((L 5)) ((L 6)) ((L 7)) ((L 8)) ((L 9)) b_staff.1, xI cy ((L 6)) 8 b_staff.2.1, xI cy ((L 7)) 8 b_staff.2.2.1, xI cy ((L 8)) 8 b_staff.2.2.2.1, xI cy ((L 9)) 8 b_staff.2.2.2.2, xI cy ((L 48)) 5 b_refusals]) (mk := [none, none, some (xTe ((L 2)) u7), none, none, none, none, none, none]) C hw (c_X5_pass l G cy tt ((L 2)) ((L 5)) ((L 6)) ((L 7)) ((L 8)) ((L 9)) v1 b_trial b_staff _ u7e) zy_X5_pass zm_X7_307 rfl rfl rfl [2, 3, 4, 5, 6, 7] rfl rfl rfl rfl rfl rfl rfl rfl hl.1 ⟨rfl, rfl⟩ ⟨Nat.le_of_ble_eq_true rfl, Nat.le_of_ble_eq_true rfl⟩ rfl (Nat.le_of_ble_eq_true rfl) ⟨Nat.zero_le _, Nat.zero_le _⟩ dX7_grown_59 (fun H locs hw => ?_)
          refine lv_iinc (pc := 62) (v := (v2 + 1)) (lv' := [(2, .int ((v2 + 1))), (0, .ref ((L 0))), (1, .int v1)]) hx hb dX7_grown_62 hl (k := 2) rfl rfl (by decide) rfl (fun ls hl => ?_)
          refine lv_goto (pc := 65) (tgt := 29) hx hb dX7_grown_65 (by decide) ?_
          exact ih v1 ((v2 + 1)) u7 b_refusals _ _ _ hf hw (lv_sub hl [1, 2, 0] rfl)
        · replace hf := if_t q6 hf
          refine lv_iload_n (pc := 48) hx hb dX7_grown_48 rfl (lv_at hl 2 rfl) ?_
          have hf := Option.some.inj hf
          subst hf
          exact zk_reti (pc := 49) (ww := [xU L b_seedNow b_keptSeed b_isKept, xTe ((L 1)) b_now, xTe ((L 2)) b_trial, xSt ((L 5)) ((L 6)) ((L 7)) ((L 8)) ((L 9)) b_staff.1, xI cy ((L 6)) 8 b_staff.2.1, xI cy ((L 7)) 8 b_staff.2.2.1, xI cy ((L 8)) 8 b_staff.2.2.2.1, xI cy ((L 9)) 8 b_staff.2.2.2.2, xI cy ((L 48)) 5 b_refusals]) C hw hr hQ dX7_grown_49
  rw [zf_X7_grown] at hf
  refine lv_aload_n (pc := 0) hx hb dX7_grown_0 rfl (lv_at hl 0 rfl) ?_
  refine lv_iload_n (pc := 1) hx hb dX7_grown_1 rfl (lv_at hl 1 rfl) ?_
  refine lv_i2l (pc := 2) (v := x1.toInt64) hx hb dX7_grown_2 rfl ?_
  obtain ⟨u1, u1e, hf⟩ := bd hf
  refine zk_cV (pc := 3) (ci := 7) (q0 := 0) (rest := []) (st1 := [.int (bI u1)]) (w' := [xU L b_seedNow b_keptSeed b_isKept, xTe ((L 1)) b_now, xTe ((L 2)) b_trial, xSt ((L 5)) ((L 6)) ((L 7)) ((L 8)) ((L 9)) b_staff.1, xI cy ((L 6)) 8 b_staff.2.1, xI cy ((L 7)) 8 b_staff.2.2.1, xI cy ((L 8)) 8 b_staff.2.2.2.1, xI cy ((L 9)) 8 b_staff.2.2.2.2, xI cy ((L 48)) 5 b_refusals]) (mk := [none, none, none, none, none, none, none, none, none]) C hw (c_X7_isOrder l G cy tt L b_seedNow b_keptSeed b_isKept x1.toInt64 b_staff _ u1e) zy_X7_isOrder zm_X7_221 rfl rfl rfl [0, 3, 4, 5, 6, 7] rfl rfl rfl rfl rfl rfl rfl rfl hl.1 ⟨rfl, rfl⟩ ⟨Nat.le_of_ble_eq_true rfl, Nat.le_of_ble_eq_true rfl⟩ rfl (Nat.le_of_ble_eq_true rfl) ⟨Nat.zero_le _, Nat.zero_le _⟩ dX7_grown_3 (fun H locs hw => ?_)
  refine zk_ifnz (pc := 6) (tgt := 16) hx hb dX7_grown_6 (by decide) (fun q2 => ?_) (fun q2 => ?_)
  · replace hf := if_t q2 hf
    refine lv_aload_n (pc := 16) hx hb dX7_grown_16 rfl (lv_at hl 0 rfl) ?_
    refine zk_gt (pc := 17) C hw zl_X7_16 0 rfl rfl dX7_grown_17 ?_
    refine lv_aload_n (pc := 20) hx hb dX7_grown_20 rfl (lv_at hl 0 rfl) ?_
    refine zk_gt (pc := 21) C hw zl_X7_10 0 rfl rfl dX7_grown_21 ?_
    obtain ⟨u3, u3e, hf⟩ := bd hf
    refine zk_cV (pc := 24) (ci := 5) (q0 := 2) (rest := []) (st1 := []) (w' := [xU L b_seedNow b_keptSeed b_isKept, xTe ((L 1)) b_now, xTe ((L 2)) u3, xSt ((L 5)) ((L 6)) ((L 7)) ((L 8)) ((L 9)) b_staff.1, xI cy ((L 6)) 8 b_staff.2.1, xI cy ((L 7)) 8 b_staff.2.2.1, xI cy ((L 8)) 8 b_staff.2.2.2.1, xI cy ((L 9)) 8 b_staff.2.2.2.2, xI cy ((L 48)) 5 b_refusals]) (mk := [none, none, some (xTe ((L 2)) u3), none, none, none, none, none, none]) C hw (c_X5_become l G cy tt ((L 2)) ((L 1)) b_trial b_now _ u3e) zy_X5_become zm_X7_193 rfl rfl rfl [2, 1] rfl rfl rfl rfl rfl rfl rfl rfl hl.1 ⟨rfl, rfl⟩ ⟨Nat.le_of_ble_eq_true rfl, Nat.le_of_ble_eq_true rfl⟩ rfl (Nat.le_of_ble_eq_true rfl) ⟨Nat.zero_le _, Nat.zero_le _⟩ dX7_grown_24 (fun H locs hw => ?_)
    refine lv_iconst (pc := 27) (v := 0) hx hb dX7_grown_27 (by decide) ?_
    refine lv_istore_n (pc := 28) (lv' := [(2, .int ((0 : Int32))), (0, .ref ((L 0))), (1, .int x1)]) hx hb dX7_grown_28 rfl hl (by decide) rfl (fun ls hl => ?_)
    exact J29 FU x1 ((0 : Int32)) u3 b_refusals _ _ _ hf hw (lv_sub hl [1, 2, 0] rfl)
  · replace hf := if_f q2 hf
    refine lv_aload_n (pc := 9) hx hb dX7_grown_9 rfl (lv_at hl 0 rfl) ?_
    refine lv_bipush (pc := 10) (v := -2) hx hb dX7_grown_10 (by decide) ?_
    obtain ⟨u4, u4e, hf⟩ := bd hf
    refine zk_cV (pc := 12) (ci := 7) (q0 := 0) (rest := []) (st1 := [.int u4.1]) (w' := [xU L b_seedNow b_keptSeed b_isKept, xTe ((L 1)) b_now, xTe ((L 2)) b_trial, xSt ((L 5)) ((L 6)) ((L 7)) ((L 8)) ((L 9)) b_staff.1, xI cy ((L 6)) 8 b_staff.2.1, xI cy ((L 7)) 8 b_staff.2.2.1, xI cy ((L 8)) 8 b_staff.2.2.2.1, xI cy ((L 9)) 8 b_staff.2.2.2.2, xI cy ((L 48)) 5 u4.2]) (mk := [none, none, none, none, none, none, none, none, some (xI cy ((L 48)) 5 u4.2)]) C hw (c_X7_refused l G cy tt L b_seedNow b_keptSeed b_isKept (((-2 : Int32))) b_refusals _ u4e) zy_X7_refused zm_X7_103 rfl rfl rfl [0, 8] rfl rfl rfl rfl rfl rfl rfl rfl hl.1 ⟨rfl, rfl⟩ ⟨Nat.le_of_ble_eq_true rfl, Nat.le_of_ble_eq_true rfl⟩ rfl (Nat.le_of_ble_eq_true rfl) ⟨Nat.zero_le _, Nat.zero_le _⟩ dX7_grown_12 (fun H locs hw => ?_)
    have hf := Option.some.inj hf
    subst hf
    exact zk_reti (pc := 15) (ww := [xU L b_seedNow b_keptSeed b_isKept, xTe ((L 1)) b_now, xTe ((L 2)) b_trial, xSt ((L 5)) ((L 6)) ((L 7)) ((L 8)) ((L 9)) b_staff.1, xI cy ((L 6)) 8 b_staff.2.1, xI cy ((L 7)) 8 b_staff.2.2.1, xI cy ((L 8)) 8 b_staff.2.2.2.1, xI cy ((L 9)) 8 b_staff.2.2.2.2, xI cy ((L 48)) 5 u4.2]) C hw hr hQ dX7_grown_15
def zf_X7_brave (x1 : Int32) (b_now : TTe) (b_trial : TTe) (b_staff : TSt) (b_refusals : Nat → Int32) : Option (Int32 × TTe × (Nat → Int32)) := (Option.bind (zf_X7_isWithin x1 (((0 : Int32))) (((99 : Int32)))) (fun u1 => (if u1 then (Option.bind (zf_X5_become b_trial b_now) (fun u3 => (Option.bind (zf_X2_bitsRemaining b_staff ((x1, u3.2.1, u3.2.2.1, u3.2.2.2.1, u3.2.2.2.2.1, u3.2.2.2.2.2.1, u3.2.2.2.2.2.2))) (fun u4 => some (u4, (x1, u3.2.1, u3.2.2.1, u3.2.2.2.1, u3.2.2.2.2.1, u3.2.2.2.2.2.1, u3.2.2.2.2.2.2), b_refusals))))) else (Option.bind (zf_X7_refused (((-2 : Int32))) b_refusals) (fun u5 => some (u5.1, b_trial, u5.2))))))
abbrev zr_X7_brave : Room := { frames := 3, cells := 0, slots := 0, locals := 67 }
set_option maxHeartbeats 4000000 in
set_option maxRecDepth 100000 in
theorem c_X7_brave (l : Launch) (G : va_G) (cy : Nat → ClassId) (tt : Nat → Nat) (L : Nat → Nat) (b_seedNow : Int32) (b_keptSeed : Int32) (b_isKept : Bool) (x1 : Int32) (b_now : TTe) (b_trial : TTe) (b_staff : TSt) (b_refusals : Nat → Int32) (res : Int32 × TTe × (Nat → Int32)) (hf : zf_X7_brave x1 b_now b_trial b_staff b_refusals = some res) : zCT l yX7_brave cX7_brave 2 (some .int) zr_X7_brave G cy tt [.ref ((L 0)), .int x1] [xU L b_seedNow b_keptSeed b_isKept, xTe ((L 1)) b_now, xTe ((L 2)) b_trial, xSt ((L 5)) ((L 6)) ((L 7)) ((L 8)) ((L 9)) b_staff.1, xI cy ((L 6)) 8 b_staff.2.1, xI cy ((L 7)) 8 b_staff.2.2.1, xI cy ((L 8)) 8 b_staff.2.2.2.1, xI cy ((L 9)) 8 b_staff.2.2.2.2, xI cy ((L 48)) 5 b_refusals] (some (.int res.1)) [xU L b_seedNow b_keptSeed b_isKept, xTe ((L 1)) b_now, xTe ((L 2)) res.2.1, xSt ((L 5)) ((L 6)) ((L 7)) ((L 8)) ((L 9)) b_staff.1, xI cy ((L 6)) 8 b_staff.2.1, xI cy ((L 7)) 8 b_staff.2.2.1, xI cy ((L 8)) 8 b_staff.2.2.2.1, xI cy ((L 9)) 8 b_staff.2.2.2.2, xI cy ((L 48)) 5 res.2.2] := by
  refine zk_start zn_X7 (Nat.le_of_ble_eq_true rfl) ?_
  intro p e s m args below meth c A ls Q C hr hQ hw hl
  have C : zCx p m c s args meth cX7_brave 2 RX7 G cy tt A := C
  have hx := C.1.1
  have hb := C.1.2.1
  have hl : lv_has ls 2 [(0, .ref ((L 0))), (1, .int x1)] := hl
  rw [zf_X7_brave] at hf
  refine lv_iload_n (pc := 0) hx hb dX7_brave_0 rfl (lv_at hl 1 rfl) ?_
  refine lv_iconst (pc := 1) (v := 0) hx hb dX7_brave_1 (by decide) ?_
  refine lv_bipush (pc := 2) (v := 99) hx hb dX7_brave_2 (by decide) ?_
  obtain ⟨u1, u1e, hf⟩ := bd hf
  refine zk_cS (pc := 4) (rest := []) (st1 := [.int (bI u1)]) (w' := [xU L b_seedNow b_keptSeed b_isKept, xTe ((L 1)) b_now, xTe ((L 2)) b_trial, xSt ((L 5)) ((L 6)) ((L 7)) ((L 8)) ((L 9)) b_staff.1, xI cy ((L 6)) 8 b_staff.2.1, xI cy ((L 7)) 8 b_staff.2.2.1, xI cy ((L 8)) 8 b_staff.2.2.2.1, xI cy ((L 9)) 8 b_staff.2.2.2.2, xI cy ((L 48)) 5 b_refusals]) (mk := [none, none, none, none, none, none, none, none, none]) C hw (c_X7_isWithin l G cy tt x1 (((0 : Int32))) (((99 : Int32))) _ u1e) zy_X7_isWithin zm_X7_99 [] rfl rfl rfl rfl rfl rfl rfl rfl hl.1 ⟨rfl, rfl⟩ ⟨Nat.le_of_ble_eq_true rfl, Nat.le_of_ble_eq_true rfl⟩ rfl (Nat.le_of_ble_eq_true rfl) ⟨Nat.zero_le _, Nat.zero_le _⟩ dX7_brave_4 (fun H locs hw => ?_)
  refine zk_ifnz (pc := 7) (tgt := 17) hx hb dX7_brave_7 (by decide) (fun q2 => ?_) (fun q2 => ?_)
  · replace hf := if_t q2 hf
    refine lv_aload_n (pc := 17) hx hb dX7_brave_17 rfl (lv_at hl 0 rfl) ?_
    refine zk_gt (pc := 18) C hw zl_X7_16 0 rfl rfl dX7_brave_18 ?_
    refine lv_aload_n (pc := 21) hx hb dX7_brave_21 rfl (lv_at hl 0 rfl) ?_
    refine zk_gt (pc := 22) C hw zl_X7_10 0 rfl rfl dX7_brave_22 ?_
    obtain ⟨u3, u3e, hf⟩ := bd hf
    refine zk_cV (pc := 25) (ci := 5) (q0 := 2) (rest := []) (st1 := []) (w' := [xU L b_seedNow b_keptSeed b_isKept, xTe ((L 1)) b_now, xTe ((L 2)) u3, xSt ((L 5)) ((L 6)) ((L 7)) ((L 8)) ((L 9)) b_staff.1, xI cy ((L 6)) 8 b_staff.2.1, xI cy ((L 7)) 8 b_staff.2.2.1, xI cy ((L 8)) 8 b_staff.2.2.2.1, xI cy ((L 9)) 8 b_staff.2.2.2.2, xI cy ((L 48)) 5 b_refusals]) (mk := [none, none, some (xTe ((L 2)) u3), none, none, none, none, none, none]) C hw (c_X5_become l G cy tt ((L 2)) ((L 1)) b_trial b_now _ u3e) zy_X5_become zm_X7_193 rfl rfl rfl [2, 1] rfl rfl rfl rfl rfl rfl rfl rfl hl.1 ⟨rfl, rfl⟩ ⟨Nat.le_of_ble_eq_true rfl, Nat.le_of_ble_eq_true rfl⟩ rfl (Nat.le_of_ble_eq_true rfl) ⟨Nat.zero_le _, Nat.zero_le _⟩ dX7_brave_25 (fun H locs hw => ?_)
    refine lv_aload_n (pc := 28) hx hb dX7_brave_28 rfl (lv_at hl 0 rfl) ?_
    refine zk_gt (pc := 29) C hw zl_X7_16 0 rfl rfl dX7_brave_29 ?_
    refine lv_iload_n (pc := 32) hx hb dX7_brave_32 rfl (lv_at hl 1 rfl) ?_
    refine zk_put (pc := 33) (w' := [xU L b_seedNow b_keptSeed b_isKept, xTe ((L 1)) b_now, xTe ((L 2)) ((x1, u3.2.1, u3.2.2.1, u3.2.2.2.1, u3.2.2.2.2.1, u3.2.2.2.2.2.1, u3.2.2.2.2.2.2)), xSt ((L 5)) ((L 6)) ((L 7)) ((L 8)) ((L 9)) b_staff.1, xI cy ((L 6)) 8 b_staff.2.1, xI cy ((L 7)) 8 b_staff.2.2.1, xI cy ((L 8)) 8 b_staff.2.2.2.1, xI cy ((L 9)) 8 b_staff.2.2.2.2, xI cy ((L 48)) 5 b_refusals]) C hw zp_X7_330 2 rfl rfl rfl (Nat.le_of_ble_eq_true rfl) rfl dX7_brave_33 (fun H locs hw => ?_)
    refine lv_aload_n (pc := 36) hx hb dX7_brave_36 rfl (lv_at hl 0 rfl) ?_
    refine zk_gt (pc := 37) C hw zl_X7_28 0 rfl rfl dX7_brave_37 ?_
    refine lv_aload_n (pc := 40) hx hb dX7_brave_40 rfl (lv_at hl 0 rfl) ?_
    refine zk_gt (pc := 41) C hw zl_X7_16 0 rfl rfl dX7_brave_41 ?_
    obtain ⟨u4, u4e, hf⟩ := bd hf
    refine zk_cV (pc := 44) (ci := 2) (q0 := 3) (rest := []) (st1 := [.int u4]) (w' := [xU L b_seedNow b_keptSeed b_isKept, xTe ((L 1)) b_now, xTe ((L 2)) ((x1, u3.2.1, u3.2.2.1, u3.2.2.2.1, u3.2.2.2.2.1, u3.2.2.2.2.2.1, u3.2.2.2.2.2.2)), xSt ((L 5)) ((L 6)) ((L 7)) ((L 8)) ((L 9)) b_staff.1, xI cy ((L 6)) 8 b_staff.2.1, xI cy ((L 7)) 8 b_staff.2.2.1, xI cy ((L 8)) 8 b_staff.2.2.2.1, xI cy ((L 9)) 8 b_staff.2.2.2.2, xI cy ((L 48)) 5 b_refusals]) (mk := [none, none, none, none, none, none, none, none, none]) C hw (c_X2_bitsRemaining l G cy tt ((L 5)) ((L 6)) ((L 7)) ((L 8)) ((L 9)) ((L 2)) b_staff ((x1, u3.2.1, u3.2.2.1, u3.2.2.2.1, u3.2.2.2.2.1, u3.2.2.2.2.2.1, u3.2.2.2.2.2.2)) _ u4e) zy_X2_bitsRemaining zm_X7_217 rfl rfl rfl [3, 4, 5, 6, 7, 2] rfl rfl rfl rfl rfl rfl rfl rfl hl.1 ⟨rfl, rfl⟩ ⟨Nat.le_of_ble_eq_true rfl, Nat.le_of_ble_eq_true rfl⟩ rfl (Nat.le_of_ble_eq_true rfl) ⟨Nat.zero_le _, Nat.zero_le _⟩ dX7_brave_44 (fun H locs hw => ?_)
    have hf := Option.some.inj hf
    subst hf
    exact zk_reti (pc := 47) (ww := [xU L b_seedNow b_keptSeed b_isKept, xTe ((L 1)) b_now, xTe ((L 2)) ((x1, u3.2.1, u3.2.2.1, u3.2.2.2.1, u3.2.2.2.2.1, u3.2.2.2.2.2.1, u3.2.2.2.2.2.2)), xSt ((L 5)) ((L 6)) ((L 7)) ((L 8)) ((L 9)) b_staff.1, xI cy ((L 6)) 8 b_staff.2.1, xI cy ((L 7)) 8 b_staff.2.2.1, xI cy ((L 8)) 8 b_staff.2.2.2.1, xI cy ((L 9)) 8 b_staff.2.2.2.2, xI cy ((L 48)) 5 b_refusals]) C hw hr hQ dX7_brave_47
  · replace hf := if_f q2 hf
    refine lv_aload_n (pc := 10) hx hb dX7_brave_10 rfl (lv_at hl 0 rfl) ?_
    refine lv_bipush (pc := 11) (v := -2) hx hb dX7_brave_11 (by decide) ?_
    obtain ⟨u5, u5e, hf⟩ := bd hf
    refine zk_cV (pc := 13) (ci := 7) (q0 := 0) (rest := []) (st1 := [.int u5.1]) (w' := [xU L b_seedNow b_keptSeed b_isKept, xTe ((L 1)) b_now, xTe ((L 2)) b_trial, xSt ((L 5)) ((L 6)) ((L 7)) ((L 8)) ((L 9)) b_staff.1, xI cy ((L 6)) 8 b_staff.2.1, xI cy ((L 7)) 8 b_staff.2.2.1, xI cy ((L 8)) 8 b_staff.2.2.2.1, xI cy ((L 9)) 8 b_staff.2.2.2.2, xI cy ((L 48)) 5 u5.2]) (mk := [none, none, none, none, none, none, none, none, some (xI cy ((L 48)) 5 u5.2)]) C hw (c_X7_refused l G cy tt L b_seedNow b_keptSeed b_isKept (((-2 : Int32))) b_refusals _ u5e) zy_X7_refused zm_X7_103 rfl rfl rfl [0, 8] rfl rfl rfl rfl rfl rfl rfl rfl hl.1 ⟨rfl, rfl⟩ ⟨Nat.le_of_ble_eq_true rfl, Nat.le_of_ble_eq_true rfl⟩ rfl (Nat.le_of_ble_eq_true rfl) ⟨Nat.zero_le _, Nat.zero_le _⟩ dX7_brave_13 (fun H locs hw => ?_)
    have hf := Option.some.inj hf
    subst hf
    exact zk_reti (pc := 16) (ww := [xU L b_seedNow b_keptSeed b_isKept, xTe ((L 1)) b_now, xTe ((L 2)) b_trial, xSt ((L 5)) ((L 6)) ((L 7)) ((L 8)) ((L 9)) b_staff.1, xI cy ((L 6)) 8 b_staff.2.1, xI cy ((L 7)) 8 b_staff.2.2.1, xI cy ((L 8)) 8 b_staff.2.2.2.1, xI cy ((L 9)) 8 b_staff.2.2.2.2, xI cy ((L 48)) 5 u5.2]) C hw hr hQ dX7_brave_16
def zf_X7_ofKind_46 (b_staff : TSt) (k20 : Int32 → Int32 → Int32 → (Nat → Int32) → Option (Int32 × (Nat → Int32))) (v1 : Int32) (v2 : Int32) (v3 : Int32) (b_refusals : Nat → Int32) : Option (Int32 × (Nat → Int32)) := k20 v1 v2 ((v3 + 1)) b_refusals
def zf_X7_ofKind_20 (b_staff : TSt) : Nat → Int32 → Int32 → Int32 → (Nat → Int32) → Option (Int32 × (Nat → Int32))
  | 0, _, _, _, _ => none
  | n + 1, v1, v2, v3, b_refusals => (if b_staff.1 ≤ v3 then some (v2, b_refusals) else (Option.bind (zf_X2_kindOf v3 b_staff) (fun u5 => (if u5 = v1 then zf_X7_ofKind_46 b_staff (zf_X7_ofKind_20 b_staff n) v1 ((v2 + 1)) v3 b_refusals else zf_X7_ofKind_46 b_staff (zf_X7_ofKind_20 b_staff n) v1 v2 v3 b_refusals))))
def zf_X7_ofKind (x1 : Int32) (b_staff : TSt) (b_refusals : Nat → Int32) : Option (Int32 × (Nat → Int32)) := (Option.bind (zf_X7_isWithin x1 (((0 : Int32))) (((5 : Int32)))) (fun u1 => (if u1 then zf_X7_ofKind_20 b_staff FU x1 ((0 : Int32)) ((0 : Int32)) b_refusals else (Option.bind (zf_X7_refused (((-2 : Int32))) b_refusals) (fun u3 => some (u3.1, u3.2))))))
abbrev zr_X7_ofKind : Room := { frames := 2, cells := 0, slots := 0, locals := 42 }
set_option maxHeartbeats 4000000 in
set_option maxRecDepth 100000 in
theorem c_X7_ofKind (l : Launch) (G : va_G) (cy : Nat → ClassId) (tt : Nat → Nat) (L : Nat → Nat) (b_seedNow : Int32) (b_keptSeed : Int32) (b_isKept : Bool) (x1 : Int32) (b_staff : TSt) (b_refusals : Nat → Int32) (res : Int32 × (Nat → Int32)) (hf : zf_X7_ofKind x1 b_staff b_refusals = some res) : zCT l yX7_ofKind cX7_ofKind 4 (some .int) zr_X7_ofKind G cy tt [.ref ((L 0)), .int x1] [xU L b_seedNow b_keptSeed b_isKept, xSt ((L 5)) ((L 6)) ((L 7)) ((L 8)) ((L 9)) b_staff.1, xI cy ((L 6)) 8 b_staff.2.1, xI cy ((L 7)) 8 b_staff.2.2.1, xI cy ((L 8)) 8 b_staff.2.2.2.1, xI cy ((L 9)) 8 b_staff.2.2.2.2, xI cy ((L 48)) 5 b_refusals] (some (.int res.1)) [xU L b_seedNow b_keptSeed b_isKept, xSt ((L 5)) ((L 6)) ((L 7)) ((L 8)) ((L 9)) b_staff.1, xI cy ((L 6)) 8 b_staff.2.1, xI cy ((L 7)) 8 b_staff.2.2.1, xI cy ((L 8)) 8 b_staff.2.2.2.1, xI cy ((L 9)) 8 b_staff.2.2.2.2, xI cy ((L 48)) 5 res.2] := by
  refine zk_start zn_X7 (Nat.le_of_ble_eq_true rfl) ?_
  intro p e s m args below meth c A ls Q C hr hQ hw hl
  have C : zCx p m c s args meth cX7_ofKind 4 RX7 G cy tt A := C
  have hx := C.1.1
  have hb := C.1.2.1
  have hl : lv_has ls 4 [(0, .ref ((L 0))), (1, .int x1)] := hl
  have J46 : ∀ (k20 : Int32 → Int32 → Int32 → (Nat → Int32) → Option (Int32 × (Nat → Int32))) (K20 : ∀ (v1 : Int32) (v2 : Int32) (v3 : Int32) (b_refusals : Nat → Int32) (H : Heap) (locs : List Loc) (ls : Array Slot), k20 v1 v2 v3 b_refusals = some res → zWd G A s.heap H locs [xU L b_seedNow b_keptSeed b_isKept, xSt ((L 5)) ((L 6)) ((L 7)) ((L 8)) ((L 9)) b_staff.1, xI cy ((L 6)) 8 b_staff.2.1, xI cy ((L 7)) 8 b_staff.2.2.1, xI cy ((L 8)) 8 b_staff.2.2.2.1, xI cy ((L 9)) 8 b_staff.2.2.2.2, xI cy ((L 48)) 5 b_refusals] → lv_has ls 4 [(0, .ref ((L 0))), (1, .int v1), (2, .int v2), (3, .int v3)] → W p l e zr_X7_ofKind s m args below meth c H locs 0 0 Q (F0 m 20 ls [])), ∀ (v1 : Int32) (v2 : Int32) (v3 : Int32) (b_refusals : Nat → Int32) (H : Heap) (locs : List Loc) (ls : Array Slot), zf_X7_ofKind_46 b_staff k20 v1 v2 v3 b_refusals = some res → zWd G A s.heap H locs [xU L b_seedNow b_keptSeed b_isKept, xSt ((L 5)) ((L 6)) ((L 7)) ((L 8)) ((L 9)) b_staff.1, xI cy ((L 6)) 8 b_staff.2.1, xI cy ((L 7)) 8 b_staff.2.2.1, xI cy ((L 8)) 8 b_staff.2.2.2.1, xI cy ((L 9)) 8 b_staff.2.2.2.2, xI cy ((L 48)) 5 b_refusals] → lv_has ls 4 [(0, .ref ((L 0))), (1, .int v1), (2, .int v2), (3, .int v3)] → W p l e zr_X7_ofKind s m args below meth c H locs 0 0 Q (F0 m 46 ls []) := by
    intro k20 K20 v1 v2 v3 b_refusals H locs ls hf hw hl
    rw [zf_X7_ofKind_46] at hf
    refine lv_iinc (pc := 46) (v := (v3 + 1)) (lv' := [(3, .int ((v3 + 1))), (0, .ref ((L 0))), (1, .int v1), (2, .int v2)]) hx hb dX7_ofKind_46 hl (k := 3) rfl rfl (by decide) rfl (fun ls hl => ?_)
    refine lv_goto (pc := 49) (tgt := 20) hx hb dX7_ofKind_49 (by decide) ?_
    exact K20 v1 v2 ((v3 + 1)) b_refusals _ _ _ hf hw (lv_sub hl [1, 2, 3, 0] rfl)
  have J20 : ∀ (n : Nat), ∀ (v1 : Int32) (v2 : Int32) (v3 : Int32) (b_refusals : Nat → Int32) (H : Heap) (locs : List Loc) (ls : Array Slot), zf_X7_ofKind_20 b_staff n v1 v2 v3 b_refusals = some res → zWd G A s.heap H locs [xU L b_seedNow b_keptSeed b_isKept, xSt ((L 5)) ((L 6)) ((L 7)) ((L 8)) ((L 9)) b_staff.1, xI cy ((L 6)) 8 b_staff.2.1, xI cy ((L 7)) 8 b_staff.2.2.1, xI cy ((L 8)) 8 b_staff.2.2.2.1, xI cy ((L 9)) 8 b_staff.2.2.2.2, xI cy ((L 48)) 5 b_refusals] → lv_has ls 4 [(0, .ref ((L 0))), (1, .int v1), (2, .int v2), (3, .int v3)] → W p l e zr_X7_ofKind s m args below meth c H locs 0 0 Q (F0 m 20 ls []) := by
    intro n
    induction n with
    | zero =>
      intro v1 v2 v3 b_refusals H locs ls hf hw hl
      rw [zf_X7_ofKind_20] at hf
      cases hf
    | succ n ih =>
      intro v1 v2 v3 b_refusals H locs ls hf hw hl
      rw [zf_X7_ofKind_20] at hf
      refine lv_iload_n (pc := 20) hx hb dX7_ofKind_20 rfl (lv_at hl 3 rfl) ?_
      refine lv_aload_n (pc := 21) hx hb dX7_ofKind_21 rfl (lv_at hl 0 rfl) ?_
      refine zk_gt (pc := 22) C hw zl_X7_28 0 rfl rfl dX7_ofKind_22 ?_
      refine zk_gt (pc := 25) C hw zl_X7_303 1 rfl rfl dX7_ofKind_25 ?_
      refine lv_icmp_ge (pc := 28) (tgt := 52) hx hb dX7_ofKind_28 (by decide) (fun q4 => ?_) (fun q4 => ?_)
      · replace hf := if_t q4 hf
        refine lv_iload_n (pc := 52) hx hb dX7_ofKind_52 rfl (lv_at hl 2 rfl) ?_
        have hf := Option.some.inj hf
        subst hf
        exact zk_reti (pc := 53) (ww := [xU L b_seedNow b_keptSeed b_isKept, xSt ((L 5)) ((L 6)) ((L 7)) ((L 8)) ((L 9)) b_staff.1, xI cy ((L 6)) 8 b_staff.2.1, xI cy ((L 7)) 8 b_staff.2.2.1, xI cy ((L 8)) 8 b_staff.2.2.2.1, xI cy ((L 9)) 8 b_staff.2.2.2.2, xI cy ((L 48)) 5 b_refusals]) C hw hr hQ dX7_ofKind_53
      · replace hf := if_f q4 hf
        refine lv_aload_n (pc := 31) hx hb dX7_ofKind_31 rfl (lv_at hl 0 rfl) ?_
        refine zk_gt (pc := 32) C hw zl_X7_28 0 rfl rfl dX7_ofKind_32 ?_
        refine lv_iload_n (pc := 35) hx hb dX7_ofKind_35 rfl (lv_at hl 3 rfl) ?_
        obtain ⟨u5, u5e, hf⟩ := bd hf
        refine zk_cV (pc := 36) (ci := 2) (q0 := 1) (rest := []) (st1 := [.int u5]) (w' := [xU L b_seedNow b_keptSeed b_isKept, xSt ((L 5)) ((L 6)) ((L 7)) ((L 8)) ((L 9)) b_staff.1, xI cy ((L 6)) 8 b_staff.2.1, xI cy ((L 7)) 8 b_staff.2.2.1, xI cy ((L 8)) 8 b_staff.2.2.2.1, xI cy ((L 9)) 8 b_staff.2.2.2.2, xI cy ((L 48)) 5 b_refusals]) (mk := [none, none, none, none, none, none, none]) C hw (c_X2_kindOf l G cy tt ((L 5)) ((L 6)) ((L 7)) ((L 8)) ((L 9)) v3 b_staff _ u5e) zy_X2_kindOf zm_X7_153 rfl rfl rfl [1, 2, 3, 4, 5] rfl rfl rfl rfl rfl rfl rfl rfl hl.1 ⟨rfl, rfl⟩ ⟨Nat.le_of_ble_eq_true rfl, Nat.le_of_ble_eq_true rfl⟩ rfl (Nat.le_of_ble_eq_true rfl) ⟨Nat.zero_le _, Nat.zero_le _⟩ dX7_ofKind_36 (fun H locs hw => ?_)
        refine lv_iload_n (pc := 39) hx hb dX7_ofKind_39 rfl (lv_at hl 1 rfl) ?_
        refine lv_icmp_ne (pc := 40) (tgt := 46) hx hb dX7_ofKind_40 (by decide) (fun q6 => ?_) (fun q6 => ?_)
        · replace hf := if_f q6 hf
          exact J46 (zf_X7_ofKind_20 b_staff n) ih v1 v2 v3 b_refusals _ _ _ hf hw (lv_sub hl [0, 1, 2, 3] rfl)
        · replace hf := if_t q6 hf
          refine lv_iinc (pc := 43) (v := (v2 + 1)) (lv' := [(2, .int ((v2 + 1))), (0, .ref ((L 0))), (1, .int v1), (3, .int v3)]) hx hb dX7_ofKind_43 hl (k := 2) rfl rfl (by decide) rfl (fun ls hl => ?_)
          exact J46 (zf_X7_ofKind_20 b_staff n) ih v1 ((v2 + 1)) v3 b_refusals _ _ _ hf hw (lv_sub hl [1, 2, 0, 3] rfl)
  rw [zf_X7_ofKind] at hf
  refine lv_iload_n (pc := 0) hx hb dX7_ofKind_0 rfl (lv_at hl 1 rfl) ?_
  refine lv_iconst (pc := 1) (v := 0) hx hb dX7_ofKind_1 (by decide) ?_
  refine lv_iconst (pc := 2) (v := 5) hx hb dX7_ofKind_2 (by decide) ?_
  obtain ⟨u1, u1e, hf⟩ := bd hf
  refine zk_cS (pc := 3) (rest := []) (st1 := [.int (bI u1)]) (w' := [xU L b_seedNow b_keptSeed b_isKept, xSt ((L 5)) ((L 6)) ((L 7)) ((L 8)) ((L 9)) b_staff.1, xI cy ((L 6)) 8 b_staff.2.1, xI cy ((L 7)) 8 b_staff.2.2.1, xI cy ((L 8)) 8 b_staff.2.2.2.1, xI cy ((L 9)) 8 b_staff.2.2.2.2, xI cy ((L 48)) 5 b_refusals]) (mk := [none, none, none, none, none, none, none]) C hw (c_X7_isWithin l G cy tt x1 (((0 : Int32))) (((5 : Int32))) _ u1e) zy_X7_isWithin zm_X7_99 [] rfl rfl rfl rfl rfl rfl rfl rfl hl.1 ⟨rfl, rfl⟩ ⟨Nat.le_of_ble_eq_true rfl, Nat.le_of_ble_eq_true rfl⟩ rfl (Nat.le_of_ble_eq_true rfl) ⟨Nat.zero_le _, Nat.zero_le _⟩ dX7_ofKind_3 (fun H locs hw => ?_)
  refine zk_ifnz (pc := 6) (tgt := 16) hx hb dX7_ofKind_6 (by decide) (fun q2 => ?_) (fun q2 => ?_)
  · replace hf := if_t q2 hf
    refine lv_iconst (pc := 16) (v := 0) hx hb dX7_ofKind_16 (by decide) ?_
    refine lv_istore_n (pc := 17) (lv' := [(2, .int ((0 : Int32))), (0, .ref ((L 0))), (1, .int x1)]) hx hb dX7_ofKind_17 rfl hl (by decide) rfl (fun ls hl => ?_)
    refine lv_iconst (pc := 18) (v := 0) hx hb dX7_ofKind_18 (by decide) ?_
    refine lv_istore_n (pc := 19) (lv' := [(3, .int ((0 : Int32))), (2, .int ((0 : Int32))), (0, .ref ((L 0))), (1, .int x1)]) hx hb dX7_ofKind_19 rfl hl (by decide) rfl (fun ls hl => ?_)
    exact J20 FU x1 ((0 : Int32)) ((0 : Int32)) b_refusals _ _ _ hf hw (lv_sub hl [2, 3, 1, 0] rfl)
  · replace hf := if_f q2 hf
    refine lv_aload_n (pc := 9) hx hb dX7_ofKind_9 rfl (lv_at hl 0 rfl) ?_
    refine lv_bipush (pc := 10) (v := -2) hx hb dX7_ofKind_10 (by decide) ?_
    obtain ⟨u3, u3e, hf⟩ := bd hf
    refine zk_cV (pc := 12) (ci := 7) (q0 := 0) (rest := []) (st1 := [.int u3.1]) (w' := [xU L b_seedNow b_keptSeed b_isKept, xSt ((L 5)) ((L 6)) ((L 7)) ((L 8)) ((L 9)) b_staff.1, xI cy ((L 6)) 8 b_staff.2.1, xI cy ((L 7)) 8 b_staff.2.2.1, xI cy ((L 8)) 8 b_staff.2.2.2.1, xI cy ((L 9)) 8 b_staff.2.2.2.2, xI cy ((L 48)) 5 u3.2]) (mk := [none, none, none, none, none, none, some (xI cy ((L 48)) 5 u3.2)]) C hw (c_X7_refused l G cy tt L b_seedNow b_keptSeed b_isKept (((-2 : Int32))) b_refusals _ u3e) zy_X7_refused zm_X7_103 rfl rfl rfl [0, 6] rfl rfl rfl rfl rfl rfl rfl rfl hl.1 ⟨rfl, rfl⟩ ⟨Nat.le_of_ble_eq_true rfl, Nat.le_of_ble_eq_true rfl⟩ rfl (Nat.le_of_ble_eq_true rfl) ⟨Nat.zero_le _, Nat.zero_le _⟩ dX7_ofKind_12 (fun H locs hw => ?_)
    have hf := Option.some.inj hf
    subst hf
    exact zk_reti (pc := 15) (ww := [xU L b_seedNow b_keptSeed b_isKept, xSt ((L 5)) ((L 6)) ((L 7)) ((L 8)) ((L 9)) b_staff.1, xI cy ((L 6)) 8 b_staff.2.1, xI cy ((L 7)) 8 b_staff.2.2.1, xI cy ((L 8)) 8 b_staff.2.2.2.1, xI cy ((L 9)) 8 b_staff.2.2.2.2, xI cy ((L 48)) 5 u3.2]) C hw hr hQ dX7_ofKind_15
def zf_X2_noteFled (x1 : Int32) (b_this : TSt) : Option (TSt) := (Option.bind (zf_X2_has x1 b_this) (fun u1 => (if u1 then (if ix x1 8 then (if ix x1 8 then some ((b_this.1, b_this.2.1, b_this.2.2.1, b_this.2.2.2.1, (upd b_this.2.2.2.2 x1.toNatClampNeg (((b_this.2.2.2.2 x1.toNatClampNeg) + (1 : Int32)))))) else none) else none) else some (b_this))))
abbrev zr_X2_noteFled : Room := { frames := 1, cells := 0, slots := 0, locals := 21 }
set_option maxHeartbeats 4000000 in
set_option maxRecDepth 100000 in
theorem c_X2_noteFled (l : Launch) (G : va_G) (cy : Nat → ClassId) (tt : Nat → Nat) (a0 a1 a2 a3 a4 : Nat) (x1 : Int32) (b_this : TSt) (res : TSt) (hf : zf_X2_noteFled x1 b_this = some res) : zCT l yX2_noteFled cX2_noteFled 2 none zr_X2_noteFled G cy tt [.ref a0, .int x1] [xSt a0 a1 a2 a3 a4 b_this.1, xI cy a1 8 b_this.2.1, xI cy a2 8 b_this.2.2.1, xI cy a3 8 b_this.2.2.2.1, xI cy a4 8 b_this.2.2.2.2] none [xSt a0 a1 a2 a3 a4 res.1, xI cy a1 8 res.2.1, xI cy a2 8 res.2.2.1, xI cy a3 8 res.2.2.2.1, xI cy a4 8 res.2.2.2.2] := by
  refine zk_start zn_X2 (Nat.le_of_ble_eq_true rfl) ?_
  intro p e s m args below meth c A ls Q C hr hQ hw hl
  have C : zCx p m c s args meth cX2_noteFled 2 RX2 G cy tt A := C
  have hx := C.1.1
  have hb := C.1.2.1
  have hl : lv_has ls 2 [(0, .ref a0), (1, .int x1)] := hl
  rw [zf_X2_noteFled] at hf
  refine lv_aload_n (pc := 0) hx hb dX2_noteFled_0 rfl (lv_at hl 0 rfl) ?_
  refine lv_iload_n (pc := 1) hx hb dX2_noteFled_1 rfl (lv_at hl 1 rfl) ?_
  obtain ⟨u1, u1e, hf⟩ := bd hf
  refine zk_cV (pc := 2) (ci := 2) (q0 := 0) (rest := []) (st1 := [.int (bI u1)]) (w' := [xSt a0 a1 a2 a3 a4 b_this.1, xI cy a1 8 b_this.2.1, xI cy a2 8 b_this.2.2.1, xI cy a3 8 b_this.2.2.2.1, xI cy a4 8 b_this.2.2.2.2]) (mk := [none, none, none, none, none]) C hw (c_X2_has l G cy tt a0 a1 a2 a3 a4 x1 b_this _ u1e) zy_X2_has zm_X2_28 rfl rfl rfl [0, 1, 2, 3, 4] rfl rfl rfl rfl rfl rfl rfl rfl hl.1 ⟨rfl, rfl⟩ ⟨Nat.le_of_ble_eq_true rfl, Nat.le_of_ble_eq_true rfl⟩ rfl (Nat.le_of_ble_eq_true rfl) ⟨Nat.zero_le _, Nat.zero_le _⟩ dX2_noteFled_2 (fun H locs hw => ?_)
  refine zk_ifz (pc := 5) (tgt := 18) hx hb dX2_noteFled_5 (by decide) (fun q2 => ?_) (fun q2 => ?_)
  · replace hf := if_f q2 hf
    have hf := Option.some.inj hf
    subst hf
    exact zk_retv (pc := 18) (ww := [xSt a0 a1 a2 a3 a4 b_this.1, xI cy a1 8 b_this.2.1, xI cy a2 8 b_this.2.2.1, xI cy a3 8 b_this.2.2.2.1, xI cy a4 8 b_this.2.2.2.2]) C hw hr hQ dX2_noteFled_18
  · replace hf := if_t q2 hf
    refine lv_aload_n (pc := 8) hx hb dX2_noteFled_8 rfl (lv_at hl 0 rfl) ?_
    refine zk_gt (pc := 9) C hw zl_X2_25 0 rfl rfl dX2_noteFled_9 ?_
    refine lv_iload_n (pc := 12) hx hb dX2_noteFled_12 rfl (lv_at hl 1 rfl) ?_
    refine lv_dup2_11 (pc := 13) hx hb dX2_noteFled_13 rfl rfl ?_
    obtain ⟨q3, hf⟩ := ck hf
    refine zk_iald (pc := 14) C hw 4 rfl q3 dX2_noteFled_14 ?_
    refine lv_iconst (pc := 15) (v := 1) hx hb dX2_noteFled_15 (by decide) ?_
    refine lv_iadd (pc := 16) hx hb dX2_noteFled_16 ?_
    obtain ⟨q4, hf⟩ := ck hf
    refine zk_iast (pc := 17) (w' := [xSt a0 a1 a2 a3 a4 b_this.1, xI cy a1 8 b_this.2.1, xI cy a2 8 b_this.2.2.1, xI cy a3 8 b_this.2.2.2.1, xI cy a4 8 ((upd b_this.2.2.2.2 x1.toNatClampNeg (((b_this.2.2.2.2 x1.toNatClampNeg) + (1 : Int32)))))]) C hw 4 rfl q4 rfl dX2_noteFled_17 (fun H locs hw => ?_)
    have hf := Option.some.inj hf
    subst hf
    exact zk_retv (pc := 18) (ww := [xSt a0 a1 a2 a3 a4 b_this.1, xI cy a1 8 b_this.2.1, xI cy a2 8 b_this.2.2.1, xI cy a3 8 b_this.2.2.2.1, xI cy a4 8 ((upd b_this.2.2.2.2 x1.toNatClampNeg (((b_this.2.2.2.2 x1.toNatClampNeg) + (1 : Int32)))))]) C hw hr hQ dX2_noteFled_18
def zf_X7_carryOut (x1 : Int32) (b_now : TTe) (b_staff : TSt) : Option (Int32 × TTe × TSt) := (Option.bind (zf_X5_pass x1 b_now b_staff) (fun u1 => (Option.bind (zf_X2_noteFled u1.2.2.2.2.2.2 b_staff) (fun u2 => (if u1.2.2.2.2.2.1 then some ((1 : Int32), u1, u2) else some ((0 : Int32), u1, u2))))))
abbrev zr_X7_carryOut : Room := { frames := 3, cells := 0, slots := 0, locals := 68 }
set_option maxHeartbeats 4000000 in
set_option maxRecDepth 100000 in
theorem c_X7_carryOut (l : Launch) (G : va_G) (cy : Nat → ClassId) (tt : Nat → Nat) (L : Nat → Nat) (b_seedNow : Int32) (b_keptSeed : Int32) (b_isKept : Bool) (x1 : Int32) (b_now : TTe) (b_staff : TSt) (res : Int32 × TTe × TSt) (hf : zf_X7_carryOut x1 b_now b_staff = some res) : zCT l yX7_carryOut cX7_carryOut 2 (some .int) zr_X7_carryOut G cy tt [.ref ((L 0)), .int x1] [xU L b_seedNow b_keptSeed b_isKept, xTe ((L 1)) b_now, xSt ((L 5)) ((L 6)) ((L 7)) ((L 8)) ((L 9)) b_staff.1, xI cy ((L 6)) 8 b_staff.2.1, xI cy ((L 7)) 8 b_staff.2.2.1, xI cy ((L 8)) 8 b_staff.2.2.2.1, xI cy ((L 9)) 8 b_staff.2.2.2.2] (some (.int res.1)) [xU L b_seedNow b_keptSeed b_isKept, xTe ((L 1)) res.2.1, xSt ((L 5)) ((L 6)) ((L 7)) ((L 8)) ((L 9)) res.2.2.1, xI cy ((L 6)) 8 res.2.2.2.1, xI cy ((L 7)) 8 res.2.2.2.2.1, xI cy ((L 8)) 8 res.2.2.2.2.2.1, xI cy ((L 9)) 8 res.2.2.2.2.2.2] := by
  refine zk_start zn_X7 (Nat.le_of_ble_eq_true rfl) ?_
  intro p e s m args below meth c A ls Q C hr hQ hw hl
  have C : zCx p m c s args meth cX7_carryOut 2 RX7 G cy tt A := C
  have hx := C.1.1
  have hb := C.1.2.1
  have hl : lv_has ls 2 [(0, .ref ((L 0))), (1, .int x1)] := hl
  rw [zf_X7_carryOut] at hf
  refine lv_aload_n (pc := 0) hx hb dX7_carryOut_0 rfl (lv_at hl 0 rfl) ?_
  refine zk_gt (pc := 1) C hw zl_X7_10 0 rfl rfl dX7_carryOut_1 ?_
  refine lv_iload_n (pc := 4) hx hb dX7_carryOut_4 rfl (lv_at hl 1 rfl) ?_
  refine lv_aload_n (pc := 5) hx hb dX7_carryOut_5 rfl (lv_at hl 0 rfl) ?_
  refine zk_gt (pc := 6) C hw zl_X7_28 0 rfl rfl dX7_carryOut_6 ?_
  obtain ⟨u1, u1e, hf⟩ := bd hf
  refine zk_cV (pc := 9) (ci := 5) (q0 := 1) (rest := []) (st1 := []) (w' := [xU L b_seedNow b_keptSeed b_isKept, xTe ((L 1)) u1, xSt ((L 5)) ((L 6)) ((L 7)) ((L 8)) ((L 9)) b_staff.1, xI cy ((L 6)) 8 b_staff.2.1, xI cy ((L 7)) 8 b_staff.2.2.1, xI cy ((L 8)) 8 b_staff.2.2.2.1, xI cy ((L 9)) 8 b_staff.2.2.2.2]) (mk := [none, some (xTe ((L 1)) u1), none, none, none, none, none]) C hw (c_X5_pass l G cy tt ((L 1)) ((L 5)) ((L 6)) ((L 7)) ((L 8)) ((L 9)) x1 b_now b_staff _ u1e) zy_X5_pass zm_X7_307 rfl rfl rfl [1, 2, 3, 4, 5, 6] rfl rfl rfl rfl rfl rfl rfl rfl hl.1 ⟨rfl, rfl⟩ ⟨Nat.le_of_ble_eq_true rfl, Nat.le_of_ble_eq_true rfl⟩ rfl (Nat.le_of_ble_eq_true rfl) ⟨Nat.zero_le _, Nat.zero_le _⟩ dX7_carryOut_9 (fun H locs hw => ?_)
  refine lv_aload_n (pc := 12) hx hb dX7_carryOut_12 rfl (lv_at hl 0 rfl) ?_
  refine zk_gt (pc := 13) C hw zl_X7_28 0 rfl rfl dX7_carryOut_13 ?_
  refine lv_aload_n (pc := 16) hx hb dX7_carryOut_16 rfl (lv_at hl 0 rfl) ?_
  refine zk_gt (pc := 17) C hw zl_X7_10 0 rfl rfl dX7_carryOut_17 ?_
  refine zk_gt (pc := 20) C hw zl_X7_403 1 rfl rfl dX7_carryOut_20 ?_
  obtain ⟨u2, u2e, hf⟩ := bd hf
  refine zk_cV (pc := 23) (ci := 2) (q0 := 2) (rest := []) (st1 := []) (w' := [xU L b_seedNow b_keptSeed b_isKept, xTe ((L 1)) u1, xSt ((L 5)) ((L 6)) ((L 7)) ((L 8)) ((L 9)) u2.1, xI cy ((L 6)) 8 u2.2.1, xI cy ((L 7)) 8 u2.2.2.1, xI cy ((L 8)) 8 u2.2.2.2.1, xI cy ((L 9)) 8 u2.2.2.2.2]) (mk := [none, none, some (xSt ((L 5)) ((L 6)) ((L 7)) ((L 8)) ((L 9)) u2.1), some (xI cy ((L 6)) 8 u2.2.1), some (xI cy ((L 7)) 8 u2.2.2.1), some (xI cy ((L 8)) 8 u2.2.2.2.1), some (xI cy ((L 9)) 8 u2.2.2.2.2)]) C hw (c_X2_noteFled l G cy tt ((L 5)) ((L 6)) ((L 7)) ((L 8)) ((L 9)) u1.2.2.2.2.2.2 b_staff _ u2e) zy_X2_noteFled zm_X7_414 rfl rfl rfl [2, 3, 4, 5, 6] rfl rfl rfl rfl rfl rfl rfl rfl hl.1 ⟨rfl, rfl⟩ ⟨Nat.le_of_ble_eq_true rfl, Nat.le_of_ble_eq_true rfl⟩ rfl (Nat.le_of_ble_eq_true rfl) ⟨Nat.zero_le _, Nat.zero_le _⟩ dX7_carryOut_23 (fun H locs hw => ?_)
  refine lv_aload_n (pc := 26) hx hb dX7_carryOut_26 rfl (lv_at hl 0 rfl) ?_
  refine zk_gt (pc := 27) C hw zl_X7_10 0 rfl rfl dX7_carryOut_27 ?_
  refine zk_gt (pc := 30) C hw zl_X7_229 1 rfl rfl dX7_carryOut_30 ?_
  refine zk_ifz (pc := 33) (tgt := 40) hx hb dX7_carryOut_33 (by decide) (fun q3 => ?_) (fun q3 => ?_)
  · replace hf := if_f q3 hf
    refine lv_iconst (pc := 40) (v := 0) hx hb dX7_carryOut_40 (by decide) ?_
    have hf := Option.some.inj hf
    subst hf
    exact zk_reti (pc := 41) (ww := [xU L b_seedNow b_keptSeed b_isKept, xTe ((L 1)) u1, xSt ((L 5)) ((L 6)) ((L 7)) ((L 8)) ((L 9)) u2.1, xI cy ((L 6)) 8 u2.2.1, xI cy ((L 7)) 8 u2.2.2.1, xI cy ((L 8)) 8 u2.2.2.2.1, xI cy ((L 9)) 8 u2.2.2.2.2]) C hw hr hQ dX7_carryOut_41
  · replace hf := if_t q3 hf
    refine lv_iconst (pc := 36) (v := 1) hx hb dX7_carryOut_36 (by decide) ?_
    refine lv_goto (pc := 37) (tgt := 41) hx hb dX7_carryOut_37 (by decide) ?_
    have hf := Option.some.inj hf
    subst hf
    exact zk_reti (pc := 41) (ww := [xU L b_seedNow b_keptSeed b_isKept, xTe ((L 1)) u1, xSt ((L 5)) ((L 6)) ((L 7)) ((L 8)) ((L 9)) u2.1, xI cy ((L 6)) 8 u2.2.1, xI cy ((L 7)) 8 u2.2.2.1, xI cy ((L 8)) 8 u2.2.2.2.1, xI cy ((L 9)) 8 u2.2.2.2.2]) C hw hr hQ dX7_carryOut_41
def zf_X7_order (x1 : Int32) (b_now : TTe) (b_staff : TSt) (b_refusals : Nat → Int32) : Option (Int32 × TTe × TSt × (Nat → Int32)) := (Option.bind (zf_X7_isOrder x1.toInt64 b_staff) (fun u1 => (if u1 then (Option.bind (zf_X7_carryOut x1 b_now b_staff) (fun u3 => some (u3.2.1.1, u3.2.1, u3.2.2, b_refusals))) else (Option.bind (zf_X7_refused (((-2 : Int32))) b_refusals) (fun u4 => some (u4.1, b_now, b_staff, u4.2))))))
abbrev zr_X7_order : Room := { frames := 4, cells := 0, slots := 0, locals := 89 }
set_option maxHeartbeats 4000000 in
set_option maxRecDepth 100000 in
theorem c_X7_order (l : Launch) (G : va_G) (cy : Nat → ClassId) (tt : Nat → Nat) (L : Nat → Nat) (b_seedNow : Int32) (b_keptSeed : Int32) (b_isKept : Bool) (x1 : Int32) (b_now : TTe) (b_staff : TSt) (b_refusals : Nat → Int32) (res : Int32 × TTe × TSt × (Nat → Int32)) (hf : zf_X7_order x1 b_now b_staff b_refusals = some res) : zCT l yX7_order cX7_order 2 (some .int) zr_X7_order G cy tt [.ref ((L 0)), .int x1] [xU L b_seedNow b_keptSeed b_isKept, xTe ((L 1)) b_now, xSt ((L 5)) ((L 6)) ((L 7)) ((L 8)) ((L 9)) b_staff.1, xI cy ((L 6)) 8 b_staff.2.1, xI cy ((L 7)) 8 b_staff.2.2.1, xI cy ((L 8)) 8 b_staff.2.2.2.1, xI cy ((L 9)) 8 b_staff.2.2.2.2, xI cy ((L 48)) 5 b_refusals] (some (.int res.1)) [xU L b_seedNow b_keptSeed b_isKept, xTe ((L 1)) res.2.1, xSt ((L 5)) ((L 6)) ((L 7)) ((L 8)) ((L 9)) res.2.2.1.1, xI cy ((L 6)) 8 res.2.2.1.2.1, xI cy ((L 7)) 8 res.2.2.1.2.2.1, xI cy ((L 8)) 8 res.2.2.1.2.2.2.1, xI cy ((L 9)) 8 res.2.2.1.2.2.2.2, xI cy ((L 48)) 5 res.2.2.2] := by
  refine zk_start zn_X7 (Nat.le_of_ble_eq_true rfl) ?_
  intro p e s m args below meth c A ls Q C hr hQ hw hl
  have C : zCx p m c s args meth cX7_order 2 RX7 G cy tt A := C
  have hx := C.1.1
  have hb := C.1.2.1
  have hl : lv_has ls 2 [(0, .ref ((L 0))), (1, .int x1)] := hl
  rw [zf_X7_order] at hf
  refine lv_aload_n (pc := 0) hx hb dX7_order_0 rfl (lv_at hl 0 rfl) ?_
  refine lv_iload_n (pc := 1) hx hb dX7_order_1 rfl (lv_at hl 1 rfl) ?_
  refine lv_i2l (pc := 2) (v := x1.toInt64) hx hb dX7_order_2 rfl ?_
  obtain ⟨u1, u1e, hf⟩ := bd hf
  refine zk_cV (pc := 3) (ci := 7) (q0 := 0) (rest := []) (st1 := [.int (bI u1)]) (w' := [xU L b_seedNow b_keptSeed b_isKept, xTe ((L 1)) b_now, xSt ((L 5)) ((L 6)) ((L 7)) ((L 8)) ((L 9)) b_staff.1, xI cy ((L 6)) 8 b_staff.2.1, xI cy ((L 7)) 8 b_staff.2.2.1, xI cy ((L 8)) 8 b_staff.2.2.2.1, xI cy ((L 9)) 8 b_staff.2.2.2.2, xI cy ((L 48)) 5 b_refusals]) (mk := [none, none, none, none, none, none, none, none]) C hw (c_X7_isOrder l G cy tt L b_seedNow b_keptSeed b_isKept x1.toInt64 b_staff _ u1e) zy_X7_isOrder zm_X7_221 rfl rfl rfl [0, 2, 3, 4, 5, 6] rfl rfl rfl rfl rfl rfl rfl rfl hl.1 ⟨rfl, rfl⟩ ⟨Nat.le_of_ble_eq_true rfl, Nat.le_of_ble_eq_true rfl⟩ rfl (Nat.le_of_ble_eq_true rfl) ⟨Nat.zero_le _, Nat.zero_le _⟩ dX7_order_3 (fun H locs hw => ?_)
  refine zk_ifnz (pc := 6) (tgt := 16) hx hb dX7_order_6 (by decide) (fun q2 => ?_) (fun q2 => ?_)
  · replace hf := if_t q2 hf
    refine lv_aload_n (pc := 16) hx hb dX7_order_16 rfl (lv_at hl 0 rfl) ?_
    refine lv_iload_n (pc := 17) hx hb dX7_order_17 rfl (lv_at hl 1 rfl) ?_
    obtain ⟨u3, u3e, hf⟩ := bd hf
    refine zk_cV (pc := 18) (ci := 7) (q0 := 0) (rest := []) (st1 := [.int u3.1]) (w' := [xU L b_seedNow b_keptSeed b_isKept, xTe ((L 1)) u3.2.1, xSt ((L 5)) ((L 6)) ((L 7)) ((L 8)) ((L 9)) u3.2.2.1, xI cy ((L 6)) 8 u3.2.2.2.1, xI cy ((L 7)) 8 u3.2.2.2.2.1, xI cy ((L 8)) 8 u3.2.2.2.2.2.1, xI cy ((L 9)) 8 u3.2.2.2.2.2.2, xI cy ((L 48)) 5 b_refusals]) (mk := [none, some (xTe ((L 1)) u3.2.1), some (xSt ((L 5)) ((L 6)) ((L 7)) ((L 8)) ((L 9)) u3.2.2.1), some (xI cy ((L 6)) 8 u3.2.2.2.1), some (xI cy ((L 7)) 8 u3.2.2.2.2.1), some (xI cy ((L 8)) 8 u3.2.2.2.2.2.1), some (xI cy ((L 9)) 8 u3.2.2.2.2.2.2), none]) C hw (c_X7_carryOut l G cy tt L b_seedNow b_keptSeed b_isKept x1 b_now b_staff _ u3e) zy_X7_carryOut zm_X7_357 rfl rfl rfl [0, 1, 2, 3, 4, 5, 6] rfl rfl rfl rfl rfl rfl rfl rfl hl.1 ⟨rfl, rfl⟩ ⟨Nat.le_of_ble_eq_true rfl, Nat.le_of_ble_eq_true rfl⟩ rfl (Nat.le_of_ble_eq_true rfl) ⟨Nat.zero_le _, Nat.zero_le _⟩ dX7_order_18 (fun H locs hw => ?_)
    refine lv_pop (pc := 21) hx hb dX7_order_21 rfl ?_
    refine lv_aload_n (pc := 22) hx hb dX7_order_22 rfl (lv_at hl 0 rfl) ?_
    refine zk_gt (pc := 23) C hw zl_X7_10 0 rfl rfl dX7_order_23 ?_
    refine zk_gt (pc := 26) C hw zl_X7_330 1 rfl rfl dX7_order_26 ?_
    have hf := Option.some.inj hf
    subst hf
    exact zk_reti (pc := 29) (ww := [xU L b_seedNow b_keptSeed b_isKept, xTe ((L 1)) u3.2.1, xSt ((L 5)) ((L 6)) ((L 7)) ((L 8)) ((L 9)) u3.2.2.1, xI cy ((L 6)) 8 u3.2.2.2.1, xI cy ((L 7)) 8 u3.2.2.2.2.1, xI cy ((L 8)) 8 u3.2.2.2.2.2.1, xI cy ((L 9)) 8 u3.2.2.2.2.2.2, xI cy ((L 48)) 5 b_refusals]) C hw hr hQ dX7_order_29
  · replace hf := if_f q2 hf
    refine lv_aload_n (pc := 9) hx hb dX7_order_9 rfl (lv_at hl 0 rfl) ?_
    refine lv_bipush (pc := 10) (v := -2) hx hb dX7_order_10 (by decide) ?_
    obtain ⟨u4, u4e, hf⟩ := bd hf
    refine zk_cV (pc := 12) (ci := 7) (q0 := 0) (rest := []) (st1 := [.int u4.1]) (w' := [xU L b_seedNow b_keptSeed b_isKept, xTe ((L 1)) b_now, xSt ((L 5)) ((L 6)) ((L 7)) ((L 8)) ((L 9)) b_staff.1, xI cy ((L 6)) 8 b_staff.2.1, xI cy ((L 7)) 8 b_staff.2.2.1, xI cy ((L 8)) 8 b_staff.2.2.2.1, xI cy ((L 9)) 8 b_staff.2.2.2.2, xI cy ((L 48)) 5 u4.2]) (mk := [none, none, none, none, none, none, none, some (xI cy ((L 48)) 5 u4.2)]) C hw (c_X7_refused l G cy tt L b_seedNow b_keptSeed b_isKept (((-2 : Int32))) b_refusals _ u4e) zy_X7_refused zm_X7_103 rfl rfl rfl [0, 7] rfl rfl rfl rfl rfl rfl rfl rfl hl.1 ⟨rfl, rfl⟩ ⟨Nat.le_of_ble_eq_true rfl, Nat.le_of_ble_eq_true rfl⟩ rfl (Nat.le_of_ble_eq_true rfl) ⟨Nat.zero_le _, Nat.zero_le _⟩ dX7_order_12 (fun H locs hw => ?_)
    have hf := Option.some.inj hf
    subst hf
    exact zk_reti (pc := 15) (ww := [xU L b_seedNow b_keptSeed b_isKept, xTe ((L 1)) b_now, xSt ((L 5)) ((L 6)) ((L 7)) ((L 8)) ((L 9)) b_staff.1, xI cy ((L 6)) 8 b_staff.2.1, xI cy ((L 7)) 8 b_staff.2.2.1, xI cy ((L 8)) 8 b_staff.2.2.2.1, xI cy ((L 9)) 8 b_staff.2.2.2.2, xI cy ((L 48)) 5 u4.2]) C hw hr hQ dX7_order_15
def zf_X7_done_24 (b_shelves : TSh) : Nat → Int32 → Int32 → Int32 → TTe → TSt → (Nat → Int32) → (Nat → Int32) → Option (Int32 × TTe × TSt × (Nat → Int32) × (Nat → Int32))
  | 0, _, _, _, _, _, _, _ => none
  | n + 1, v2, v4, v5, b_now, b_staff, b_plan, b_refusals => (if v2 ≤ v5 then some (v4, b_now, b_staff, b_plan, b_refusals) else (if (48 : Int32) ≤ v5 then some (v4, b_now, b_staff, b_plan, b_refusals) else (if ix v5 48 then (Option.bind (zf_X7_carryOut (((b_plan v5.toNatClampNeg))) b_now b_staff) (fun u7 => zf_X7_done_24 b_shelves n v2 ((v4 + u7.1)) ((v5 + 1)) u7.2.1 u7.2.2 b_plan b_refusals)) else none)))
def zf_X7_done (x1 : Int32) (x2 : Int32) (b_now : TTe) (b_staff : TSt) (b_shelves : TSh) (b_plan : Nat → Int32) (b_refusals : Nat → Int32) : Option (Int32 × TTe × TSt × (Nat → Int32) × (Nat → Int32)) := (Option.bind (zf_X7_takeRoster x1 x2 true b_staff b_shelves b_plan) (fun u1 => (if u1.1 = 0 then zf_X7_done_24 b_shelves FU x2 ((0 : Int32)) ((0 : Int32)) b_now b_staff u1.2 b_refusals else (Option.bind (zf_X7_refused u1.1 b_refusals) (fun u3 => some (u3.1, b_now, b_staff, u1.2, u3.2))))))
abbrev zr_X7_done : Room := { frames := 6, cells := 0, slots := 0, locals := 134 }
set_option maxHeartbeats 4000000 in
set_option maxRecDepth 100000 in
theorem c_X7_done (l : Launch) (G : va_G) (cy : Nat → ClassId) (tt : Nat → Nat) (L : Nat → Nat) (b_seedNow : Int32) (b_keptSeed : Int32) (b_isKept : Bool) (x1 : Int32) (x2 : Int32) (b_now : TTe) (b_staff : TSt) (b_shelves : TSh) (b_plan : Nat → Int32) (b_refusals : Nat → Int32) (res : Int32 × TTe × TSt × (Nat → Int32) × (Nat → Int32)) (hf : zf_X7_done x1 x2 b_now b_staff b_shelves b_plan b_refusals = some res) : zCT l yX7_done cX7_done 6 (some .int) zr_X7_done G cy tt [.ref ((L 0)), .int x1, .int x2] [xU L b_seedNow b_keptSeed b_isKept, xTe ((L 1)) b_now, xSt ((L 5)) ((L 6)) ((L 7)) ((L 8)) ((L 9)) b_staff.1, xI cy ((L 6)) 8 b_staff.2.1, xI cy ((L 7)) 8 b_staff.2.2.1, xI cy ((L 8)) 8 b_staff.2.2.2.1, xI cy ((L 9)) 8 b_staff.2.2.2.2, xSh ((L 20)) ((L 21)) ((L 22)) ((L 23)), xI cy ((L 21)) 8 b_shelves.1, xI cy ((L 22)) 8 b_shelves.2.1, xRJ cy ((L 23)) 8 (fun j => [some ((L 24)), some ((L 25)), some ((L 26)), some ((L 27)), some ((L 28)), some ((L 29)), some ((L 30)), some ((L 31))].getD j none), xJ cy ((L 24)) 40 ((b_shelves.2.2 0)), xJ cy ((L 25)) 40 ((b_shelves.2.2 1)), xJ cy ((L 26)) 40 ((b_shelves.2.2 2)), xJ cy ((L 27)) 40 ((b_shelves.2.2 3)), xJ cy ((L 28)) 40 ((b_shelves.2.2 4)), xJ cy ((L 29)) 40 ((b_shelves.2.2 5)), xJ cy ((L 30)) 40 ((b_shelves.2.2 6)), xJ cy ((L 31)) 40 ((b_shelves.2.2 7)), xI cy ((L 46)) 48 b_plan, xI cy ((L 48)) 5 b_refusals] (some (.int res.1)) [xU L b_seedNow b_keptSeed b_isKept, xTe ((L 1)) res.2.1, xSt ((L 5)) ((L 6)) ((L 7)) ((L 8)) ((L 9)) res.2.2.1.1, xI cy ((L 6)) 8 res.2.2.1.2.1, xI cy ((L 7)) 8 res.2.2.1.2.2.1, xI cy ((L 8)) 8 res.2.2.1.2.2.2.1, xI cy ((L 9)) 8 res.2.2.1.2.2.2.2, xSh ((L 20)) ((L 21)) ((L 22)) ((L 23)), xI cy ((L 21)) 8 b_shelves.1, xI cy ((L 22)) 8 b_shelves.2.1, xRJ cy ((L 23)) 8 (fun j => [some ((L 24)), some ((L 25)), some ((L 26)), some ((L 27)), some ((L 28)), some ((L 29)), some ((L 30)), some ((L 31))].getD j none), xJ cy ((L 24)) 40 ((b_shelves.2.2 0)), xJ cy ((L 25)) 40 ((b_shelves.2.2 1)), xJ cy ((L 26)) 40 ((b_shelves.2.2 2)), xJ cy ((L 27)) 40 ((b_shelves.2.2 3)), xJ cy ((L 28)) 40 ((b_shelves.2.2 4)), xJ cy ((L 29)) 40 ((b_shelves.2.2 5)), xJ cy ((L 30)) 40 ((b_shelves.2.2 6)), xJ cy ((L 31)) 40 ((b_shelves.2.2 7)), xI cy ((L 46)) 48 res.2.2.2.1, xI cy ((L 48)) 5 res.2.2.2.2] := by
  refine zk_start zn_X7 (Nat.le_of_ble_eq_true rfl) ?_
  intro p e s m args below meth c A ls Q C hr hQ hw hl
  have C : zCx p m c s args meth cX7_done 6 RX7 G cy tt A := C
  have hx := C.1.1
  have hb := C.1.2.1
  have hl : lv_has ls 6 [(0, .ref ((L 0))), (1, .int x1), (2, .int x2)] := hl
  have J24 : ∀ (n : Nat), ∀ (v2 : Int32) (v4 : Int32) (v5 : Int32) (b_now : TTe) (b_staff : TSt) (b_plan : Nat → Int32) (b_refusals : Nat → Int32) (H : Heap) (locs : List Loc) (ls : Array Slot), zf_X7_done_24 b_shelves n v2 v4 v5 b_now b_staff b_plan b_refusals = some res → zWd G A s.heap H locs [xU L b_seedNow b_keptSeed b_isKept, xTe ((L 1)) b_now, xSt ((L 5)) ((L 6)) ((L 7)) ((L 8)) ((L 9)) b_staff.1, xI cy ((L 6)) 8 b_staff.2.1, xI cy ((L 7)) 8 b_staff.2.2.1, xI cy ((L 8)) 8 b_staff.2.2.2.1, xI cy ((L 9)) 8 b_staff.2.2.2.2, xSh ((L 20)) ((L 21)) ((L 22)) ((L 23)), xI cy ((L 21)) 8 b_shelves.1, xI cy ((L 22)) 8 b_shelves.2.1, xRJ cy ((L 23)) 8 (fun j => [some ((L 24)), some ((L 25)), some ((L 26)), some ((L 27)), some ((L 28)), some ((L 29)), some ((L 30)), some ((L 31))].getD j none), xJ cy ((L 24)) 40 ((b_shelves.2.2 0)), xJ cy ((L 25)) 40 ((b_shelves.2.2 1)), xJ cy ((L 26)) 40 ((b_shelves.2.2 2)), xJ cy ((L 27)) 40 ((b_shelves.2.2 3)), xJ cy ((L 28)) 40 ((b_shelves.2.2 4)), xJ cy ((L 29)) 40 ((b_shelves.2.2 5)), xJ cy ((L 30)) 40 ((b_shelves.2.2 6)), xJ cy ((L 31)) 40 ((b_shelves.2.2 7)), xI cy ((L 46)) 48 b_plan, xI cy ((L 48)) 5 b_refusals] → lv_has ls 6 [(0, .ref ((L 0))), (2, .int v2), (4, .int v4), (5, .int v5)] → W p l e zr_X7_done s m args below meth c H locs 0 0 Q (F0 m 24 ls []) := by
    intro n
    induction n with
    | zero =>
      intro v2 v4 v5 b_now b_staff b_plan b_refusals H locs ls hf hw hl
      rw [zf_X7_done_24] at hf
      cases hf
    | succ n ih =>
      intro v2 v4 v5 b_now b_staff b_plan b_refusals H locs ls hf hw hl
      rw [zf_X7_done_24] at hf
      refine lv_iload (pc := 24) hx hb dX7_done_24 (lv_at hl 3 rfl) ?_
      refine lv_iload_n (pc := 26) hx hb dX7_done_26 rfl (lv_at hl 1 rfl) ?_
      refine lv_icmp_ge (pc := 27) (tgt := 62) hx hb dX7_done_27 (by decide) (fun q4 => ?_) (fun q4 => ?_)
      · replace hf := if_t q4 hf
        refine lv_iload (pc := 62) hx hb dX7_done_62 (lv_at hl 2 rfl) ?_
        have hf := Option.some.inj hf
        subst hf
        exact zk_reti (pc := 64) (ww := [xU L b_seedNow b_keptSeed b_isKept, xTe ((L 1)) b_now, xSt ((L 5)) ((L 6)) ((L 7)) ((L 8)) ((L 9)) b_staff.1, xI cy ((L 6)) 8 b_staff.2.1, xI cy ((L 7)) 8 b_staff.2.2.1, xI cy ((L 8)) 8 b_staff.2.2.2.1, xI cy ((L 9)) 8 b_staff.2.2.2.2, xSh ((L 20)) ((L 21)) ((L 22)) ((L 23)), xI cy ((L 21)) 8 b_shelves.1, xI cy ((L 22)) 8 b_shelves.2.1, xRJ cy ((L 23)) 8 (fun j => [some ((L 24)), some ((L 25)), some ((L 26)), some ((L 27)), some ((L 28)), some ((L 29)), some ((L 30)), some ((L 31))].getD j none), xJ cy ((L 24)) 40 ((b_shelves.2.2 0)), xJ cy ((L 25)) 40 ((b_shelves.2.2 1)), xJ cy ((L 26)) 40 ((b_shelves.2.2 2)), xJ cy ((L 27)) 40 ((b_shelves.2.2 3)), xJ cy ((L 28)) 40 ((b_shelves.2.2 4)), xJ cy ((L 29)) 40 ((b_shelves.2.2 5)), xJ cy ((L 30)) 40 ((b_shelves.2.2 6)), xJ cy ((L 31)) 40 ((b_shelves.2.2 7)), xI cy ((L 46)) 48 b_plan, xI cy ((L 48)) 5 b_refusals]) C hw hr hQ dX7_done_64
      · replace hf := if_f q4 hf
        refine lv_iload (pc := 30) hx hb dX7_done_30 (lv_at hl 3 rfl) ?_
        refine lv_aload_n (pc := 32) hx hb dX7_done_32 rfl (lv_at hl 0 rfl) ?_
        refine zk_gt (pc := 33) C hw zl_X7_73 0 rfl rfl dX7_done_33 ?_
        refine zk_alen (pc := 36) (v := 48) C hw 19 0 rfl rfl rfl dX7_done_36 ?_
        refine lv_icmp_ge (pc := 37) (tgt := 62) hx hb dX7_done_37 (by decide) (fun q5 => ?_) (fun q5 => ?_)
        · replace hf := if_t q5 hf
          refine lv_iload (pc := 62) hx hb dX7_done_62 (lv_at hl 2 rfl) ?_
          have hf := Option.some.inj hf
          subst hf
          exact zk_reti (pc := 64) (ww := [xU L b_seedNow b_keptSeed b_isKept, xTe ((L 1)) b_now, xSt ((L 5)) ((L 6)) ((L 7)) ((L 8)) ((L 9)) b_staff.1, xI cy ((L 6)) 8 b_staff.2.1, xI cy ((L 7)) 8 b_staff.2.2.1, xI cy ((L 8)) 8 b_staff.2.2.2.1, xI cy ((L 9)) 8 b_staff.2.2.2.2, xSh ((L 20)) ((L 21)) ((L 22)) ((L 23)), xI cy ((L 21)) 8 b_shelves.1, xI cy ((L 22)) 8 b_shelves.2.1, xRJ cy ((L 23)) 8 (fun j => [some ((L 24)), some ((L 25)), some ((L 26)), some ((L 27)), some ((L 28)), some ((L 29)), some ((L 30)), some ((L 31))].getD j none), xJ cy ((L 24)) 40 ((b_shelves.2.2 0)), xJ cy ((L 25)) 40 ((b_shelves.2.2 1)), xJ cy ((L 26)) 40 ((b_shelves.2.2 2)), xJ cy ((L 27)) 40 ((b_shelves.2.2 3)), xJ cy ((L 28)) 40 ((b_shelves.2.2 4)), xJ cy ((L 29)) 40 ((b_shelves.2.2 5)), xJ cy ((L 30)) 40 ((b_shelves.2.2 6)), xJ cy ((L 31)) 40 ((b_shelves.2.2 7)), xI cy ((L 46)) 48 b_plan, xI cy ((L 48)) 5 b_refusals]) C hw hr hQ dX7_done_64
        · replace hf := if_f q5 hf
          refine lv_iload (pc := 40) hx hb dX7_done_40 (lv_at hl 2 rfl) ?_
          refine lv_aload_n (pc := 42) hx hb dX7_done_42 rfl (lv_at hl 0 rfl) ?_
          refine lv_aload_n (pc := 43) hx hb dX7_done_43 rfl (lv_at hl 0 rfl) ?_
          refine zk_gt (pc := 44) C hw zl_X7_73 0 rfl rfl dX7_done_44 ?_
          refine lv_iload (pc := 47) hx hb dX7_done_47 (lv_at hl 3 rfl) ?_
          obtain ⟨q6, hf⟩ := ck hf
          refine zk_iald (pc := 49) C hw 19 rfl q6 dX7_done_49 ?_
          obtain ⟨u7, u7e, hf⟩ := bd hf
          refine zk_cV (pc := 50) (ci := 7) (q0 := 0) (rest := [.int v4]) (st1 := [.int u7.1, .int v4]) (w' := [xU L b_seedNow b_keptSeed b_isKept, xTe ((L 1)) u7.2.1, xSt ((L 5)) ((L 6)) ((L 7)) ((L 8)) ((L 9)) u7.2.2.1, xI cy ((L 6)) 8 u7.2.2.2.1, xI cy ((L 7)) 8 u7.2.2.2.2.1, xI cy ((L 8)) 8 u7.2.2.2.2.2.1, xI cy ((L 9)) 8 u7.2.2.2.2.2.2, xSh ((L 20)) ((L 21)) ((L 22)) ((L 23)), xI cy ((L 21)) 8 b_shelves.1, xI cy ((L 22)) 8 b_shelves.2.1, xRJ cy ((L 23)) 8 (fun j => [some ((L 24)), some ((L 25)), some ((L 26)), some ((L 27)), some ((L 28)), some ((L 29)), some ((L 30)), some ((L 31))].getD j none), xJ cy ((L 24)) 40 ((b_shelves.2.2 0)), xJ cy ((L 25)) 40 ((b_shelves.2.2 1)), xJ cy ((L 26)) 40 ((b_shelves.2.2 2)), xJ cy ((L 27)) 40 ((b_shelves.2.2 3)), xJ cy ((L 28)) 40 ((b_shelves.2.2 4)), xJ cy ((L 29)) 40 ((b_shelves.2.2 5)), xJ cy ((L 30)) 40 ((b_shelves.2.2 6)), xJ cy ((L 31)) 40 ((b_shelves.2.2 7)), xI cy ((L 46)) 48 b_plan, xI cy ((L 48)) 5 b_refusals]) (mk := [none, some (xTe ((L 1)) u7.2.1), some (xSt ((L 5)) ((L 6)) ((L 7)) ((L 8)) ((L 9)) u7.2.2.1), some (xI cy ((L 6)) 8 u7.2.2.2.1), some (xI cy ((L 7)) 8 u7.2.2.2.2.1), some (xI cy ((L 8)) 8 u7.2.2.2.2.2.1), some (xI cy ((L 9)) 8 u7.2.2.2.2.2.2), none, none, none, none, none, none, none, none, none, none, none, none, none, none]) C hw (c_X7_carryOut l G cy tt L b_seedNow b_keptSeed b_isKept (((b_plan v5.toNatClampNeg))) b_now b_staff _ u7e) zy_X7_carryOut zm_X7_357 rfl rfl rfl [0, 1, 2, 3, 4, 5, 6] rfl rfl rfl rfl rfl rfl rfl rfl hl.1 ⟨rfl, rfl⟩ ⟨Nat.le_of_ble_eq_true rfl, Nat.le_of_ble_eq_true rfl⟩ rfl (Nat.le_of_ble_eq_true rfl) ⟨Nat.zero_le _, Nat.zero_le _⟩ dX7_done_50 (fun H locs hw => ?_)
          refine lv_iadd (pc := 53) hx hb dX7_done_53 ?_
          refine lv_istore (pc := 54) (lv' := [(4, .int ((v4 + u7.1))), (0, .ref ((L 0))), (2, .int v2), (5, .int v5)]) hx hb dX7_done_54 hl (by decide) rfl (fun ls hl => ?_)
          refine lv_iinc (pc := 56) (v := (v5 + 1)) (lv' := [(5, .int ((v5 + 1))), (4, .int ((v4 + u7.1))), (0, .ref ((L 0))), (2, .int v2)]) hx hb dX7_done_56 hl (k := 3) rfl rfl (by decide) rfl (fun ls hl => ?_)
          refine lv_goto (pc := 59) (tgt := 24) hx hb dX7_done_59 (by decide) ?_
          exact ih v2 ((v4 + u7.1)) ((v5 + 1)) u7.2.1 u7.2.2 b_plan b_refusals _ _ _ hf hw (lv_sub hl [2, 3, 1, 0] rfl)
  rw [zf_X7_done] at hf
  refine lv_aload_n (pc := 0) hx hb dX7_done_0 rfl (lv_at hl 0 rfl) ?_
  refine lv_iload_n (pc := 1) hx hb dX7_done_1 rfl (lv_at hl 1 rfl) ?_
  refine lv_iload_n (pc := 2) hx hb dX7_done_2 rfl (lv_at hl 2 rfl) ?_
  refine lv_iconst (pc := 3) (v := 1) hx hb dX7_done_3 (by decide) ?_
  obtain ⟨u1, u1e, hf⟩ := bd hf
  refine zk_cV (pc := 4) (ci := 7) (q0 := 0) (rest := []) (st1 := [.int u1.1]) (w' := [xU L b_seedNow b_keptSeed b_isKept, xTe ((L 1)) b_now, xSt ((L 5)) ((L 6)) ((L 7)) ((L 8)) ((L 9)) b_staff.1, xI cy ((L 6)) 8 b_staff.2.1, xI cy ((L 7)) 8 b_staff.2.2.1, xI cy ((L 8)) 8 b_staff.2.2.2.1, xI cy ((L 9)) 8 b_staff.2.2.2.2, xSh ((L 20)) ((L 21)) ((L 22)) ((L 23)), xI cy ((L 21)) 8 b_shelves.1, xI cy ((L 22)) 8 b_shelves.2.1, xRJ cy ((L 23)) 8 (fun j => [some ((L 24)), some ((L 25)), some ((L 26)), some ((L 27)), some ((L 28)), some ((L 29)), some ((L 30)), some ((L 31))].getD j none), xJ cy ((L 24)) 40 ((b_shelves.2.2 0)), xJ cy ((L 25)) 40 ((b_shelves.2.2 1)), xJ cy ((L 26)) 40 ((b_shelves.2.2 2)), xJ cy ((L 27)) 40 ((b_shelves.2.2 3)), xJ cy ((L 28)) 40 ((b_shelves.2.2 4)), xJ cy ((L 29)) 40 ((b_shelves.2.2 5)), xJ cy ((L 30)) 40 ((b_shelves.2.2 6)), xJ cy ((L 31)) 40 ((b_shelves.2.2 7)), xI cy ((L 46)) 48 u1.2, xI cy ((L 48)) 5 b_refusals]) (mk := [none, none, none, none, none, none, none, none, none, none, none, none, none, none, none, none, none, none, none, some (xI cy ((L 46)) 48 u1.2), none]) C hw (c_X7_takeRoster l G cy tt L b_seedNow b_keptSeed b_isKept x1 x2 true b_staff b_shelves b_plan _ u1e) zy_X7_takeRoster zm_X7_242 rfl rfl rfl [0, 2, 3, 4, 5, 6, 7, 8, 9, 10, 11, 12, 13, 14, 15, 16, 17, 18, 19] rfl rfl rfl rfl rfl rfl rfl rfl hl.1 ⟨rfl, rfl⟩ ⟨Nat.le_of_ble_eq_true rfl, Nat.le_of_ble_eq_true rfl⟩ rfl (Nat.le_of_ble_eq_true rfl) ⟨Nat.zero_le _, Nat.zero_le _⟩ dX7_done_4 (fun H locs hw => ?_)
  refine lv_istore_n (pc := 7) (lv' := [(3, .int u1.1), (0, .ref ((L 0))), (1, .int x1), (2, .int x2)]) hx hb dX7_done_7 rfl hl (by decide) rfl (fun ls hl => ?_)
  refine lv_iload_n (pc := 8) hx hb dX7_done_8 rfl (lv_at hl 0 rfl) ?_
  refine lv_if_eq (pc := 9) (tgt := 18) hx hb dX7_done_9 (by decide) (fun q2 => ?_) (fun q2 => ?_)
  · replace hf := if_t q2 hf
    refine lv_iconst (pc := 18) (v := 0) hx hb dX7_done_18 (by decide) ?_
    refine lv_istore (pc := 19) (lv' := [(4, .int ((0 : Int32))), (3, .int u1.1), (0, .ref ((L 0))), (1, .int x1), (2, .int x2)]) hx hb dX7_done_19 hl (by decide) rfl (fun ls hl => ?_)
    refine lv_iconst (pc := 21) (v := 0) hx hb dX7_done_21 (by decide) ?_
    refine lv_istore (pc := 22) (lv' := [(5, .int ((0 : Int32))), (4, .int ((0 : Int32))), (3, .int u1.1), (0, .ref ((L 0))), (1, .int x1), (2, .int x2)]) hx hb dX7_done_22 hl (by decide) rfl (fun ls hl => ?_)
    exact J24 FU x2 ((0 : Int32)) ((0 : Int32)) b_now b_staff u1.2 b_refusals _ _ _ hf hw (lv_sub hl [3, 5, 1, 0] rfl)
  · replace hf := if_f q2 hf
    refine lv_aload_n (pc := 12) hx hb dX7_done_12 rfl (lv_at hl 1 rfl) ?_
    refine lv_iload_n (pc := 13) hx hb dX7_done_13 rfl (lv_at hl 0 rfl) ?_
    obtain ⟨u3, u3e, hf⟩ := bd hf
    refine zk_cV (pc := 14) (ci := 7) (q0 := 0) (rest := []) (st1 := [.int u3.1]) (w' := [xU L b_seedNow b_keptSeed b_isKept, xTe ((L 1)) b_now, xSt ((L 5)) ((L 6)) ((L 7)) ((L 8)) ((L 9)) b_staff.1, xI cy ((L 6)) 8 b_staff.2.1, xI cy ((L 7)) 8 b_staff.2.2.1, xI cy ((L 8)) 8 b_staff.2.2.2.1, xI cy ((L 9)) 8 b_staff.2.2.2.2, xSh ((L 20)) ((L 21)) ((L 22)) ((L 23)), xI cy ((L 21)) 8 b_shelves.1, xI cy ((L 22)) 8 b_shelves.2.1, xRJ cy ((L 23)) 8 (fun j => [some ((L 24)), some ((L 25)), some ((L 26)), some ((L 27)), some ((L 28)), some ((L 29)), some ((L 30)), some ((L 31))].getD j none), xJ cy ((L 24)) 40 ((b_shelves.2.2 0)), xJ cy ((L 25)) 40 ((b_shelves.2.2 1)), xJ cy ((L 26)) 40 ((b_shelves.2.2 2)), xJ cy ((L 27)) 40 ((b_shelves.2.2 3)), xJ cy ((L 28)) 40 ((b_shelves.2.2 4)), xJ cy ((L 29)) 40 ((b_shelves.2.2 5)), xJ cy ((L 30)) 40 ((b_shelves.2.2 6)), xJ cy ((L 31)) 40 ((b_shelves.2.2 7)), xI cy ((L 46)) 48 u1.2, xI cy ((L 48)) 5 u3.2]) (mk := [none, none, none, none, none, none, none, none, none, none, none, none, none, none, none, none, none, none, none, none, some (xI cy ((L 48)) 5 u3.2)]) C hw (c_X7_refused l G cy tt L b_seedNow b_keptSeed b_isKept u1.1 b_refusals _ u3e) zy_X7_refused zm_X7_103 rfl rfl rfl [0, 20] rfl rfl rfl rfl rfl rfl rfl rfl hl.1 ⟨rfl, rfl⟩ ⟨Nat.le_of_ble_eq_true rfl, Nat.le_of_ble_eq_true rfl⟩ rfl (Nat.le_of_ble_eq_true rfl) ⟨Nat.zero_le _, Nat.zero_le _⟩ dX7_done_14 (fun H locs hw => ?_)
    have hf := Option.some.inj hf
    subst hf
    exact zk_reti (pc := 17) (ww := [xU L b_seedNow b_keptSeed b_isKept, xTe ((L 1)) b_now, xSt ((L 5)) ((L 6)) ((L 7)) ((L 8)) ((L 9)) b_staff.1, xI cy ((L 6)) 8 b_staff.2.1, xI cy ((L 7)) 8 b_staff.2.2.1, xI cy ((L 8)) 8 b_staff.2.2.2.1, xI cy ((L 9)) 8 b_staff.2.2.2.2, xSh ((L 20)) ((L 21)) ((L 22)) ((L 23)), xI cy ((L 21)) 8 b_shelves.1, xI cy ((L 22)) 8 b_shelves.2.1, xRJ cy ((L 23)) 8 (fun j => [some ((L 24)), some ((L 25)), some ((L 26)), some ((L 27)), some ((L 28)), some ((L 29)), some ((L 30)), some ((L 31))].getD j none), xJ cy ((L 24)) 40 ((b_shelves.2.2 0)), xJ cy ((L 25)) 40 ((b_shelves.2.2 1)), xJ cy ((L 26)) 40 ((b_shelves.2.2 2)), xJ cy ((L 27)) 40 ((b_shelves.2.2 3)), xJ cy ((L 28)) 40 ((b_shelves.2.2 4)), xJ cy ((L 29)) 40 ((b_shelves.2.2 5)), xJ cy ((L 30)) 40 ((b_shelves.2.2 6)), xJ cy ((L 31)) 40 ((b_shelves.2.2 7)), xI cy ((L 46)) 48 u1.2, xI cy ((L 48)) 5 u3.2]) C hw hr hQ dX7_done_17
def zf_X7_drawnOrder_38 (b_staff : TSt) (t0 : Int32) (b_seedNow : Int32) : Option (Int32 × Int32) := (if b_staff.1 ≤ t0 then (if t0 = b_staff.1 then some ((-1 : Int32), b_seedNow) else some ((10 : Int32), b_seedNow)) else some (t0, b_seedNow))
def zf_X7_drawnOrder  (b_staff : TSt) (b_seedNow : Int32) : Option (Int32 × Int32) := (Option.bind (zf_X7_orderCount b_staff) (fun u1 => (if u1 ≤ 0 then zf_X7_drawnOrder_38 b_staff ((0 : Int32)) (((b_seedNow * (1103515245 : Int32)) + (12345 : Int32))) else (if u1 = 0 then none else zf_X7_drawnOrder_38 b_staff ((((((b_seedNow * (1103515245 : Int32)) + (12345 : Int32))).toUInt32 >>> (((16 : Int32)).toUInt32 &&& Int32.toUInt32 31)).toInt32 - ((((b_seedNow * (1103515245 : Int32)) + (12345 : Int32))).toUInt32 >>> (((16 : Int32)).toUInt32 &&& Int32.toUInt32 31)).toInt32 / u1 * u1)) (((b_seedNow * (1103515245 : Int32)) + (12345 : Int32)))))))
abbrev zr_X7_drawnOrder : Room := { frames := 1, cells := 0, slots := 0, locals := 20 }
set_option maxHeartbeats 4000000 in
set_option maxRecDepth 100000 in
theorem c_X7_drawnOrder (l : Launch) (G : va_G) (cy : Nat → ClassId) (tt : Nat → Nat) (L : Nat → Nat) (b_keptSeed : Int32) (b_isKept : Bool)  (b_staff : TSt) (b_seedNow : Int32) (res : Int32 × Int32) (hf : zf_X7_drawnOrder b_staff b_seedNow = some res) : zCT l yX7_drawnOrder cX7_drawnOrder 3 (some .int) zr_X7_drawnOrder G cy tt [.ref ((L 0))] [xU L b_seedNow b_keptSeed b_isKept, xSt ((L 5)) ((L 6)) ((L 7)) ((L 8)) ((L 9)) b_staff.1, xI cy ((L 6)) 8 b_staff.2.1, xI cy ((L 7)) 8 b_staff.2.2.1, xI cy ((L 8)) 8 b_staff.2.2.2.1, xI cy ((L 9)) 8 b_staff.2.2.2.2] (some (.int res.1)) [xU L res.2 b_keptSeed b_isKept, xSt ((L 5)) ((L 6)) ((L 7)) ((L 8)) ((L 9)) b_staff.1, xI cy ((L 6)) 8 b_staff.2.1, xI cy ((L 7)) 8 b_staff.2.2.1, xI cy ((L 8)) 8 b_staff.2.2.2.1, xI cy ((L 9)) 8 b_staff.2.2.2.2] := by
  refine zk_start zn_X7 (Nat.le_of_ble_eq_true rfl) ?_
  intro p e s m args below meth c A ls Q C hr hQ hw hl
  have C : zCx p m c s args meth cX7_drawnOrder 3 RX7 G cy tt A := C
  have hx := C.1.1
  have hb := C.1.2.1
  have hl : lv_has ls 3 [(0, .ref ((L 0)))] := hl
  have J38 : ∀ (t0 : Int32) (b_seedNow : Int32) (H : Heap) (locs : List Loc) (ls : Array Slot), zf_X7_drawnOrder_38 b_staff t0 b_seedNow = some res → zWd G A s.heap H locs [xU L b_seedNow b_keptSeed b_isKept, xSt ((L 5)) ((L 6)) ((L 7)) ((L 8)) ((L 9)) b_staff.1, xI cy ((L 6)) 8 b_staff.2.1, xI cy ((L 7)) 8 b_staff.2.2.1, xI cy ((L 8)) 8 b_staff.2.2.2.1, xI cy ((L 9)) 8 b_staff.2.2.2.2] → lv_has ls 3 [(0, .ref ((L 0)))] → W p l e zr_X7_drawnOrder s m args below meth c H locs 0 0 Q (F0 m 38 ls [.int t0]) := by
    intro t0 b_seedNow H locs ls hf hw hl
    rw [zf_X7_drawnOrder_38] at hf
    refine lv_istore_n (pc := 38) (lv' := [(2, .int t0), (0, .ref ((L 0)))]) hx hb dX7_drawnOrder_38 rfl hl (by decide) rfl (fun ls hl => ?_)
    refine lv_iload_n (pc := 39) hx hb dX7_drawnOrder_39 rfl (lv_at hl 0 rfl) ?_
    refine lv_aload_n (pc := 40) hx hb dX7_drawnOrder_40 rfl (lv_at hl 1 rfl) ?_
    refine zk_gt (pc := 41) C hw zl_X7_28 0 rfl rfl dX7_drawnOrder_41 ?_
    refine zk_gt (pc := 44) C hw zl_X7_303 1 rfl rfl dX7_drawnOrder_44 ?_
    refine lv_icmp_ge (pc := 47) (tgt := 52) hx hb dX7_drawnOrder_47 (by decide) (fun q4 => ?_) (fun q4 => ?_)
    · replace hf := if_t q4 hf
      refine lv_iload_n (pc := 52) hx hb dX7_drawnOrder_52 rfl (lv_at hl 0 rfl) ?_
      refine lv_aload_n (pc := 53) hx hb dX7_drawnOrder_53 rfl (lv_at hl 1 rfl) ?_
      refine zk_gt (pc := 54) C hw zl_X7_28 0 rfl rfl dX7_drawnOrder_54 ?_
      refine zk_gt (pc := 57) C hw zl_X7_303 1 rfl rfl dX7_drawnOrder_57 ?_
      refine lv_icmp_ne (pc := 60) (tgt := 67) hx hb dX7_drawnOrder_60 (by decide) (fun q5 => ?_) (fun q5 => ?_)
      · replace hf := if_f q5 hf
        refine lv_bipush (pc := 67) (v := 10) hx hb dX7_drawnOrder_67 (by decide) ?_
        have hf := Option.some.inj hf
        subst hf
        exact zk_reti (pc := 69) (ww := [xU L b_seedNow b_keptSeed b_isKept, xSt ((L 5)) ((L 6)) ((L 7)) ((L 8)) ((L 9)) b_staff.1, xI cy ((L 6)) 8 b_staff.2.1, xI cy ((L 7)) 8 b_staff.2.2.1, xI cy ((L 8)) 8 b_staff.2.2.2.1, xI cy ((L 9)) 8 b_staff.2.2.2.2]) C hw hr hQ dX7_drawnOrder_69
      · replace hf := if_t q5 hf
        refine lv_iconst (pc := 63) (v := -1) hx hb dX7_drawnOrder_63 (by decide) ?_
        refine lv_goto (pc := 64) (tgt := 69) hx hb dX7_drawnOrder_64 (by decide) ?_
        have hf := Option.some.inj hf
        subst hf
        exact zk_reti (pc := 69) (ww := [xU L b_seedNow b_keptSeed b_isKept, xSt ((L 5)) ((L 6)) ((L 7)) ((L 8)) ((L 9)) b_staff.1, xI cy ((L 6)) 8 b_staff.2.1, xI cy ((L 7)) 8 b_staff.2.2.1, xI cy ((L 8)) 8 b_staff.2.2.2.1, xI cy ((L 9)) 8 b_staff.2.2.2.2]) C hw hr hQ dX7_drawnOrder_69
    · replace hf := if_f q4 hf
      refine lv_iload_n (pc := 50) hx hb dX7_drawnOrder_50 rfl (lv_at hl 0 rfl) ?_
      have hf := Option.some.inj hf
      subst hf
      exact zk_reti (pc := 51) (ww := [xU L b_seedNow b_keptSeed b_isKept, xSt ((L 5)) ((L 6)) ((L 7)) ((L 8)) ((L 9)) b_staff.1, xI cy ((L 6)) 8 b_staff.2.1, xI cy ((L 7)) 8 b_staff.2.2.1, xI cy ((L 8)) 8 b_staff.2.2.2.1, xI cy ((L 9)) 8 b_staff.2.2.2.2]) C hw hr hQ dX7_drawnOrder_51
  rw [zf_X7_drawnOrder] at hf
  refine lv_aload_n (pc := 0) hx hb dX7_drawnOrder_0 rfl (lv_at hl 0 rfl) ?_
  obtain ⟨u1, u1e, hf⟩ := bd hf
  refine zk_cV (pc := 1) (ci := 7) (q0 := 0) (rest := []) (st1 := [.int u1]) (w' := [xU L b_seedNow b_keptSeed b_isKept, xSt ((L 5)) ((L 6)) ((L 7)) ((L 8)) ((L 9)) b_staff.1, xI cy ((L 6)) 8 b_staff.2.1, xI cy ((L 7)) 8 b_staff.2.2.1, xI cy ((L 8)) 8 b_staff.2.2.2.1, xI cy ((L 9)) 8 b_staff.2.2.2.2]) (mk := [none, none, none, none, none, none]) C hw (c_X7_orderCount l G cy tt L b_seedNow b_keptSeed b_isKept b_staff _ u1e) zy_X7_orderCount zm_X7_233 rfl rfl rfl [0, 1, 2, 3, 4, 5] rfl rfl rfl rfl rfl rfl rfl rfl hl.1 ⟨rfl, rfl⟩ ⟨Nat.le_of_ble_eq_true rfl, Nat.le_of_ble_eq_true rfl⟩ rfl (Nat.le_of_ble_eq_true rfl) ⟨Nat.zero_le _, Nat.zero_le _⟩ dX7_drawnOrder_1 (fun H locs hw => ?_)
  refine lv_istore_n (pc := 4) (lv' := [(1, .int u1), (0, .ref ((L 0)))]) hx hb dX7_drawnOrder_4 rfl hl (by decide) rfl (fun ls hl => ?_)
  refine lv_aload_n (pc := 5) hx hb dX7_drawnOrder_5 rfl (lv_at hl 1 rfl) ?_
  refine lv_aload_n (pc := 6) hx hb dX7_drawnOrder_6 rfl (lv_at hl 1 rfl) ?_
  refine zk_gt (pc := 7) C hw zl_X7_84 0 rfl rfl dX7_drawnOrder_7 ?_
  refine lv_ldcw (pc := 10) (v := 1103515245) hx hb C.1.2.2.2.1 (C.1.2.2.2.2 _ zc_X7_417) dX7_drawnOrder_10 ?_
  refine lv_imul (pc := 13) hx hb dX7_drawnOrder_13 ?_
  refine lv_sipush (pc := 14) (v := 12345) hx hb dX7_drawnOrder_14 (by decide) ?_
  refine lv_iadd (pc := 17) hx hb dX7_drawnOrder_17 ?_
  refine zk_put (pc := 18) (w' := [xU L (((b_seedNow * (1103515245 : Int32)) + (12345 : Int32))) b_keptSeed b_isKept, xSt ((L 5)) ((L 6)) ((L 7)) ((L 8)) ((L 9)) b_staff.1, xI cy ((L 6)) 8 b_staff.2.1, xI cy ((L 7)) 8 b_staff.2.2.1, xI cy ((L 8)) 8 b_staff.2.2.2.1, xI cy ((L 9)) 8 b_staff.2.2.2.2]) C hw zp_X7_84 0 rfl rfl rfl (Nat.le_of_ble_eq_true rfl) rfl dX7_drawnOrder_18 (fun H locs hw => ?_)
  refine lv_iload_n (pc := 21) hx hb dX7_drawnOrder_21 rfl (lv_at hl 0 rfl) ?_
  refine lv_if_le (pc := 22) (tgt := 37) hx hb dX7_drawnOrder_22 (by decide) (fun q2 => ?_) (fun q2 => ?_)
  · replace hf := if_t q2 hf
    refine lv_iconst (pc := 37) (v := 0) hx hb dX7_drawnOrder_37 (by decide) ?_
    exact J38 ((0 : Int32)) (((b_seedNow * (1103515245 : Int32)) + (12345 : Int32))) _ _ _ hf hw (lv_sub hl [1] rfl)
  · replace hf := if_f q2 hf
    refine lv_aload_n (pc := 25) hx hb dX7_drawnOrder_25 rfl (lv_at hl 1 rfl) ?_
    refine zk_gt (pc := 26) C hw zl_X7_84 0 rfl rfl dX7_drawnOrder_26 ?_
    refine lv_bipush (pc := 29) (v := 16) hx hb dX7_drawnOrder_29 (by decide) ?_
    refine lv_iushr (pc := 31) (v := ((((b_seedNow * (1103515245 : Int32)) + (12345 : Int32))).toUInt32 >>> (((16 : Int32)).toUInt32 &&& Int32.toUInt32 31)).toInt32) hx hb dX7_drawnOrder_31 rfl ?_
    refine lv_iload_n (pc := 32) hx hb dX7_drawnOrder_32 rfl (lv_at hl 0 rfl) ?_
    obtain ⟨q3, hf⟩ := ck0 hf
    refine lv_irem (pc := 33) hx hb dX7_drawnOrder_33 q3 ?_
    refine lv_goto (pc := 34) (tgt := 38) hx hb dX7_drawnOrder_34 (by decide) ?_
    exact J38 ((((((b_seedNow * (1103515245 : Int32)) + (12345 : Int32))).toUInt32 >>> (((16 : Int32)).toUInt32 &&& Int32.toUInt32 31)).toInt32 - ((((b_seedNow * (1103515245 : Int32)) + (12345 : Int32))).toUInt32 >>> (((16 : Int32)).toUInt32 &&& Int32.toUInt32 31)).toInt32 / u1 * u1)) (((b_seedNow * (1103515245 : Int32)) + (12345 : Int32))) _ _ _ hf hw (lv_sub hl [1] rfl)
def zf_X7_drawn_21 : Nat → Int32 → Int32 → Int32 → TTe → TSt → (Nat → Int32) → Int32 → Option (Int32 × TTe × TSt × (Nat → Int32) × Int32)
  | 0, _, _, _, _, _, _, _ => none
  | n + 1, v1, v2, v3, b_now, b_staff, b_refusals, b_seedNow => (if v1 ≤ v3 then some (v2, b_now, b_staff, b_refusals, b_seedNow) else (Option.bind (zf_X7_drawnOrder b_staff b_seedNow) (fun u5 => (Option.bind (zf_X7_carryOut u5.1 b_now b_staff) (fun u6 => zf_X7_drawn_21 n v1 ((v2 + u6.1)) ((v3 + 1)) u6.2.1 u6.2.2 b_refusals u5.2)))))
def zf_X7_drawn (x1 : Int32) (b_now : TTe) (b_staff : TSt) (b_refusals : Nat → Int32) (b_seedNow : Int32) : Option (Int32 × TTe × TSt × (Nat → Int32) × Int32) := (Option.bind (zf_X7_isWithin x1 (((1 : Int32))) (((60 : Int32)))) (fun u1 => (if u1 then zf_X7_drawn_21 FU x1 ((0 : Int32)) ((0 : Int32)) b_now b_staff b_refusals b_seedNow else (Option.bind (zf_X7_refused (((-2 : Int32))) b_refusals) (fun u3 => some (u3.1, b_now, b_staff, u3.2, b_seedNow))))))
abbrev zr_X7_drawn : Room := { frames := 4, cells := 0, slots := 0, locals := 89 }
set_option maxHeartbeats 4000000 in
set_option maxRecDepth 100000 in
theorem c_X7_drawn (l : Launch) (G : va_G) (cy : Nat → ClassId) (tt : Nat → Nat) (L : Nat → Nat) (b_keptSeed : Int32) (b_isKept : Bool) (x1 : Int32) (b_now : TTe) (b_staff : TSt) (b_refusals : Nat → Int32) (b_seedNow : Int32) (res : Int32 × TTe × TSt × (Nat → Int32) × Int32) (hf : zf_X7_drawn x1 b_now b_staff b_refusals b_seedNow = some res) : zCT l yX7_drawn cX7_drawn 4 (some .int) zr_X7_drawn G cy tt [.ref ((L 0)), .int x1] [xU L b_seedNow b_keptSeed b_isKept, xTe ((L 1)) b_now, xSt ((L 5)) ((L 6)) ((L 7)) ((L 8)) ((L 9)) b_staff.1, xI cy ((L 6)) 8 b_staff.2.1, xI cy ((L 7)) 8 b_staff.2.2.1, xI cy ((L 8)) 8 b_staff.2.2.2.1, xI cy ((L 9)) 8 b_staff.2.2.2.2, xI cy ((L 48)) 5 b_refusals] (some (.int res.1)) [xU L res.2.2.2.2 b_keptSeed b_isKept, xTe ((L 1)) res.2.1, xSt ((L 5)) ((L 6)) ((L 7)) ((L 8)) ((L 9)) res.2.2.1.1, xI cy ((L 6)) 8 res.2.2.1.2.1, xI cy ((L 7)) 8 res.2.2.1.2.2.1, xI cy ((L 8)) 8 res.2.2.1.2.2.2.1, xI cy ((L 9)) 8 res.2.2.1.2.2.2.2, xI cy ((L 48)) 5 res.2.2.2.1] := by
  refine zk_start zn_X7 (Nat.le_of_ble_eq_true rfl) ?_
  intro p e s m args below meth c A ls Q C hr hQ hw hl
  have C : zCx p m c s args meth cX7_drawn 4 RX7 G cy tt A := C
  have hx := C.1.1
  have hb := C.1.2.1
  have hl : lv_has ls 4 [(0, .ref ((L 0))), (1, .int x1)] := hl
  have J21 : ∀ (n : Nat), ∀ (v1 : Int32) (v2 : Int32) (v3 : Int32) (b_now : TTe) (b_staff : TSt) (b_refusals : Nat → Int32) (b_seedNow : Int32) (H : Heap) (locs : List Loc) (ls : Array Slot), zf_X7_drawn_21 n v1 v2 v3 b_now b_staff b_refusals b_seedNow = some res → zWd G A s.heap H locs [xU L b_seedNow b_keptSeed b_isKept, xTe ((L 1)) b_now, xSt ((L 5)) ((L 6)) ((L 7)) ((L 8)) ((L 9)) b_staff.1, xI cy ((L 6)) 8 b_staff.2.1, xI cy ((L 7)) 8 b_staff.2.2.1, xI cy ((L 8)) 8 b_staff.2.2.2.1, xI cy ((L 9)) 8 b_staff.2.2.2.2, xI cy ((L 48)) 5 b_refusals] → lv_has ls 4 [(0, .ref ((L 0))), (1, .int v1), (2, .int v2), (3, .int v3)] → W p l e zr_X7_drawn s m args below meth c H locs 0 0 Q (F0 m 21 ls []) := by
    intro n
    induction n with
    | zero =>
      intro v1 v2 v3 b_now b_staff b_refusals b_seedNow H locs ls hf hw hl
      rw [zf_X7_drawn_21] at hf
      cases hf
    | succ n ih =>
      intro v1 v2 v3 b_now b_staff b_refusals b_seedNow H locs ls hf hw hl
      rw [zf_X7_drawn_21] at hf
      refine lv_iload_n (pc := 21) hx hb dX7_drawn_21 rfl (lv_at hl 3 rfl) ?_
      refine lv_iload_n (pc := 22) hx hb dX7_drawn_22 rfl (lv_at hl 1 rfl) ?_
      refine lv_icmp_ge (pc := 23) (tgt := 43) hx hb dX7_drawn_23 (by decide) (fun q4 => ?_) (fun q4 => ?_)
      · replace hf := if_t q4 hf
        refine lv_iload_n (pc := 43) hx hb dX7_drawn_43 rfl (lv_at hl 2 rfl) ?_
        have hf := Option.some.inj hf
        subst hf
        exact zk_reti (pc := 44) (ww := [xU L b_seedNow b_keptSeed b_isKept, xTe ((L 1)) b_now, xSt ((L 5)) ((L 6)) ((L 7)) ((L 8)) ((L 9)) b_staff.1, xI cy ((L 6)) 8 b_staff.2.1, xI cy ((L 7)) 8 b_staff.2.2.1, xI cy ((L 8)) 8 b_staff.2.2.2.1, xI cy ((L 9)) 8 b_staff.2.2.2.2, xI cy ((L 48)) 5 b_refusals]) C hw hr hQ dX7_drawn_44
      · replace hf := if_f q4 hf
        refine lv_iload_n (pc := 26) hx hb dX7_drawn_26 rfl (lv_at hl 2 rfl) ?_
        refine lv_aload_n (pc := 27) hx hb dX7_drawn_27 rfl (lv_at hl 0 rfl) ?_
        refine lv_aload_n (pc := 28) hx hb dX7_drawn_28 rfl (lv_at hl 0 rfl) ?_
        obtain ⟨u5, u5e, hf⟩ := bd hf
        refine zk_cV (pc := 29) (ci := 7) (q0 := 0) (rest := [.ref ((L 0)), .int v2]) (st1 := [.int u5.1, .ref ((L 0)), .int v2]) (w' := [xU L u5.2 b_keptSeed b_isKept, xTe ((L 1)) b_now, xSt ((L 5)) ((L 6)) ((L 7)) ((L 8)) ((L 9)) b_staff.1, xI cy ((L 6)) 8 b_staff.2.1, xI cy ((L 7)) 8 b_staff.2.2.1, xI cy ((L 8)) 8 b_staff.2.2.2.1, xI cy ((L 9)) 8 b_staff.2.2.2.2, xI cy ((L 48)) 5 b_refusals]) (mk := [some (xU L u5.2 b_keptSeed b_isKept), none, none, none, none, none, none, none]) C hw (c_X7_drawnOrder l G cy tt L b_keptSeed b_isKept b_staff b_seedNow _ u5e) zy_X7_drawnOrder zm_X7_360 rfl rfl rfl [0, 2, 3, 4, 5, 6] rfl rfl rfl rfl rfl rfl rfl rfl hl.1 ⟨rfl, rfl⟩ ⟨Nat.le_of_ble_eq_true rfl, Nat.le_of_ble_eq_true rfl⟩ rfl (Nat.le_of_ble_eq_true rfl) ⟨Nat.zero_le _, Nat.zero_le _⟩ dX7_drawn_29 (fun H locs hw => ?_)
        obtain ⟨u6, u6e, hf⟩ := bd hf
        refine zk_cV (pc := 32) (ci := 7) (q0 := 0) (rest := [.int v2]) (st1 := [.int u6.1, .int v2]) (w' := [xU L u5.2 b_keptSeed b_isKept, xTe ((L 1)) u6.2.1, xSt ((L 5)) ((L 6)) ((L 7)) ((L 8)) ((L 9)) u6.2.2.1, xI cy ((L 6)) 8 u6.2.2.2.1, xI cy ((L 7)) 8 u6.2.2.2.2.1, xI cy ((L 8)) 8 u6.2.2.2.2.2.1, xI cy ((L 9)) 8 u6.2.2.2.2.2.2, xI cy ((L 48)) 5 b_refusals]) (mk := [none, some (xTe ((L 1)) u6.2.1), some (xSt ((L 5)) ((L 6)) ((L 7)) ((L 8)) ((L 9)) u6.2.2.1), some (xI cy ((L 6)) 8 u6.2.2.2.1), some (xI cy ((L 7)) 8 u6.2.2.2.2.1), some (xI cy ((L 8)) 8 u6.2.2.2.2.2.1), some (xI cy ((L 9)) 8 u6.2.2.2.2.2.2), none]) C hw (c_X7_carryOut l G cy tt L u5.2 b_keptSeed b_isKept u5.1 b_now b_staff _ u6e) zy_X7_carryOut zm_X7_357 rfl rfl rfl [0, 1, 2, 3, 4, 5, 6] rfl rfl rfl rfl rfl rfl rfl rfl hl.1 ⟨rfl, rfl⟩ ⟨Nat.le_of_ble_eq_true rfl, Nat.le_of_ble_eq_true rfl⟩ rfl (Nat.le_of_ble_eq_true rfl) ⟨Nat.zero_le _, Nat.zero_le _⟩ dX7_drawn_32 (fun H locs hw => ?_)
        refine lv_iadd (pc := 35) hx hb dX7_drawn_35 ?_
        refine lv_istore_n (pc := 36) (lv' := [(2, .int ((v2 + u6.1))), (0, .ref ((L 0))), (1, .int v1), (3, .int v3)]) hx hb dX7_drawn_36 rfl hl (by decide) rfl (fun ls hl => ?_)
        refine lv_iinc (pc := 37) (v := (v3 + 1)) (lv' := [(3, .int ((v3 + 1))), (2, .int ((v2 + u6.1))), (0, .ref ((L 0))), (1, .int v1)]) hx hb dX7_drawn_37 hl (k := 3) rfl rfl (by decide) rfl (fun ls hl => ?_)
        refine lv_goto (pc := 40) (tgt := 21) hx hb dX7_drawn_40 (by decide) ?_
        exact ih v1 ((v2 + u6.1)) ((v3 + 1)) u6.2.1 u6.2.2 b_refusals u5.2 _ _ _ hf hw (lv_sub hl [2, 3, 1, 0] rfl)
  rw [zf_X7_drawn] at hf
  refine lv_iload_n (pc := 0) hx hb dX7_drawn_0 rfl (lv_at hl 1 rfl) ?_
  refine lv_iconst (pc := 1) (v := 1) hx hb dX7_drawn_1 (by decide) ?_
  refine lv_bipush (pc := 2) (v := 60) hx hb dX7_drawn_2 (by decide) ?_
  obtain ⟨u1, u1e, hf⟩ := bd hf
  refine zk_cS (pc := 4) (rest := []) (st1 := [.int (bI u1)]) (w' := [xU L b_seedNow b_keptSeed b_isKept, xTe ((L 1)) b_now, xSt ((L 5)) ((L 6)) ((L 7)) ((L 8)) ((L 9)) b_staff.1, xI cy ((L 6)) 8 b_staff.2.1, xI cy ((L 7)) 8 b_staff.2.2.1, xI cy ((L 8)) 8 b_staff.2.2.2.1, xI cy ((L 9)) 8 b_staff.2.2.2.2, xI cy ((L 48)) 5 b_refusals]) (mk := [none, none, none, none, none, none, none, none]) C hw (c_X7_isWithin l G cy tt x1 (((1 : Int32))) (((60 : Int32))) _ u1e) zy_X7_isWithin zm_X7_99 [] rfl rfl rfl rfl rfl rfl rfl rfl hl.1 ⟨rfl, rfl⟩ ⟨Nat.le_of_ble_eq_true rfl, Nat.le_of_ble_eq_true rfl⟩ rfl (Nat.le_of_ble_eq_true rfl) ⟨Nat.zero_le _, Nat.zero_le _⟩ dX7_drawn_4 (fun H locs hw => ?_)
  refine zk_ifnz (pc := 7) (tgt := 17) hx hb dX7_drawn_7 (by decide) (fun q2 => ?_) (fun q2 => ?_)
  · replace hf := if_t q2 hf
    refine lv_iconst (pc := 17) (v := 0) hx hb dX7_drawn_17 (by decide) ?_
    refine lv_istore_n (pc := 18) (lv' := [(2, .int ((0 : Int32))), (0, .ref ((L 0))), (1, .int x1)]) hx hb dX7_drawn_18 rfl hl (by decide) rfl (fun ls hl => ?_)
    refine lv_iconst (pc := 19) (v := 0) hx hb dX7_drawn_19 (by decide) ?_
    refine lv_istore_n (pc := 20) (lv' := [(3, .int ((0 : Int32))), (2, .int ((0 : Int32))), (0, .ref ((L 0))), (1, .int x1)]) hx hb dX7_drawn_20 rfl hl (by decide) rfl (fun ls hl => ?_)
    exact J21 FU x1 ((0 : Int32)) ((0 : Int32)) b_now b_staff b_refusals b_seedNow _ _ _ hf hw (lv_sub hl [2, 3, 1, 0] rfl)
  · replace hf := if_f q2 hf
    refine lv_aload_n (pc := 10) hx hb dX7_drawn_10 rfl (lv_at hl 0 rfl) ?_
    refine lv_bipush (pc := 11) (v := -2) hx hb dX7_drawn_11 (by decide) ?_
    obtain ⟨u3, u3e, hf⟩ := bd hf
    refine zk_cV (pc := 13) (ci := 7) (q0 := 0) (rest := []) (st1 := [.int u3.1]) (w' := [xU L b_seedNow b_keptSeed b_isKept, xTe ((L 1)) b_now, xSt ((L 5)) ((L 6)) ((L 7)) ((L 8)) ((L 9)) b_staff.1, xI cy ((L 6)) 8 b_staff.2.1, xI cy ((L 7)) 8 b_staff.2.2.1, xI cy ((L 8)) 8 b_staff.2.2.2.1, xI cy ((L 9)) 8 b_staff.2.2.2.2, xI cy ((L 48)) 5 u3.2]) (mk := [none, none, none, none, none, none, none, some (xI cy ((L 48)) 5 u3.2)]) C hw (c_X7_refused l G cy tt L b_seedNow b_keptSeed b_isKept (((-2 : Int32))) b_refusals _ u3e) zy_X7_refused zm_X7_103 rfl rfl rfl [0, 7] rfl rfl rfl rfl rfl rfl rfl rfl hl.1 ⟨rfl, rfl⟩ ⟨Nat.le_of_ble_eq_true rfl, Nat.le_of_ble_eq_true rfl⟩ rfl (Nat.le_of_ble_eq_true rfl) ⟨Nat.zero_le _, Nat.zero_le _⟩ dX7_drawn_13 (fun H locs hw => ?_)
    have hf := Option.some.inj hf
    subst hf
    exact zk_reti (pc := 16) (ww := [xU L b_seedNow b_keptSeed b_isKept, xTe ((L 1)) b_now, xSt ((L 5)) ((L 6)) ((L 7)) ((L 8)) ((L 9)) b_staff.1, xI cy ((L 6)) 8 b_staff.2.1, xI cy ((L 7)) 8 b_staff.2.2.1, xI cy ((L 8)) 8 b_staff.2.2.2.1, xI cy ((L 9)) 8 b_staff.2.2.2.2, xI cy ((L 48)) 5 u3.2]) C hw hr hQ dX7_drawn_16
def zf_X7_seed (x1 : Int32) (b_seedNow : Int32) : Option (Int32 × Int32) := some (b_seedNow, x1)
abbrev zr_X7_seed : Room := { frames := 0, cells := 0, slots := 0, locals := 0 }
set_option maxHeartbeats 4000000 in
set_option maxRecDepth 100000 in
theorem c_X7_seed (l : Launch) (G : va_G) (cy : Nat → ClassId) (tt : Nat → Nat) (L : Nat → Nat) (b_keptSeed : Int32) (b_isKept : Bool) (x1 : Int32) (b_seedNow : Int32) (res : Int32 × Int32) (hf : zf_X7_seed x1 b_seedNow = some res) : zCT l yX7_seed cX7_seed 3 (some .int) zr_X7_seed G cy tt [.ref ((L 0)), .int x1] [xU L b_seedNow b_keptSeed b_isKept] (some (.int res.1)) [xU L res.2 b_keptSeed b_isKept] := by
  refine zk_start zn_X7 (Nat.le_of_ble_eq_true rfl) ?_
  intro p e s m args below meth c A ls Q C hr hQ hw hl
  have C : zCx p m c s args meth cX7_seed 3 RX7 G cy tt A := C
  have hx := C.1.1
  have hb := C.1.2.1
  have hl : lv_has ls 3 [(0, .ref ((L 0))), (1, .int x1)] := hl
  rw [zf_X7_seed] at hf
  refine lv_aload_n (pc := 0) hx hb dX7_seed_0 rfl (lv_at hl 0 rfl) ?_
  refine zk_gt (pc := 1) C hw zl_X7_84 0 rfl rfl dX7_seed_1 ?_
  refine lv_istore_n (pc := 4) (lv' := [(2, .int b_seedNow), (0, .ref ((L 0))), (1, .int x1)]) hx hb dX7_seed_4 rfl hl (by decide) rfl (fun ls hl => ?_)
  refine lv_aload_n (pc := 5) hx hb dX7_seed_5 rfl (lv_at hl 1 rfl) ?_
  refine lv_iload_n (pc := 6) hx hb dX7_seed_6 rfl (lv_at hl 2 rfl) ?_
  refine zk_put (pc := 7) (w' := [xU L x1 b_keptSeed b_isKept]) C hw zp_X7_84 0 rfl rfl rfl (Nat.le_of_ble_eq_true rfl) rfl dX7_seed_7 (fun H locs hw => ?_)
  refine lv_iload_n (pc := 10) hx hb dX7_seed_10 rfl (lv_at hl 0 rfl) ?_
  have hf := Option.some.inj hf
  subst hf
  exact zk_reti (pc := 11) (ww := [xU L x1 b_keptSeed b_isKept]) C hw hr hQ dX7_seed_11
def zf_X7_image  (b_now : TTe) (b_keptTemper : TTe) (b_staff : TSt) (b_keptStaff : TSt) (b_seedNow : Int32) (b_keptSeed : Int32) (b_isKept : Bool) : Option (Int32 × TTe × TSt × Int32 × Bool) := (Option.bind (zf_X5_become b_keptTemper b_now) (fun u1 => (Option.bind (zf_X2_become b_keptStaff b_staff) (fun u2 => some ((1 : Int32), u1, u2, b_seedNow, true)))))
abbrev zr_X7_image : Room := { frames := 1, cells := 0, slots := 0, locals := 22 }
set_option maxHeartbeats 4000000 in
set_option maxRecDepth 100000 in
theorem c_X7_image (l : Launch) (G : va_G) (cy : Nat → ClassId) (tt : Nat → Nat) (L : Nat → Nat)  (b_now : TTe) (b_keptTemper : TTe) (b_staff : TSt) (b_keptStaff : TSt) (b_seedNow : Int32) (b_keptSeed : Int32) (b_isKept : Bool) (res : Int32 × TTe × TSt × Int32 × Bool) (hf : zf_X7_image b_now b_keptTemper b_staff b_keptStaff b_seedNow b_keptSeed b_isKept = some res) : zCT l yX7_image cX7_image 1 (some .int) zr_X7_image G cy tt [.ref ((L 0))] [xU L b_seedNow b_keptSeed b_isKept, xTe ((L 1)) b_now, xTe ((L 4)) b_keptTemper, xSt ((L 5)) ((L 6)) ((L 7)) ((L 8)) ((L 9)) b_staff.1, xI cy ((L 6)) 8 b_staff.2.1, xI cy ((L 7)) 8 b_staff.2.2.1, xI cy ((L 8)) 8 b_staff.2.2.2.1, xI cy ((L 9)) 8 b_staff.2.2.2.2, xSt ((L 15)) ((L 16)) ((L 17)) ((L 18)) ((L 19)) b_keptStaff.1, xI cy ((L 16)) 8 b_keptStaff.2.1, xI cy ((L 17)) 8 b_keptStaff.2.2.1, xI cy ((L 18)) 8 b_keptStaff.2.2.2.1, xI cy ((L 19)) 8 b_keptStaff.2.2.2.2] (some (.int res.1)) [xU L b_seedNow res.2.2.2.1 res.2.2.2.2, xTe ((L 1)) b_now, xTe ((L 4)) res.2.1, xSt ((L 5)) ((L 6)) ((L 7)) ((L 8)) ((L 9)) b_staff.1, xI cy ((L 6)) 8 b_staff.2.1, xI cy ((L 7)) 8 b_staff.2.2.1, xI cy ((L 8)) 8 b_staff.2.2.2.1, xI cy ((L 9)) 8 b_staff.2.2.2.2, xSt ((L 15)) ((L 16)) ((L 17)) ((L 18)) ((L 19)) res.2.2.1.1, xI cy ((L 16)) 8 res.2.2.1.2.1, xI cy ((L 17)) 8 res.2.2.1.2.2.1, xI cy ((L 18)) 8 res.2.2.1.2.2.2.1, xI cy ((L 19)) 8 res.2.2.1.2.2.2.2] := by
  refine zk_start zn_X7 (Nat.le_of_ble_eq_true rfl) ?_
  intro p e s m args below meth c A ls Q C hr hQ hw hl
  have C : zCx p m c s args meth cX7_image 1 RX7 G cy tt A := C
  have hx := C.1.1
  have hb := C.1.2.1
  have hl : lv_has ls 1 [(0, .ref ((L 0)))] := hl
  rw [zf_X7_image] at hf
  refine lv_aload_n (pc := 0) hx hb dX7_image_0 rfl (lv_at hl 0 rfl) ?_
  refine zk_gt (pc := 1) C hw zl_X7_22 0 rfl rfl dX7_image_1 ?_
  refine lv_aload_n (pc := 4) hx hb dX7_image_4 rfl (lv_at hl 0 rfl) ?_
  refine zk_gt (pc := 5) C hw zl_X7_10 0 rfl rfl dX7_image_5 ?_
  obtain ⟨u1, u1e, hf⟩ := bd hf
  refine zk_cV (pc := 8) (ci := 5) (q0 := 2) (rest := []) (st1 := []) (w' := [xU L b_seedNow b_keptSeed b_isKept, xTe ((L 1)) b_now, xTe ((L 4)) u1, xSt ((L 5)) ((L 6)) ((L 7)) ((L 8)) ((L 9)) b_staff.1, xI cy ((L 6)) 8 b_staff.2.1, xI cy ((L 7)) 8 b_staff.2.2.1, xI cy ((L 8)) 8 b_staff.2.2.2.1, xI cy ((L 9)) 8 b_staff.2.2.2.2, xSt ((L 15)) ((L 16)) ((L 17)) ((L 18)) ((L 19)) b_keptStaff.1, xI cy ((L 16)) 8 b_keptStaff.2.1, xI cy ((L 17)) 8 b_keptStaff.2.2.1, xI cy ((L 18)) 8 b_keptStaff.2.2.2.1, xI cy ((L 19)) 8 b_keptStaff.2.2.2.2]) (mk := [none, none, some (xTe ((L 4)) u1), none, none, none, none, none, none, none, none, none, none]) C hw (c_X5_become l G cy tt ((L 4)) ((L 1)) b_keptTemper b_now _ u1e) zy_X5_become zm_X7_193 rfl rfl rfl [2, 1] rfl rfl rfl rfl rfl rfl rfl rfl hl.1 ⟨rfl, rfl⟩ ⟨Nat.le_of_ble_eq_true rfl, Nat.le_of_ble_eq_true rfl⟩ rfl (Nat.le_of_ble_eq_true rfl) ⟨Nat.zero_le _, Nat.zero_le _⟩ dX7_image_8 (fun H locs hw => ?_)
  refine lv_aload_n (pc := 11) hx hb dX7_image_11 rfl (lv_at hl 0 rfl) ?_
  refine zk_gt (pc := 12) C hw zl_X7_35 0 rfl rfl dX7_image_12 ?_
  refine lv_aload_n (pc := 15) hx hb dX7_image_15 rfl (lv_at hl 0 rfl) ?_
  refine zk_gt (pc := 16) C hw zl_X7_28 0 rfl rfl dX7_image_16 ?_
  obtain ⟨u2, u2e, hf⟩ := bd hf
  refine zk_cV (pc := 19) (ci := 2) (q0 := 8) (rest := []) (st1 := []) (w' := [xU L b_seedNow b_keptSeed b_isKept, xTe ((L 1)) b_now, xTe ((L 4)) u1, xSt ((L 5)) ((L 6)) ((L 7)) ((L 8)) ((L 9)) b_staff.1, xI cy ((L 6)) 8 b_staff.2.1, xI cy ((L 7)) 8 b_staff.2.2.1, xI cy ((L 8)) 8 b_staff.2.2.2.1, xI cy ((L 9)) 8 b_staff.2.2.2.2, xSt ((L 15)) ((L 16)) ((L 17)) ((L 18)) ((L 19)) u2.1, xI cy ((L 16)) 8 u2.2.1, xI cy ((L 17)) 8 u2.2.2.1, xI cy ((L 18)) 8 u2.2.2.2.1, xI cy ((L 19)) 8 u2.2.2.2.2]) (mk := [none, none, none, none, none, none, none, none, some (xSt ((L 15)) ((L 16)) ((L 17)) ((L 18)) ((L 19)) u2.1), some (xI cy ((L 16)) 8 u2.2.1), some (xI cy ((L 17)) 8 u2.2.2.1), some (xI cy ((L 18)) 8 u2.2.2.2.1), some (xI cy ((L 19)) 8 u2.2.2.2.2)]) C hw (c_X2_become l G cy tt ((L 15)) ((L 16)) ((L 17)) ((L 18)) ((L 19)) ((L 5)) ((L 6)) ((L 7)) ((L 8)) ((L 9)) b_keptStaff b_staff _ u2e) zy_X2_become zm_X7_197 rfl rfl rfl [8, 9, 10, 11, 12, 3, 4, 5, 6, 7] rfl rfl rfl rfl rfl rfl rfl rfl hl.1 ⟨rfl, rfl⟩ ⟨Nat.le_of_ble_eq_true rfl, Nat.le_of_ble_eq_true rfl⟩ rfl (Nat.le_of_ble_eq_true rfl) ⟨Nat.zero_le _, Nat.zero_le _⟩ dX7_image_19 (fun H locs hw => ?_)
  refine lv_aload_n (pc := 22) hx hb dX7_image_22 rfl (lv_at hl 0 rfl) ?_
  refine lv_aload_n (pc := 23) hx hb dX7_image_23 rfl (lv_at hl 0 rfl) ?_
  refine zk_gt (pc := 24) C hw zl_X7_84 0 rfl rfl dX7_image_24 ?_
  refine zk_put (pc := 27) (w' := [xU L b_seedNow b_seedNow b_isKept, xTe ((L 1)) b_now, xTe ((L 4)) u1, xSt ((L 5)) ((L 6)) ((L 7)) ((L 8)) ((L 9)) b_staff.1, xI cy ((L 6)) 8 b_staff.2.1, xI cy ((L 7)) 8 b_staff.2.2.1, xI cy ((L 8)) 8 b_staff.2.2.2.1, xI cy ((L 9)) 8 b_staff.2.2.2.2, xSt ((L 15)) ((L 16)) ((L 17)) ((L 18)) ((L 19)) u2.1, xI cy ((L 16)) 8 u2.2.1, xI cy ((L 17)) 8 u2.2.2.1, xI cy ((L 18)) 8 u2.2.2.2.1, xI cy ((L 19)) 8 u2.2.2.2.2]) C hw zp_X7_88 0 rfl rfl rfl (Nat.le_of_ble_eq_true rfl) rfl dX7_image_27 (fun H locs hw => ?_)
  refine lv_aload_n (pc := 30) hx hb dX7_image_30 rfl (lv_at hl 0 rfl) ?_
  refine lv_iconst (pc := 31) (v := 1) hx hb dX7_image_31 (by decide) ?_
  refine zk_put (pc := 32) (v := .int (bI true)) (w' := [xU L b_seedNow b_seedNow true, xTe ((L 1)) b_now, xTe ((L 4)) u1, xSt ((L 5)) ((L 6)) ((L 7)) ((L 8)) ((L 9)) b_staff.1, xI cy ((L 6)) 8 b_staff.2.1, xI cy ((L 7)) 8 b_staff.2.2.1, xI cy ((L 8)) 8 b_staff.2.2.2.1, xI cy ((L 9)) 8 b_staff.2.2.2.2, xSt ((L 15)) ((L 16)) ((L 17)) ((L 18)) ((L 19)) u2.1, xI cy ((L 16)) 8 u2.2.1, xI cy ((L 17)) 8 u2.2.2.1, xI cy ((L 18)) 8 u2.2.2.2.1, xI cy ((L 19)) 8 u2.2.2.2.2]) C hw zp_X7_91 0 rfl (bI_nar _) (bI_fit _) (Nat.le_of_ble_eq_true rfl) rfl dX7_image_32 (fun H locs hw => ?_)
  refine lv_iconst (pc := 35) (v := 1) hx hb dX7_image_35 (by decide) ?_
  have hf := Option.some.inj hf
  subst hf
  exact zk_reti (pc := 36) (ww := [xU L b_seedNow b_seedNow true, xTe ((L 1)) b_now, xTe ((L 4)) u1, xSt ((L 5)) ((L 6)) ((L 7)) ((L 8)) ((L 9)) b_staff.1, xI cy ((L 6)) 8 b_staff.2.1, xI cy ((L 7)) 8 b_staff.2.2.1, xI cy ((L 8)) 8 b_staff.2.2.2.1, xI cy ((L 9)) 8 b_staff.2.2.2.2, xSt ((L 15)) ((L 16)) ((L 17)) ((L 18)) ((L 19)) u2.1, xI cy ((L 16)) 8 u2.2.1, xI cy ((L 17)) 8 u2.2.2.1, xI cy ((L 18)) 8 u2.2.2.2.1, xI cy ((L 19)) 8 u2.2.2.2.2]) C hw hr hQ dX7_image_36
def zf_X1_dropKeepersFrom_28 (k2 : Int32 → Int32 → TSh → Option (TSh)) (v1 : Int32) (v2 : Int32) (b_this : TSh) : Option (TSh) := k2 v1 ((v2 + 1)) b_this
def zf_X1_dropKeepersFrom_2 : Nat → Int32 → Int32 → TSh → Option (TSh)
  | 0, _, _, _ => none
  | n + 1, v1, v2, b_this => (if (8 : Int32) ≤ v2 then some (b_this) else (if ix v2 8 then (if (b_this.1 v2.toNatClampNeg) < ((10 : Int32) + v1) then zf_X1_dropKeepersFrom_28 (zf_X1_dropKeepersFrom_2 n) v1 v2 b_this else (if ix v2 8 then zf_X1_dropKeepersFrom_28 (zf_X1_dropKeepersFrom_2 n) v1 v2 (((upd b_this.1 v2.toNatClampNeg ((-1 : Int32))), b_this.2.1, b_this.2.2)) else none)) else none))
def zf_X1_dropKeepersFrom (x1 : Int32) (b_this : TSh) : Option (TSh) := zf_X1_dropKeepersFrom_2 FU x1 ((0 : Int32)) b_this
abbrev zr_X1_dropKeepersFrom : Room := { frames := 0, cells := 0, slots := 0, locals := 0 }
set_option maxHeartbeats 4000000 in
set_option maxRecDepth 100000 in
theorem c_X1_dropKeepersFrom (l : Launch) (G : va_G) (cy : Nat → ClassId) (tt : Nat → Nat) (a0 a1 a2 a3 a4 a5 a6 a7 a8 a9 a10 a11 : Nat) (x1 : Int32) (b_this : TSh) (res : TSh) (hf : zf_X1_dropKeepersFrom x1 b_this = some res) : zCT l yX1_dropKeepersFrom cX1_dropKeepersFrom 3 none zr_X1_dropKeepersFrom G cy tt [.ref a0, .int x1] [xSh a0 a1 a2 a3, xI cy a1 8 b_this.1, xI cy a2 8 b_this.2.1, xRJ cy a3 8 (fun j => [some a4, some a5, some a6, some a7, some a8, some a9, some a10, some a11].getD j none), xJ cy a4 40 ((b_this.2.2 0)), xJ cy a5 40 ((b_this.2.2 1)), xJ cy a6 40 ((b_this.2.2 2)), xJ cy a7 40 ((b_this.2.2 3)), xJ cy a8 40 ((b_this.2.2 4)), xJ cy a9 40 ((b_this.2.2 5)), xJ cy a10 40 ((b_this.2.2 6)), xJ cy a11 40 ((b_this.2.2 7))] none [xSh a0 a1 a2 a3, xI cy a1 8 res.1, xI cy a2 8 res.2.1, xRJ cy a3 8 (fun j => [some a4, some a5, some a6, some a7, some a8, some a9, some a10, some a11].getD j none), xJ cy a4 40 ((res.2.2 0)), xJ cy a5 40 ((res.2.2 1)), xJ cy a6 40 ((res.2.2 2)), xJ cy a7 40 ((res.2.2 3)), xJ cy a8 40 ((res.2.2 4)), xJ cy a9 40 ((res.2.2 5)), xJ cy a10 40 ((res.2.2 6)), xJ cy a11 40 ((res.2.2 7))] := by
  refine zk_start zn_X1 (Nat.le_of_ble_eq_true rfl) ?_
  intro p e s m args below meth c A ls Q C hr hQ hw hl
  have C : zCx p m c s args meth cX1_dropKeepersFrom 3 RX1 G cy tt A := C
  have hx := C.1.1
  have hb := C.1.2.1
  have hl : lv_has ls 3 [(0, .ref a0), (1, .int x1)] := hl
  have J28 : ∀ (k2 : Int32 → Int32 → TSh → Option (TSh)) (K2 : ∀ (v1 : Int32) (v2 : Int32) (b_this : TSh) (H : Heap) (locs : List Loc) (ls : Array Slot), k2 v1 v2 b_this = some res → zWd G A s.heap H locs [xSh a0 a1 a2 a3, xI cy a1 8 b_this.1, xI cy a2 8 b_this.2.1, xRJ cy a3 8 (fun j => [some a4, some a5, some a6, some a7, some a8, some a9, some a10, some a11].getD j none), xJ cy a4 40 ((b_this.2.2 0)), xJ cy a5 40 ((b_this.2.2 1)), xJ cy a6 40 ((b_this.2.2 2)), xJ cy a7 40 ((b_this.2.2 3)), xJ cy a8 40 ((b_this.2.2 4)), xJ cy a9 40 ((b_this.2.2 5)), xJ cy a10 40 ((b_this.2.2 6)), xJ cy a11 40 ((b_this.2.2 7))] → lv_has ls 3 [(0, .ref a0), (1, .int v1), (2, .int v2)] → W p l e zr_X1_dropKeepersFrom s m args below meth c H locs 0 0 Q (F0 m 2 ls [])), ∀ (v1 : Int32) (v2 : Int32) (b_this : TSh) (H : Heap) (locs : List Loc) (ls : Array Slot), zf_X1_dropKeepersFrom_28 k2 v1 v2 b_this = some res → zWd G A s.heap H locs [xSh a0 a1 a2 a3, xI cy a1 8 b_this.1, xI cy a2 8 b_this.2.1, xRJ cy a3 8 (fun j => [some a4, some a5, some a6, some a7, some a8, some a9, some a10, some a11].getD j none), xJ cy a4 40 ((b_this.2.2 0)), xJ cy a5 40 ((b_this.2.2 1)), xJ cy a6 40 ((b_this.2.2 2)), xJ cy a7 40 ((b_this.2.2 3)), xJ cy a8 40 ((b_this.2.2 4)), xJ cy a9 40 ((b_this.2.2 5)), xJ cy a10 40 ((b_this.2.2 6)), xJ cy a11 40 ((b_this.2.2 7))] → lv_has ls 3 [(0, .ref a0), (1, .int v1), (2, .int v2)] → W p l e zr_X1_dropKeepersFrom s m args below meth c H locs 0 0 Q (F0 m 28 ls []) := by
    intro k2 K2 v1 v2 b_this H locs ls hf hw hl
    rw [zf_X1_dropKeepersFrom_28] at hf
    refine lv_iinc (pc := 28) (v := (v2 + 1)) (lv' := [(2, .int ((v2 + 1))), (0, .ref a0), (1, .int v1)]) hx hb dX1_dropKeepersFrom_28 hl (k := 2) rfl rfl (by decide) rfl (fun ls hl => ?_)
    refine lv_goto (pc := 31) (tgt := 2) hx hb dX1_dropKeepersFrom_31 (by decide) ?_
    exact K2 v1 ((v2 + 1)) b_this _ _ _ hf hw (lv_sub hl [1, 2, 0] rfl)
  have J2 : ∀ (n : Nat), ∀ (v1 : Int32) (v2 : Int32) (b_this : TSh) (H : Heap) (locs : List Loc) (ls : Array Slot), zf_X1_dropKeepersFrom_2 n v1 v2 b_this = some res → zWd G A s.heap H locs [xSh a0 a1 a2 a3, xI cy a1 8 b_this.1, xI cy a2 8 b_this.2.1, xRJ cy a3 8 (fun j => [some a4, some a5, some a6, some a7, some a8, some a9, some a10, some a11].getD j none), xJ cy a4 40 ((b_this.2.2 0)), xJ cy a5 40 ((b_this.2.2 1)), xJ cy a6 40 ((b_this.2.2 2)), xJ cy a7 40 ((b_this.2.2 3)), xJ cy a8 40 ((b_this.2.2 4)), xJ cy a9 40 ((b_this.2.2 5)), xJ cy a10 40 ((b_this.2.2 6)), xJ cy a11 40 ((b_this.2.2 7))] → lv_has ls 3 [(0, .ref a0), (1, .int v1), (2, .int v2)] → W p l e zr_X1_dropKeepersFrom s m args below meth c H locs 0 0 Q (F0 m 2 ls []) := by
    intro n
    induction n with
    | zero =>
      intro v1 v2 b_this H locs ls hf hw hl
      rw [zf_X1_dropKeepersFrom_2] at hf
      cases hf
    | succ n ih =>
      intro v1 v2 b_this H locs ls hf hw hl
      rw [zf_X1_dropKeepersFrom_2] at hf
      refine lv_iload_n (pc := 2) hx hb dX1_dropKeepersFrom_2 rfl (lv_at hl 2 rfl) ?_
      refine lv_bipush (pc := 3) (v := 8) hx hb dX1_dropKeepersFrom_3 (by decide) ?_
      refine lv_icmp_ge (pc := 5) (tgt := 34) hx hb dX1_dropKeepersFrom_5 (by decide) (fun q1 => ?_) (fun q1 => ?_)
      · replace hf := if_t q1 hf
        have hf := Option.some.inj hf
        subst hf
        exact zk_retv (pc := 34) (ww := [xSh a0 a1 a2 a3, xI cy a1 8 b_this.1, xI cy a2 8 b_this.2.1, xRJ cy a3 8 (fun j => [some a4, some a5, some a6, some a7, some a8, some a9, some a10, some a11].getD j none), xJ cy a4 40 ((b_this.2.2 0)), xJ cy a5 40 ((b_this.2.2 1)), xJ cy a6 40 ((b_this.2.2 2)), xJ cy a7 40 ((b_this.2.2 3)), xJ cy a8 40 ((b_this.2.2 4)), xJ cy a9 40 ((b_this.2.2 5)), xJ cy a10 40 ((b_this.2.2 6)), xJ cy a11 40 ((b_this.2.2 7))]) C hw hr hQ dX1_dropKeepersFrom_34
      · replace hf := if_f q1 hf
        refine lv_aload_n (pc := 8) hx hb dX1_dropKeepersFrom_8 rfl (lv_at hl 0 rfl) ?_
        refine zk_gt (pc := 9) C hw zl_X1_9 0 rfl rfl dX1_dropKeepersFrom_9 ?_
        refine lv_iload_n (pc := 12) hx hb dX1_dropKeepersFrom_12 rfl (lv_at hl 2 rfl) ?_
        obtain ⟨q2, hf⟩ := ck hf
        refine zk_iald (pc := 13) C hw 1 rfl q2 dX1_dropKeepersFrom_13 ?_
        refine lv_bipush (pc := 14) (v := 10) hx hb dX1_dropKeepersFrom_14 (by decide) ?_
        refine lv_iload_n (pc := 16) hx hb dX1_dropKeepersFrom_16 rfl (lv_at hl 1 rfl) ?_
        refine lv_iadd (pc := 17) hx hb dX1_dropKeepersFrom_17 ?_
        refine lv_icmp_lt (pc := 18) (tgt := 28) hx hb dX1_dropKeepersFrom_18 (by decide) (fun q3 => ?_) (fun q3 => ?_)
        · replace hf := if_t q3 hf
          exact J28 (zf_X1_dropKeepersFrom_2 n) ih v1 v2 b_this _ _ _ hf hw (lv_sub hl [0, 1, 2] rfl)
        · replace hf := if_f q3 hf
          refine lv_aload_n (pc := 21) hx hb dX1_dropKeepersFrom_21 rfl (lv_at hl 0 rfl) ?_
          refine zk_gt (pc := 22) C hw zl_X1_9 0 rfl rfl dX1_dropKeepersFrom_22 ?_
          refine lv_iload_n (pc := 25) hx hb dX1_dropKeepersFrom_25 rfl (lv_at hl 2 rfl) ?_
          refine lv_iconst (pc := 26) (v := -1) hx hb dX1_dropKeepersFrom_26 (by decide) ?_
          obtain ⟨q4, hf⟩ := ck hf
          refine zk_iast (pc := 27) (w' := [xSh a0 a1 a2 a3, xI cy a1 8 ((upd b_this.1 v2.toNatClampNeg ((-1 : Int32)))), xI cy a2 8 b_this.2.1, xRJ cy a3 8 (fun j => [some a4, some a5, some a6, some a7, some a8, some a9, some a10, some a11].getD j none), xJ cy a4 40 ((b_this.2.2 0)), xJ cy a5 40 ((b_this.2.2 1)), xJ cy a6 40 ((b_this.2.2 2)), xJ cy a7 40 ((b_this.2.2 3)), xJ cy a8 40 ((b_this.2.2 4)), xJ cy a9 40 ((b_this.2.2 5)), xJ cy a10 40 ((b_this.2.2 6)), xJ cy a11 40 ((b_this.2.2 7))]) C hw 1 rfl q4 rfl dX1_dropKeepersFrom_27 (fun H locs hw => ?_)
          exact J28 (zf_X1_dropKeepersFrom_2 n) ih v1 v2 (((upd b_this.1 v2.toNatClampNeg ((-1 : Int32))), b_this.2.1, b_this.2.2)) _ _ _ hf hw (lv_sub hl [0, 1, 2] rfl)
  rw [zf_X1_dropKeepersFrom] at hf
  refine lv_iconst (pc := 0) (v := 0) hx hb dX1_dropKeepersFrom_0 (by decide) ?_
  refine lv_istore_n (pc := 1) (lv' := [(2, .int ((0 : Int32))), (0, .ref a0), (1, .int x1)]) hx hb dX1_dropKeepersFrom_1 rfl hl (by decide) rfl (fun ls hl => ?_)
  exact J2 FU x1 ((0 : Int32)) b_this _ _ _ hf hw (lv_sub hl [1, 2, 0] rfl)
def zf_X7_back  (b_now : TTe) (b_keptTemper : TTe) (b_staff : TSt) (b_keptStaff : TSt) (b_shelves : TSh) (b_refusals : Nat → Int32) (b_seedNow : Int32) (b_keptSeed : Int32) (b_isKept : Bool) : Option (Int32 × TTe × TSt × TSh × (Nat → Int32) × Int32) := (if b_isKept then (Option.bind (zf_X5_become b_now b_keptTemper) (fun u2 => (Option.bind (zf_X2_become b_staff b_keptStaff) (fun u3 => (Option.bind (zf_X1_dropKeepersFrom u3.1 b_shelves) (fun u4 => some ((1 : Int32), u2, u3, u4, b_refusals, b_keptSeed))))))) else (Option.bind (zf_X7_refused (((-5 : Int32))) b_refusals) (fun u5 => some (u5.1, b_now, b_staff, b_shelves, u5.2, b_seedNow))))
abbrev zr_X7_back : Room := { frames := 1, cells := 0, slots := 0, locals := 22 }
set_option maxHeartbeats 4000000 in
set_option maxRecDepth 100000 in
theorem c_X7_back (l : Launch) (G : va_G) (cy : Nat → ClassId) (tt : Nat → Nat) (L : Nat → Nat)  (b_now : TTe) (b_keptTemper : TTe) (b_staff : TSt) (b_keptStaff : TSt) (b_shelves : TSh) (b_refusals : Nat → Int32) (b_seedNow : Int32) (b_keptSeed : Int32) (b_isKept : Bool) (res : Int32 × TTe × TSt × TSh × (Nat → Int32) × Int32) (hf : zf_X7_back b_now b_keptTemper b_staff b_keptStaff b_shelves b_refusals b_seedNow b_keptSeed b_isKept = some res) : zCT l yX7_back cX7_back 1 (some .int) zr_X7_back G cy tt [.ref ((L 0))] [xU L b_seedNow b_keptSeed b_isKept, xTe ((L 1)) b_now, xTe ((L 4)) b_keptTemper, xSt ((L 5)) ((L 6)) ((L 7)) ((L 8)) ((L 9)) b_staff.1, xI cy ((L 6)) 8 b_staff.2.1, xI cy ((L 7)) 8 b_staff.2.2.1, xI cy ((L 8)) 8 b_staff.2.2.2.1, xI cy ((L 9)) 8 b_staff.2.2.2.2, xSt ((L 15)) ((L 16)) ((L 17)) ((L 18)) ((L 19)) b_keptStaff.1, xI cy ((L 16)) 8 b_keptStaff.2.1, xI cy ((L 17)) 8 b_keptStaff.2.2.1, xI cy ((L 18)) 8 b_keptStaff.2.2.2.1, xI cy ((L 19)) 8 b_keptStaff.2.2.2.2, xSh ((L 20)) ((L 21)) ((L 22)) ((L 23)), xI cy ((L 21)) 8 b_shelves.1, xI cy ((L 22)) 8 b_shelves.2.1, xRJ cy ((L 23)) 8 (fun j => [some ((L 24)), some ((L 25)), some ((L 26)), some ((L 27)), some ((L 28)), some ((L 29)), some ((L 30)), some ((L 31))].getD j none), xJ cy ((L 24)) 40 ((b_shelves.2.2 0)), xJ cy ((L 25)) 40 ((b_shelves.2.2 1)), xJ cy ((L 26)) 40 ((b_shelves.2.2 2)), xJ cy ((L 27)) 40 ((b_shelves.2.2 3)), xJ cy ((L 28)) 40 ((b_shelves.2.2 4)), xJ cy ((L 29)) 40 ((b_shelves.2.2 5)), xJ cy ((L 30)) 40 ((b_shelves.2.2 6)), xJ cy ((L 31)) 40 ((b_shelves.2.2 7)), xI cy ((L 48)) 5 b_refusals] (some (.int res.1)) [xU L res.2.2.2.2.2 b_keptSeed b_isKept, xTe ((L 1)) res.2.1, xTe ((L 4)) b_keptTemper, xSt ((L 5)) ((L 6)) ((L 7)) ((L 8)) ((L 9)) res.2.2.1.1, xI cy ((L 6)) 8 res.2.2.1.2.1, xI cy ((L 7)) 8 res.2.2.1.2.2.1, xI cy ((L 8)) 8 res.2.2.1.2.2.2.1, xI cy ((L 9)) 8 res.2.2.1.2.2.2.2, xSt ((L 15)) ((L 16)) ((L 17)) ((L 18)) ((L 19)) b_keptStaff.1, xI cy ((L 16)) 8 b_keptStaff.2.1, xI cy ((L 17)) 8 b_keptStaff.2.2.1, xI cy ((L 18)) 8 b_keptStaff.2.2.2.1, xI cy ((L 19)) 8 b_keptStaff.2.2.2.2, xSh ((L 20)) ((L 21)) ((L 22)) ((L 23)), xI cy ((L 21)) 8 res.2.2.2.1.1, xI cy ((L 22)) 8 res.2.2.2.1.2.1, xRJ cy ((L 23)) 8 (fun j => [some ((L 24)), some ((L 25)), some ((L 26)), some ((L 27)), some ((L 28)), some ((L 29)), some ((L 30)), some ((L 31))].getD j none), xJ cy ((L 24)) 40 ((res.2.2.2.1.2.2 0)), xJ cy ((L 25)) 40 ((res.2.2.2.1.2.2 1)), xJ cy ((L 26)) 40 ((res.2.2.2.1.2.2 2)), xJ cy ((L 27)) 40 ((res.2.2.2.1.2.2 3)), xJ cy ((L 28)) 40 ((res.2.2.2.1.2.2 4)), xJ cy ((L 29)) 40 ((res.2.2.2.1.2.2 5)), xJ cy ((L 30)) 40 ((res.2.2.2.1.2.2 6)), xJ cy ((L 31)) 40 ((res.2.2.2.1.2.2 7)), xI cy ((L 48)) 5 res.2.2.2.2.1] := by
  refine zk_start zn_X7 (Nat.le_of_ble_eq_true rfl) ?_
  intro p e s m args below meth c A ls Q C hr hQ hw hl
  have C : zCx p m c s args meth cX7_back 1 RX7 G cy tt A := C
  have hx := C.1.1
  have hb := C.1.2.1
  have hl : lv_has ls 1 [(0, .ref ((L 0)))] := hl
  rw [zf_X7_back] at hf
  refine lv_aload_n (pc := 0) hx hb dX7_back_0 rfl (lv_at hl 0 rfl) ?_
  refine zk_gt (pc := 1) C hw zl_X7_91 0 rfl rfl dX7_back_1 ?_
  refine zk_ifnz (pc := 4) (tgt := 14) hx hb dX7_back_4 (by decide) (fun q1 => ?_) (fun q1 => ?_)
  · replace hf := if_t q1 hf
    refine lv_aload_n (pc := 14) hx hb dX7_back_14 rfl (lv_at hl 0 rfl) ?_
    refine zk_gt (pc := 15) C hw zl_X7_10 0 rfl rfl dX7_back_15 ?_
    refine lv_aload_n (pc := 18) hx hb dX7_back_18 rfl (lv_at hl 0 rfl) ?_
    refine zk_gt (pc := 19) C hw zl_X7_22 0 rfl rfl dX7_back_19 ?_
    obtain ⟨u2, u2e, hf⟩ := bd hf
    refine zk_cV (pc := 22) (ci := 5) (q0 := 1) (rest := []) (st1 := []) (w' := [xU L b_seedNow b_keptSeed b_isKept, xTe ((L 1)) u2, xTe ((L 4)) b_keptTemper, xSt ((L 5)) ((L 6)) ((L 7)) ((L 8)) ((L 9)) b_staff.1, xI cy ((L 6)) 8 b_staff.2.1, xI cy ((L 7)) 8 b_staff.2.2.1, xI cy ((L 8)) 8 b_staff.2.2.2.1, xI cy ((L 9)) 8 b_staff.2.2.2.2, xSt ((L 15)) ((L 16)) ((L 17)) ((L 18)) ((L 19)) b_keptStaff.1, xI cy ((L 16)) 8 b_keptStaff.2.1, xI cy ((L 17)) 8 b_keptStaff.2.2.1, xI cy ((L 18)) 8 b_keptStaff.2.2.2.1, xI cy ((L 19)) 8 b_keptStaff.2.2.2.2, xSh ((L 20)) ((L 21)) ((L 22)) ((L 23)), xI cy ((L 21)) 8 b_shelves.1, xI cy ((L 22)) 8 b_shelves.2.1, xRJ cy ((L 23)) 8 (fun j => [some ((L 24)), some ((L 25)), some ((L 26)), some ((L 27)), some ((L 28)), some ((L 29)), some ((L 30)), some ((L 31))].getD j none), xJ cy ((L 24)) 40 ((b_shelves.2.2 0)), xJ cy ((L 25)) 40 ((b_shelves.2.2 1)), xJ cy ((L 26)) 40 ((b_shelves.2.2 2)), xJ cy ((L 27)) 40 ((b_shelves.2.2 3)), xJ cy ((L 28)) 40 ((b_shelves.2.2 4)), xJ cy ((L 29)) 40 ((b_shelves.2.2 5)), xJ cy ((L 30)) 40 ((b_shelves.2.2 6)), xJ cy ((L 31)) 40 ((b_shelves.2.2 7)), xI cy ((L 48)) 5 b_refusals]) (mk := [none, some (xTe ((L 1)) u2), none, none, none, none, none, none, none, none, none, none, none, none, none, none, none, none, none, none, none, none, none, none, none, none]) C hw (c_X5_become l G cy tt ((L 1)) ((L 4)) b_now b_keptTemper _ u2e) zy_X5_become zm_X7_193 rfl rfl rfl [1, 2] rfl rfl rfl rfl rfl rfl rfl rfl hl.1 ⟨rfl, rfl⟩ ⟨Nat.le_of_ble_eq_true rfl, Nat.le_of_ble_eq_true rfl⟩ rfl (Nat.le_of_ble_eq_true rfl) ⟨Nat.zero_le _, Nat.zero_le _⟩ dX7_back_22 (fun H locs hw => ?_)
    refine lv_aload_n (pc := 25) hx hb dX7_back_25 rfl (lv_at hl 0 rfl) ?_
    refine zk_gt (pc := 26) C hw zl_X7_28 0 rfl rfl dX7_back_26 ?_
    refine lv_aload_n (pc := 29) hx hb dX7_back_29 rfl (lv_at hl 0 rfl) ?_
    refine zk_gt (pc := 30) C hw zl_X7_35 0 rfl rfl dX7_back_30 ?_
    obtain ⟨u3, u3e, hf⟩ := bd hf
    refine zk_cV (pc := 33) (ci := 2) (q0 := 3) (rest := []) (st1 := []) (w' := [xU L b_seedNow b_keptSeed b_isKept, xTe ((L 1)) u2, xTe ((L 4)) b_keptTemper, xSt ((L 5)) ((L 6)) ((L 7)) ((L 8)) ((L 9)) u3.1, xI cy ((L 6)) 8 u3.2.1, xI cy ((L 7)) 8 u3.2.2.1, xI cy ((L 8)) 8 u3.2.2.2.1, xI cy ((L 9)) 8 u3.2.2.2.2, xSt ((L 15)) ((L 16)) ((L 17)) ((L 18)) ((L 19)) b_keptStaff.1, xI cy ((L 16)) 8 b_keptStaff.2.1, xI cy ((L 17)) 8 b_keptStaff.2.2.1, xI cy ((L 18)) 8 b_keptStaff.2.2.2.1, xI cy ((L 19)) 8 b_keptStaff.2.2.2.2, xSh ((L 20)) ((L 21)) ((L 22)) ((L 23)), xI cy ((L 21)) 8 b_shelves.1, xI cy ((L 22)) 8 b_shelves.2.1, xRJ cy ((L 23)) 8 (fun j => [some ((L 24)), some ((L 25)), some ((L 26)), some ((L 27)), some ((L 28)), some ((L 29)), some ((L 30)), some ((L 31))].getD j none), xJ cy ((L 24)) 40 ((b_shelves.2.2 0)), xJ cy ((L 25)) 40 ((b_shelves.2.2 1)), xJ cy ((L 26)) 40 ((b_shelves.2.2 2)), xJ cy ((L 27)) 40 ((b_shelves.2.2 3)), xJ cy ((L 28)) 40 ((b_shelves.2.2 4)), xJ cy ((L 29)) 40 ((b_shelves.2.2 5)), xJ cy ((L 30)) 40 ((b_shelves.2.2 6)), xJ cy ((L 31)) 40 ((b_shelves.2.2 7)), xI cy ((L 48)) 5 b_refusals]) (mk := [none, none, none, some (xSt ((L 5)) ((L 6)) ((L 7)) ((L 8)) ((L 9)) u3.1), some (xI cy ((L 6)) 8 u3.2.1), some (xI cy ((L 7)) 8 u3.2.2.1), some (xI cy ((L 8)) 8 u3.2.2.2.1), some (xI cy ((L 9)) 8 u3.2.2.2.2), none, none, none, none, none, none, none, none, none, none, none, none, none, none, none, none, none, none]) C hw (c_X2_become l G cy tt ((L 5)) ((L 6)) ((L 7)) ((L 8)) ((L 9)) ((L 15)) ((L 16)) ((L 17)) ((L 18)) ((L 19)) b_staff b_keptStaff _ u3e) zy_X2_become zm_X7_197 rfl rfl rfl [3, 4, 5, 6, 7, 8, 9, 10, 11, 12] rfl rfl rfl rfl rfl rfl rfl rfl hl.1 ⟨rfl, rfl⟩ ⟨Nat.le_of_ble_eq_true rfl, Nat.le_of_ble_eq_true rfl⟩ rfl (Nat.le_of_ble_eq_true rfl) ⟨Nat.zero_le _, Nat.zero_le _⟩ dX7_back_33 (fun H locs hw => ?_)
    refine lv_aload_n (pc := 36) hx hb dX7_back_36 rfl (lv_at hl 0 rfl) ?_
    refine lv_aload_n (pc := 37) hx hb dX7_back_37 rfl (lv_at hl 0 rfl) ?_
    refine zk_gt (pc := 38) C hw zl_X7_88 0 rfl rfl dX7_back_38 ?_
    refine zk_put (pc := 41) (w' := [xU L b_keptSeed b_keptSeed b_isKept, xTe ((L 1)) u2, xTe ((L 4)) b_keptTemper, xSt ((L 5)) ((L 6)) ((L 7)) ((L 8)) ((L 9)) u3.1, xI cy ((L 6)) 8 u3.2.1, xI cy ((L 7)) 8 u3.2.2.1, xI cy ((L 8)) 8 u3.2.2.2.1, xI cy ((L 9)) 8 u3.2.2.2.2, xSt ((L 15)) ((L 16)) ((L 17)) ((L 18)) ((L 19)) b_keptStaff.1, xI cy ((L 16)) 8 b_keptStaff.2.1, xI cy ((L 17)) 8 b_keptStaff.2.2.1, xI cy ((L 18)) 8 b_keptStaff.2.2.2.1, xI cy ((L 19)) 8 b_keptStaff.2.2.2.2, xSh ((L 20)) ((L 21)) ((L 22)) ((L 23)), xI cy ((L 21)) 8 b_shelves.1, xI cy ((L 22)) 8 b_shelves.2.1, xRJ cy ((L 23)) 8 (fun j => [some ((L 24)), some ((L 25)), some ((L 26)), some ((L 27)), some ((L 28)), some ((L 29)), some ((L 30)), some ((L 31))].getD j none), xJ cy ((L 24)) 40 ((b_shelves.2.2 0)), xJ cy ((L 25)) 40 ((b_shelves.2.2 1)), xJ cy ((L 26)) 40 ((b_shelves.2.2 2)), xJ cy ((L 27)) 40 ((b_shelves.2.2 3)), xJ cy ((L 28)) 40 ((b_shelves.2.2 4)), xJ cy ((L 29)) 40 ((b_shelves.2.2 5)), xJ cy ((L 30)) 40 ((b_shelves.2.2 6)), xJ cy ((L 31)) 40 ((b_shelves.2.2 7)), xI cy ((L 48)) 5 b_refusals]) C hw zp_X7_84 0 rfl rfl rfl (Nat.le_of_ble_eq_true rfl) rfl dX7_back_41 (fun H locs hw => ?_)
    refine lv_aload_n (pc := 44) hx hb dX7_back_44 rfl (lv_at hl 0 rfl) ?_
    refine zk_gt (pc := 45) C hw zl_X7_41 0 rfl rfl dX7_back_45 ?_
    refine lv_aload_n (pc := 48) hx hb dX7_back_48 rfl (lv_at hl 0 rfl) ?_
    refine zk_gt (pc := 49) C hw zl_X7_28 0 rfl rfl dX7_back_49 ?_
    refine zk_gt (pc := 52) C hw zl_X7_303 3 rfl rfl dX7_back_52 ?_
    obtain ⟨u4, u4e, hf⟩ := bd hf
    refine zk_cV (pc := 55) (ci := 1) (q0 := 13) (rest := []) (st1 := []) (w' := [xU L b_keptSeed b_keptSeed b_isKept, xTe ((L 1)) u2, xTe ((L 4)) b_keptTemper, xSt ((L 5)) ((L 6)) ((L 7)) ((L 8)) ((L 9)) u3.1, xI cy ((L 6)) 8 u3.2.1, xI cy ((L 7)) 8 u3.2.2.1, xI cy ((L 8)) 8 u3.2.2.2.1, xI cy ((L 9)) 8 u3.2.2.2.2, xSt ((L 15)) ((L 16)) ((L 17)) ((L 18)) ((L 19)) b_keptStaff.1, xI cy ((L 16)) 8 b_keptStaff.2.1, xI cy ((L 17)) 8 b_keptStaff.2.2.1, xI cy ((L 18)) 8 b_keptStaff.2.2.2.1, xI cy ((L 19)) 8 b_keptStaff.2.2.2.2, xSh ((L 20)) ((L 21)) ((L 22)) ((L 23)), xI cy ((L 21)) 8 u4.1, xI cy ((L 22)) 8 u4.2.1, xRJ cy ((L 23)) 8 (fun j => [some ((L 24)), some ((L 25)), some ((L 26)), some ((L 27)), some ((L 28)), some ((L 29)), some ((L 30)), some ((L 31))].getD j none), xJ cy ((L 24)) 40 ((u4.2.2 0)), xJ cy ((L 25)) 40 ((u4.2.2 1)), xJ cy ((L 26)) 40 ((u4.2.2 2)), xJ cy ((L 27)) 40 ((u4.2.2 3)), xJ cy ((L 28)) 40 ((u4.2.2 4)), xJ cy ((L 29)) 40 ((u4.2.2 5)), xJ cy ((L 30)) 40 ((u4.2.2 6)), xJ cy ((L 31)) 40 ((u4.2.2 7)), xI cy ((L 48)) 5 b_refusals]) (mk := [none, none, none, none, none, none, none, none, none, none, none, none, none, none, some (xI cy ((L 21)) 8 u4.1), some (xI cy ((L 22)) 8 u4.2.1), none, some (xJ cy ((L 24)) 40 ((u4.2.2 0))), some (xJ cy ((L 25)) 40 ((u4.2.2 1))), some (xJ cy ((L 26)) 40 ((u4.2.2 2))), some (xJ cy ((L 27)) 40 ((u4.2.2 3))), some (xJ cy ((L 28)) 40 ((u4.2.2 4))), some (xJ cy ((L 29)) 40 ((u4.2.2 5))), some (xJ cy ((L 30)) 40 ((u4.2.2 6))), some (xJ cy ((L 31)) 40 ((u4.2.2 7))), none]) C hw (c_X1_dropKeepersFrom l G cy tt ((L 20)) ((L 21)) ((L 22)) ((L 23)) ((L 24)) ((L 25)) ((L 26)) ((L 27)) ((L 28)) ((L 29)) ((L 30)) ((L 31)) u3.1 b_shelves _ u4e) zy_X1_dropKeepersFrom zm_X7_363 rfl rfl rfl [13, 14, 15, 16, 17, 18, 19, 20, 21, 22, 23, 24] rfl rfl rfl rfl rfl rfl rfl rfl hl.1 ⟨rfl, rfl⟩ ⟨Nat.le_of_ble_eq_true rfl, Nat.le_of_ble_eq_true rfl⟩ rfl (Nat.le_of_ble_eq_true rfl) ⟨Nat.zero_le _, Nat.zero_le _⟩ dX7_back_55 (fun H locs hw => ?_)
    refine lv_iconst (pc := 58) (v := 1) hx hb dX7_back_58 (by decide) ?_
    have hf := Option.some.inj hf
    subst hf
    exact zk_reti (pc := 59) (ww := [xU L b_keptSeed b_keptSeed b_isKept, xTe ((L 1)) u2, xTe ((L 4)) b_keptTemper, xSt ((L 5)) ((L 6)) ((L 7)) ((L 8)) ((L 9)) u3.1, xI cy ((L 6)) 8 u3.2.1, xI cy ((L 7)) 8 u3.2.2.1, xI cy ((L 8)) 8 u3.2.2.2.1, xI cy ((L 9)) 8 u3.2.2.2.2, xSt ((L 15)) ((L 16)) ((L 17)) ((L 18)) ((L 19)) b_keptStaff.1, xI cy ((L 16)) 8 b_keptStaff.2.1, xI cy ((L 17)) 8 b_keptStaff.2.2.1, xI cy ((L 18)) 8 b_keptStaff.2.2.2.1, xI cy ((L 19)) 8 b_keptStaff.2.2.2.2, xSh ((L 20)) ((L 21)) ((L 22)) ((L 23)), xI cy ((L 21)) 8 u4.1, xI cy ((L 22)) 8 u4.2.1, xRJ cy ((L 23)) 8 (fun j => [some ((L 24)), some ((L 25)), some ((L 26)), some ((L 27)), some ((L 28)), some ((L 29)), some ((L 30)), some ((L 31))].getD j none), xJ cy ((L 24)) 40 ((u4.2.2 0)), xJ cy ((L 25)) 40 ((u4.2.2 1)), xJ cy ((L 26)) 40 ((u4.2.2 2)), xJ cy ((L 27)) 40 ((u4.2.2 3)), xJ cy ((L 28)) 40 ((u4.2.2 4)), xJ cy ((L 29)) 40 ((u4.2.2 5)), xJ cy ((L 30)) 40 ((u4.2.2 6)), xJ cy ((L 31)) 40 ((u4.2.2 7)), xI cy ((L 48)) 5 b_refusals]) C hw hr hQ dX7_back_59
  · replace hf := if_f q1 hf
    refine lv_aload_n (pc := 7) hx hb dX7_back_7 rfl (lv_at hl 0 rfl) ?_
    refine lv_bipush (pc := 8) (v := -5) hx hb dX7_back_8 (by decide) ?_
    obtain ⟨u5, u5e, hf⟩ := bd hf
    refine zk_cV (pc := 10) (ci := 7) (q0 := 0) (rest := []) (st1 := [.int u5.1]) (w' := [xU L b_seedNow b_keptSeed b_isKept, xTe ((L 1)) b_now, xTe ((L 4)) b_keptTemper, xSt ((L 5)) ((L 6)) ((L 7)) ((L 8)) ((L 9)) b_staff.1, xI cy ((L 6)) 8 b_staff.2.1, xI cy ((L 7)) 8 b_staff.2.2.1, xI cy ((L 8)) 8 b_staff.2.2.2.1, xI cy ((L 9)) 8 b_staff.2.2.2.2, xSt ((L 15)) ((L 16)) ((L 17)) ((L 18)) ((L 19)) b_keptStaff.1, xI cy ((L 16)) 8 b_keptStaff.2.1, xI cy ((L 17)) 8 b_keptStaff.2.2.1, xI cy ((L 18)) 8 b_keptStaff.2.2.2.1, xI cy ((L 19)) 8 b_keptStaff.2.2.2.2, xSh ((L 20)) ((L 21)) ((L 22)) ((L 23)), xI cy ((L 21)) 8 b_shelves.1, xI cy ((L 22)) 8 b_shelves.2.1, xRJ cy ((L 23)) 8 (fun j => [some ((L 24)), some ((L 25)), some ((L 26)), some ((L 27)), some ((L 28)), some ((L 29)), some ((L 30)), some ((L 31))].getD j none), xJ cy ((L 24)) 40 ((b_shelves.2.2 0)), xJ cy ((L 25)) 40 ((b_shelves.2.2 1)), xJ cy ((L 26)) 40 ((b_shelves.2.2 2)), xJ cy ((L 27)) 40 ((b_shelves.2.2 3)), xJ cy ((L 28)) 40 ((b_shelves.2.2 4)), xJ cy ((L 29)) 40 ((b_shelves.2.2 5)), xJ cy ((L 30)) 40 ((b_shelves.2.2 6)), xJ cy ((L 31)) 40 ((b_shelves.2.2 7)), xI cy ((L 48)) 5 u5.2]) (mk := [none, none, none, none, none, none, none, none, none, none, none, none, none, none, none, none, none, none, none, none, none, none, none, none, none, some (xI cy ((L 48)) 5 u5.2)]) C hw (c_X7_refused l G cy tt L b_seedNow b_keptSeed b_isKept (((-5 : Int32))) b_refusals _ u5e) zy_X7_refused zm_X7_103 rfl rfl rfl [0, 25] rfl rfl rfl rfl rfl rfl rfl rfl hl.1 ⟨rfl, rfl⟩ ⟨Nat.le_of_ble_eq_true rfl, Nat.le_of_ble_eq_true rfl⟩ rfl (Nat.le_of_ble_eq_true rfl) ⟨Nat.zero_le _, Nat.zero_le _⟩ dX7_back_10 (fun H locs hw => ?_)
    have hf := Option.some.inj hf
    subst hf
    exact zk_reti (pc := 13) (ww := [xU L b_seedNow b_keptSeed b_isKept, xTe ((L 1)) b_now, xTe ((L 4)) b_keptTemper, xSt ((L 5)) ((L 6)) ((L 7)) ((L 8)) ((L 9)) b_staff.1, xI cy ((L 6)) 8 b_staff.2.1, xI cy ((L 7)) 8 b_staff.2.2.1, xI cy ((L 8)) 8 b_staff.2.2.2.1, xI cy ((L 9)) 8 b_staff.2.2.2.2, xSt ((L 15)) ((L 16)) ((L 17)) ((L 18)) ((L 19)) b_keptStaff.1, xI cy ((L 16)) 8 b_keptStaff.2.1, xI cy ((L 17)) 8 b_keptStaff.2.2.1, xI cy ((L 18)) 8 b_keptStaff.2.2.2.1, xI cy ((L 19)) 8 b_keptStaff.2.2.2.2, xSh ((L 20)) ((L 21)) ((L 22)) ((L 23)), xI cy ((L 21)) 8 b_shelves.1, xI cy ((L 22)) 8 b_shelves.2.1, xRJ cy ((L 23)) 8 (fun j => [some ((L 24)), some ((L 25)), some ((L 26)), some ((L 27)), some ((L 28)), some ((L 29)), some ((L 30)), some ((L 31))].getD j none), xJ cy ((L 24)) 40 ((b_shelves.2.2 0)), xJ cy ((L 25)) 40 ((b_shelves.2.2 1)), xJ cy ((L 26)) 40 ((b_shelves.2.2 2)), xJ cy ((L 27)) 40 ((b_shelves.2.2 3)), xJ cy ((L 28)) 40 ((b_shelves.2.2 4)), xJ cy ((L 29)) 40 ((b_shelves.2.2 5)), xJ cy ((L 30)) 40 ((b_shelves.2.2 6)), xJ cy ((L 31)) 40 ((b_shelves.2.2 7)), xI cy ((L 48)) 5 u5.2]) C hw hr hQ dX7_back_13
def zf_X2_allFled_4 (b_this : TSt) : Nat → Int32 → Int32 → Option (Int32)
  | 0, _, _ => none
  | n + 1, v1, v2 => (if b_this.1 ≤ v2 then some (v1) else (Option.bind (zf_X2_fledOf v2 b_this) (fun u2 => zf_X2_allFled_4 b_this n ((v1 + u2)) ((v2 + 1)))))
def zf_X2_allFled  (b_this : TSt) : Option (Int32) := zf_X2_allFled_4 b_this FU ((0 : Int32)) ((0 : Int32))
abbrev zr_X2_allFled : Room := { frames := 2, cells := 0, slots := 0, locals := 42 }
set_option maxHeartbeats 4000000 in
set_option maxRecDepth 100000 in
theorem c_X2_allFled (l : Launch) (G : va_G) (cy : Nat → ClassId) (tt : Nat → Nat) (a0 a1 a2 a3 a4 : Nat)  (b_this : TSt) (res : Int32) (hf : zf_X2_allFled b_this = some res) : zCT l yX2_allFled cX2_allFled 3 (some .int) zr_X2_allFled G cy tt [.ref a0] [xSt a0 a1 a2 a3 a4 b_this.1, xI cy a1 8 b_this.2.1, xI cy a2 8 b_this.2.2.1, xI cy a3 8 b_this.2.2.2.1, xI cy a4 8 b_this.2.2.2.2] (some (.int res)) [xSt a0 a1 a2 a3 a4 b_this.1, xI cy a1 8 b_this.2.1, xI cy a2 8 b_this.2.2.1, xI cy a3 8 b_this.2.2.2.1, xI cy a4 8 b_this.2.2.2.2] := by
  refine zk_start zn_X2 (Nat.le_of_ble_eq_true rfl) ?_
  intro p e s m args below meth c A ls Q C hr hQ hw hl
  have C : zCx p m c s args meth cX2_allFled 3 RX2 G cy tt A := C
  have hx := C.1.1
  have hb := C.1.2.1
  have hl : lv_has ls 3 [(0, .ref a0)] := hl
  have J4 : ∀ (n : Nat), ∀ (v1 : Int32) (v2 : Int32) (H : Heap) (locs : List Loc) (ls : Array Slot), zf_X2_allFled_4 b_this n v1 v2 = some res → zWd G A s.heap H locs [xSt a0 a1 a2 a3 a4 b_this.1, xI cy a1 8 b_this.2.1, xI cy a2 8 b_this.2.2.1, xI cy a3 8 b_this.2.2.2.1, xI cy a4 8 b_this.2.2.2.2] → lv_has ls 3 [(0, .ref a0), (1, .int v1), (2, .int v2)] → W p l e zr_X2_allFled s m args below meth c H locs 0 0 Q (F0 m 4 ls []) := by
    intro n
    induction n with
    | zero =>
      intro v1 v2 H locs ls hf hw hl
      rw [zf_X2_allFled_4] at hf
      cases hf
    | succ n ih =>
      intro v1 v2 H locs ls hf hw hl
      rw [zf_X2_allFled_4] at hf
      refine lv_iload_n (pc := 4) hx hb dX2_allFled_4 rfl (lv_at hl 2 rfl) ?_
      refine lv_aload_n (pc := 5) hx hb dX2_allFled_5 rfl (lv_at hl 0 rfl) ?_
      refine zk_gt (pc := 6) C hw zl_X2_9 0 rfl rfl dX2_allFled_6 ?_
      refine lv_icmp_ge (pc := 9) (tgt := 26) hx hb dX2_allFled_9 (by decide) (fun q1 => ?_) (fun q1 => ?_)
      · replace hf := if_t q1 hf
        refine lv_iload_n (pc := 26) hx hb dX2_allFled_26 rfl (lv_at hl 1 rfl) ?_
        have hf := Option.some.inj hf
        subst hf
        exact zk_reti (pc := 27) (ww := [xSt a0 a1 a2 a3 a4 b_this.1, xI cy a1 8 b_this.2.1, xI cy a2 8 b_this.2.2.1, xI cy a3 8 b_this.2.2.2.1, xI cy a4 8 b_this.2.2.2.2]) C hw hr hQ dX2_allFled_27
      · replace hf := if_f q1 hf
        refine lv_iload_n (pc := 12) hx hb dX2_allFled_12 rfl (lv_at hl 1 rfl) ?_
        refine lv_aload_n (pc := 13) hx hb dX2_allFled_13 rfl (lv_at hl 0 rfl) ?_
        refine lv_iload_n (pc := 14) hx hb dX2_allFled_14 rfl (lv_at hl 2 rfl) ?_
        obtain ⟨u2, u2e, hf⟩ := bd hf
        refine zk_cV (pc := 15) (ci := 2) (q0 := 0) (rest := [.int v1]) (st1 := [.int u2, .int v1]) (w' := [xSt a0 a1 a2 a3 a4 b_this.1, xI cy a1 8 b_this.2.1, xI cy a2 8 b_this.2.2.1, xI cy a3 8 b_this.2.2.2.1, xI cy a4 8 b_this.2.2.2.2]) (mk := [none, none, none, none, none]) C hw (c_X2_fledOf l G cy tt a0 a1 a2 a3 a4 v2 b_this _ u2e) zy_X2_fledOf zm_X2_32 rfl rfl rfl [0, 1, 2, 3, 4] rfl rfl rfl rfl rfl rfl rfl rfl hl.1 ⟨rfl, rfl⟩ ⟨Nat.le_of_ble_eq_true rfl, Nat.le_of_ble_eq_true rfl⟩ rfl (Nat.le_of_ble_eq_true rfl) ⟨Nat.zero_le _, Nat.zero_le _⟩ dX2_allFled_15 (fun H locs hw => ?_)
        refine lv_iadd (pc := 18) hx hb dX2_allFled_18 ?_
        refine lv_istore_n (pc := 19) (lv' := [(1, .int ((v1 + u2))), (0, .ref a0), (2, .int v2)]) hx hb dX2_allFled_19 rfl hl (by decide) rfl (fun ls hl => ?_)
        refine lv_iinc (pc := 20) (v := (v2 + 1)) (lv' := [(2, .int ((v2 + 1))), (1, .int ((v1 + u2))), (0, .ref a0)]) hx hb dX2_allFled_20 hl (k := 2) rfl rfl (by decide) rfl (fun ls hl => ?_)
        refine lv_goto (pc := 23) (tgt := 4) hx hb dX2_allFled_23 (by decide) ?_
        exact ih ((v1 + u2)) ((v2 + 1)) _ _ _ hf hw (lv_sub hl [2, 1, 0] rfl)
  rw [zf_X2_allFled] at hf
  refine lv_iconst (pc := 0) (v := 0) hx hb dX2_allFled_0 (by decide) ?_
  refine lv_istore_n (pc := 1) (lv' := [(1, .int ((0 : Int32))), (0, .ref a0)]) hx hb dX2_allFled_1 rfl hl (by decide) rfl (fun ls hl => ?_)
  refine lv_iconst (pc := 2) (v := 0) hx hb dX2_allFled_2 (by decide) ?_
  refine lv_istore_n (pc := 3) (lv' := [(2, .int ((0 : Int32))), (1, .int ((0 : Int32))), (0, .ref a0)]) hx hb dX2_allFled_3 rfl hl (by decide) rfl (fun ls hl => ?_)
  exact J4 FU ((0 : Int32)) ((0 : Int32)) _ _ _ hf hw (lv_sub hl [2, 1, 0] rfl)
def zf_X1_countHeld_23 (b_this : TSh) (k4 : Int32 → Int32 → Option (Int32)) (v1 : Int32) (v2 : Int32) : Option (Int32) := k4 v1 ((v2 + 1))
def zf_X1_countHeld_4 (b_this : TSh) : Nat → Int32 → Int32 → Option (Int32)
  | 0, _, _ => none
  | n + 1, v1, v2 => (if (8 : Int32) ≤ v2 then some (v1) else (if ix v2 8 then (if (b_this.1 v2.toNatClampNeg) = (-1 : Int32) then zf_X1_countHeld_23 b_this (zf_X1_countHeld_4 b_this n) v1 v2 else zf_X1_countHeld_23 b_this (zf_X1_countHeld_4 b_this n) ((v1 + 1)) v2) else none))
def zf_X1_countHeld  (b_this : TSh) : Option (Int32) := zf_X1_countHeld_4 b_this FU ((0 : Int32)) ((0 : Int32))
abbrev zr_X1_countHeld : Room := { frames := 0, cells := 0, slots := 0, locals := 0 }
set_option maxHeartbeats 4000000 in
set_option maxRecDepth 100000 in
theorem c_X1_countHeld (l : Launch) (G : va_G) (cy : Nat → ClassId) (tt : Nat → Nat) (a0 a1 a2 a3 a4 a5 a6 a7 a8 a9 a10 a11 : Nat)  (b_this : TSh) (res : Int32) (hf : zf_X1_countHeld b_this = some res) : zCT l yX1_countHeld cX1_countHeld 3 (some .int) zr_X1_countHeld G cy tt [.ref a0] [xSh a0 a1 a2 a3, xI cy a1 8 b_this.1, xI cy a2 8 b_this.2.1, xRJ cy a3 8 (fun j => [some a4, some a5, some a6, some a7, some a8, some a9, some a10, some a11].getD j none), xJ cy a4 40 ((b_this.2.2 0)), xJ cy a5 40 ((b_this.2.2 1)), xJ cy a6 40 ((b_this.2.2 2)), xJ cy a7 40 ((b_this.2.2 3)), xJ cy a8 40 ((b_this.2.2 4)), xJ cy a9 40 ((b_this.2.2 5)), xJ cy a10 40 ((b_this.2.2 6)), xJ cy a11 40 ((b_this.2.2 7))] (some (.int res)) [xSh a0 a1 a2 a3, xI cy a1 8 b_this.1, xI cy a2 8 b_this.2.1, xRJ cy a3 8 (fun j => [some a4, some a5, some a6, some a7, some a8, some a9, some a10, some a11].getD j none), xJ cy a4 40 ((b_this.2.2 0)), xJ cy a5 40 ((b_this.2.2 1)), xJ cy a6 40 ((b_this.2.2 2)), xJ cy a7 40 ((b_this.2.2 3)), xJ cy a8 40 ((b_this.2.2 4)), xJ cy a9 40 ((b_this.2.2 5)), xJ cy a10 40 ((b_this.2.2 6)), xJ cy a11 40 ((b_this.2.2 7))] := by
  refine zk_start zn_X1 (Nat.le_of_ble_eq_true rfl) ?_
  intro p e s m args below meth c A ls Q C hr hQ hw hl
  have C : zCx p m c s args meth cX1_countHeld 3 RX1 G cy tt A := C
  have hx := C.1.1
  have hb := C.1.2.1
  have hl : lv_has ls 3 [(0, .ref a0)] := hl
  have J23 : ∀ (k4 : Int32 → Int32 → Option (Int32)) (K4 : ∀ (v1 : Int32) (v2 : Int32) (H : Heap) (locs : List Loc) (ls : Array Slot), k4 v1 v2 = some res → zWd G A s.heap H locs [xSh a0 a1 a2 a3, xI cy a1 8 b_this.1, xI cy a2 8 b_this.2.1, xRJ cy a3 8 (fun j => [some a4, some a5, some a6, some a7, some a8, some a9, some a10, some a11].getD j none), xJ cy a4 40 ((b_this.2.2 0)), xJ cy a5 40 ((b_this.2.2 1)), xJ cy a6 40 ((b_this.2.2 2)), xJ cy a7 40 ((b_this.2.2 3)), xJ cy a8 40 ((b_this.2.2 4)), xJ cy a9 40 ((b_this.2.2 5)), xJ cy a10 40 ((b_this.2.2 6)), xJ cy a11 40 ((b_this.2.2 7))] → lv_has ls 3 [(0, .ref a0), (1, .int v1), (2, .int v2)] → W p l e zr_X1_countHeld s m args below meth c H locs 0 0 Q (F0 m 4 ls [])), ∀ (v1 : Int32) (v2 : Int32) (H : Heap) (locs : List Loc) (ls : Array Slot), zf_X1_countHeld_23 b_this k4 v1 v2 = some res → zWd G A s.heap H locs [xSh a0 a1 a2 a3, xI cy a1 8 b_this.1, xI cy a2 8 b_this.2.1, xRJ cy a3 8 (fun j => [some a4, some a5, some a6, some a7, some a8, some a9, some a10, some a11].getD j none), xJ cy a4 40 ((b_this.2.2 0)), xJ cy a5 40 ((b_this.2.2 1)), xJ cy a6 40 ((b_this.2.2 2)), xJ cy a7 40 ((b_this.2.2 3)), xJ cy a8 40 ((b_this.2.2 4)), xJ cy a9 40 ((b_this.2.2 5)), xJ cy a10 40 ((b_this.2.2 6)), xJ cy a11 40 ((b_this.2.2 7))] → lv_has ls 3 [(0, .ref a0), (1, .int v1), (2, .int v2)] → W p l e zr_X1_countHeld s m args below meth c H locs 0 0 Q (F0 m 23 ls []) := by
    intro k4 K4 v1 v2 H locs ls hf hw hl
    rw [zf_X1_countHeld_23] at hf
    refine lv_iinc (pc := 23) (v := (v2 + 1)) (lv' := [(2, .int ((v2 + 1))), (0, .ref a0), (1, .int v1)]) hx hb dX1_countHeld_23 hl (k := 2) rfl rfl (by decide) rfl (fun ls hl => ?_)
    refine lv_goto (pc := 26) (tgt := 4) hx hb dX1_countHeld_26 (by decide) ?_
    exact K4 v1 ((v2 + 1)) _ _ _ hf hw (lv_sub hl [1, 2, 0] rfl)
  have J4 : ∀ (n : Nat), ∀ (v1 : Int32) (v2 : Int32) (H : Heap) (locs : List Loc) (ls : Array Slot), zf_X1_countHeld_4 b_this n v1 v2 = some res → zWd G A s.heap H locs [xSh a0 a1 a2 a3, xI cy a1 8 b_this.1, xI cy a2 8 b_this.2.1, xRJ cy a3 8 (fun j => [some a4, some a5, some a6, some a7, some a8, some a9, some a10, some a11].getD j none), xJ cy a4 40 ((b_this.2.2 0)), xJ cy a5 40 ((b_this.2.2 1)), xJ cy a6 40 ((b_this.2.2 2)), xJ cy a7 40 ((b_this.2.2 3)), xJ cy a8 40 ((b_this.2.2 4)), xJ cy a9 40 ((b_this.2.2 5)), xJ cy a10 40 ((b_this.2.2 6)), xJ cy a11 40 ((b_this.2.2 7))] → lv_has ls 3 [(0, .ref a0), (1, .int v1), (2, .int v2)] → W p l e zr_X1_countHeld s m args below meth c H locs 0 0 Q (F0 m 4 ls []) := by
    intro n
    induction n with
    | zero =>
      intro v1 v2 H locs ls hf hw hl
      rw [zf_X1_countHeld_4] at hf
      cases hf
    | succ n ih =>
      intro v1 v2 H locs ls hf hw hl
      rw [zf_X1_countHeld_4] at hf
      refine lv_iload_n (pc := 4) hx hb dX1_countHeld_4 rfl (lv_at hl 2 rfl) ?_
      refine lv_bipush (pc := 5) (v := 8) hx hb dX1_countHeld_5 (by decide) ?_
      refine lv_icmp_ge (pc := 7) (tgt := 29) hx hb dX1_countHeld_7 (by decide) (fun q1 => ?_) (fun q1 => ?_)
      · replace hf := if_t q1 hf
        refine lv_iload_n (pc := 29) hx hb dX1_countHeld_29 rfl (lv_at hl 1 rfl) ?_
        have hf := Option.some.inj hf
        subst hf
        exact zk_reti (pc := 30) (ww := [xSh a0 a1 a2 a3, xI cy a1 8 b_this.1, xI cy a2 8 b_this.2.1, xRJ cy a3 8 (fun j => [some a4, some a5, some a6, some a7, some a8, some a9, some a10, some a11].getD j none), xJ cy a4 40 ((b_this.2.2 0)), xJ cy a5 40 ((b_this.2.2 1)), xJ cy a6 40 ((b_this.2.2 2)), xJ cy a7 40 ((b_this.2.2 3)), xJ cy a8 40 ((b_this.2.2 4)), xJ cy a9 40 ((b_this.2.2 5)), xJ cy a10 40 ((b_this.2.2 6)), xJ cy a11 40 ((b_this.2.2 7))]) C hw hr hQ dX1_countHeld_30
      · replace hf := if_f q1 hf
        refine lv_aload_n (pc := 10) hx hb dX1_countHeld_10 rfl (lv_at hl 0 rfl) ?_
        refine zk_gt (pc := 11) C hw zl_X1_9 0 rfl rfl dX1_countHeld_11 ?_
        refine lv_iload_n (pc := 14) hx hb dX1_countHeld_14 rfl (lv_at hl 2 rfl) ?_
        obtain ⟨q2, hf⟩ := ck hf
        refine zk_iald (pc := 15) C hw 1 rfl q2 dX1_countHeld_15 ?_
        refine lv_iconst (pc := 16) (v := -1) hx hb dX1_countHeld_16 (by decide) ?_
        refine lv_icmp_eq (pc := 17) (tgt := 23) hx hb dX1_countHeld_17 (by decide) (fun q3 => ?_) (fun q3 => ?_)
        · replace hf := if_t q3 hf
          exact J23 (zf_X1_countHeld_4 b_this n) ih v1 v2 _ _ _ hf hw (lv_sub hl [0, 1, 2] rfl)
        · replace hf := if_f q3 hf
          refine lv_iinc (pc := 20) (v := (v1 + 1)) (lv' := [(1, .int ((v1 + 1))), (0, .ref a0), (2, .int v2)]) hx hb dX1_countHeld_20 hl (k := 1) rfl rfl (by decide) rfl (fun ls hl => ?_)
          exact J23 (zf_X1_countHeld_4 b_this n) ih ((v1 + 1)) v2 _ _ _ hf hw (lv_sub hl [1, 0, 2] rfl)
  rw [zf_X1_countHeld] at hf
  refine lv_iconst (pc := 0) (v := 0) hx hb dX1_countHeld_0 (by decide) ?_
  refine lv_istore_n (pc := 1) (lv' := [(1, .int ((0 : Int32))), (0, .ref a0)]) hx hb dX1_countHeld_1 rfl hl (by decide) rfl (fun ls hl => ?_)
  refine lv_iconst (pc := 2) (v := 0) hx hb dX1_countHeld_2 (by decide) ?_
  refine lv_istore_n (pc := 3) (lv' := [(2, .int ((0 : Int32))), (1, .int ((0 : Int32))), (0, .ref a0)]) hx hb dX1_countHeld_3 rfl hl (by decide) rfl (fun ls hl => ?_)
  exact J4 FU ((0 : Int32)) ((0 : Int32)) _ _ _ hf hw (lv_sub hl [2, 1, 0] rfl)
def zf_X7_refusalsTold (x1 : Int32) (b_refusals : Nat → Int32) : Option (Int32) := (if x1 < 0 then some ((-1 : Int32)) else (if (5 : Int32) ≤ x1 then some ((-1 : Int32)) else (if ix x1 5 then some ((b_refusals x1.toNatClampNeg)) else none)))
abbrev zr_X7_refusalsTold : Room := { frames := 0, cells := 0, slots := 0, locals := 0 }
set_option maxHeartbeats 4000000 in
set_option maxRecDepth 100000 in
theorem c_X7_refusalsTold (l : Launch) (G : va_G) (cy : Nat → ClassId) (tt : Nat → Nat) (L : Nat → Nat) (b_seedNow : Int32) (b_keptSeed : Int32) (b_isKept : Bool) (x1 : Int32) (b_refusals : Nat → Int32) (res : Int32) (hf : zf_X7_refusalsTold x1 b_refusals = some res) : zCT l yX7_refusalsTold cX7_refusalsTold 2 (some .int) zr_X7_refusalsTold G cy tt [.ref ((L 0)), .int x1] [xU L b_seedNow b_keptSeed b_isKept, xI cy ((L 48)) 5 b_refusals] (some (.int res)) [xU L b_seedNow b_keptSeed b_isKept, xI cy ((L 48)) 5 b_refusals] := by
  refine zk_start zn_X7 (Nat.le_of_ble_eq_true rfl) ?_
  intro p e s m args below meth c A ls Q C hr hQ hw hl
  have C : zCx p m c s args meth cX7_refusalsTold 2 RX7 G cy tt A := C
  have hx := C.1.1
  have hb := C.1.2.1
  have hl : lv_has ls 2 [(0, .ref ((L 0))), (1, .int x1)] := hl
  rw [zf_X7_refusalsTold] at hf
  refine lv_iload_n (pc := 0) hx hb dX7_refusalsTold_0 rfl (lv_at hl 1 rfl) ?_
  refine lv_if_lt (pc := 1) (tgt := 22) hx hb dX7_refusalsTold_1 (by decide) (fun q1 => ?_) (fun q1 => ?_)
  · replace hf := if_t q1 hf
    refine lv_iconst (pc := 22) (v := -1) hx hb dX7_refusalsTold_22 (by decide) ?_
    have hf := Option.some.inj hf
    subst hf
    exact zk_reti (pc := 23) (ww := [xU L b_seedNow b_keptSeed b_isKept, xI cy ((L 48)) 5 b_refusals]) C hw hr hQ dX7_refusalsTold_23
  · replace hf := if_f q1 hf
    refine lv_iload_n (pc := 4) hx hb dX7_refusalsTold_4 rfl (lv_at hl 1 rfl) ?_
    refine lv_aload_n (pc := 5) hx hb dX7_refusalsTold_5 rfl (lv_at hl 0 rfl) ?_
    refine zk_gt (pc := 6) C hw zl_X7_81 0 rfl rfl dX7_refusalsTold_6 ?_
    refine zk_alen (pc := 9) (v := 5) C hw 1 0 rfl rfl rfl dX7_refusalsTold_9 ?_
    refine lv_icmp_ge (pc := 10) (tgt := 22) hx hb dX7_refusalsTold_10 (by decide) (fun q2 => ?_) (fun q2 => ?_)
    · replace hf := if_t q2 hf
      refine lv_iconst (pc := 22) (v := -1) hx hb dX7_refusalsTold_22 (by decide) ?_
      have hf := Option.some.inj hf
      subst hf
      exact zk_reti (pc := 23) (ww := [xU L b_seedNow b_keptSeed b_isKept, xI cy ((L 48)) 5 b_refusals]) C hw hr hQ dX7_refusalsTold_23
    · replace hf := if_f q2 hf
      refine lv_aload_n (pc := 13) hx hb dX7_refusalsTold_13 rfl (lv_at hl 0 rfl) ?_
      refine zk_gt (pc := 14) C hw zl_X7_81 0 rfl rfl dX7_refusalsTold_14 ?_
      refine lv_iload_n (pc := 17) hx hb dX7_refusalsTold_17 rfl (lv_at hl 1 rfl) ?_
      obtain ⟨q3, hf⟩ := ck hf
      refine zk_iald (pc := 18) C hw 1 rfl q3 dX7_refusalsTold_18 ?_
      refine lv_goto (pc := 19) (tgt := 23) hx hb dX7_refusalsTold_19 (by decide) ?_
      have hf := Option.some.inj hf
      subst hf
      exact zk_reti (pc := 23) (ww := [xU L b_seedNow b_keptSeed b_isKept, xI cy ((L 48)) 5 b_refusals]) C hw hr hQ dX7_refusalsTold_23
def zf_X7_status (x1 : Int32) (b_now : TTe) (b_staff : TSt) (b_shelves : TSh) (b_tape : TTa) (b_refusals : Nat → Int32) (b_seedNow : Int32) : Option (Int32) := (if x1 = 0 then some (b_staff.1) else (if x1 = 1 then some (b_now.1) else (if x1 = 2 then some (b_now.2.1) else (if x1 = 3 then some (b_now.2.2.1) else (if x1 = 4 then some (b_now.2.2.2.1) else (if x1 = 5 then some (b_now.2.2.2.2.1) else (if x1 = 6 then (Option.bind (zf_X2_allFled b_staff) (fun u8 => some (u8))) else (if x1 = 7 then some (b_tape.1) else (if x1 = 8 then some (b_seedNow) else (if x1 = 9 then (Option.bind (zf_X1_countHeld b_shelves) (fun u12 => some (u12))) else (Option.bind (zf_X7_refusalsTold (((x1 - (12 : Int32)))) b_refusals) (fun u13 => some (u13)))))))))))))
abbrev zr_X7_status : Room := { frames := 3, cells := 0, slots := 0, locals := 64 }
set_option maxHeartbeats 4000000 in
set_option maxRecDepth 100000 in
theorem c_X7_status (l : Launch) (G : va_G) (cy : Nat → ClassId) (tt : Nat → Nat) (L : Nat → Nat) (b_keptSeed : Int32) (b_isKept : Bool) (x1 : Int32) (b_now : TTe) (b_staff : TSt) (b_shelves : TSh) (b_tape : TTa) (b_refusals : Nat → Int32) (b_seedNow : Int32) (res : Int32) (hf : zf_X7_status x1 b_now b_staff b_shelves b_tape b_refusals b_seedNow = some res) : zCT l yX7_status cX7_status 2 (some .int) zr_X7_status G cy tt [.ref ((L 0)), .int x1] [xU L b_seedNow b_keptSeed b_isKept, xTe ((L 1)) b_now, xSt ((L 5)) ((L 6)) ((L 7)) ((L 8)) ((L 9)) b_staff.1, xI cy ((L 6)) 8 b_staff.2.1, xI cy ((L 7)) 8 b_staff.2.2.1, xI cy ((L 8)) 8 b_staff.2.2.2.1, xI cy ((L 9)) 8 b_staff.2.2.2.2, xSh ((L 20)) ((L 21)) ((L 22)) ((L 23)), xI cy ((L 21)) 8 b_shelves.1, xI cy ((L 22)) 8 b_shelves.2.1, xRJ cy ((L 23)) 8 (fun j => [some ((L 24)), some ((L 25)), some ((L 26)), some ((L 27)), some ((L 28)), some ((L 29)), some ((L 30)), some ((L 31))].getD j none), xJ cy ((L 24)) 40 ((b_shelves.2.2 0)), xJ cy ((L 25)) 40 ((b_shelves.2.2 1)), xJ cy ((L 26)) 40 ((b_shelves.2.2 2)), xJ cy ((L 27)) 40 ((b_shelves.2.2 3)), xJ cy ((L 28)) 40 ((b_shelves.2.2 4)), xJ cy ((L 29)) 40 ((b_shelves.2.2 5)), xJ cy ((L 30)) 40 ((b_shelves.2.2 6)), xJ cy ((L 31)) 40 ((b_shelves.2.2 7)), xTa ((L 32)) ((L 33)) b_tape.1 b_tape.2.2.1 b_tape.2.2.2.1 b_tape.2.2.2.2.1 b_tape.2.2.2.2.2, xI cy ((L 33)) 250 b_tape.2.1, xI cy ((L 48)) 5 b_refusals] (some (.int res)) [xU L b_seedNow b_keptSeed b_isKept, xTe ((L 1)) b_now, xSt ((L 5)) ((L 6)) ((L 7)) ((L 8)) ((L 9)) b_staff.1, xI cy ((L 6)) 8 b_staff.2.1, xI cy ((L 7)) 8 b_staff.2.2.1, xI cy ((L 8)) 8 b_staff.2.2.2.1, xI cy ((L 9)) 8 b_staff.2.2.2.2, xSh ((L 20)) ((L 21)) ((L 22)) ((L 23)), xI cy ((L 21)) 8 b_shelves.1, xI cy ((L 22)) 8 b_shelves.2.1, xRJ cy ((L 23)) 8 (fun j => [some ((L 24)), some ((L 25)), some ((L 26)), some ((L 27)), some ((L 28)), some ((L 29)), some ((L 30)), some ((L 31))].getD j none), xJ cy ((L 24)) 40 ((b_shelves.2.2 0)), xJ cy ((L 25)) 40 ((b_shelves.2.2 1)), xJ cy ((L 26)) 40 ((b_shelves.2.2 2)), xJ cy ((L 27)) 40 ((b_shelves.2.2 3)), xJ cy ((L 28)) 40 ((b_shelves.2.2 4)), xJ cy ((L 29)) 40 ((b_shelves.2.2 5)), xJ cy ((L 30)) 40 ((b_shelves.2.2 6)), xJ cy ((L 31)) 40 ((b_shelves.2.2 7)), xTa ((L 32)) ((L 33)) b_tape.1 b_tape.2.2.1 b_tape.2.2.2.1 b_tape.2.2.2.2.1 b_tape.2.2.2.2.2, xI cy ((L 33)) 250 b_tape.2.1, xI cy ((L 48)) 5 b_refusals] := by
  refine zk_start zn_X7 (Nat.le_of_ble_eq_true rfl) ?_
  intro p e s m args below meth c A ls Q C hr hQ hw hl
  have C : zCx p m c s args meth cX7_status 2 RX7 G cy tt A := C
  have hx := C.1.1
  have hb := C.1.2.1
  have hl : lv_has ls 2 [(0, .ref ((L 0))), (1, .int x1)] := hl
  rw [zf_X7_status] at hf
  refine lv_iload_n (pc := 0) hx hb dX7_status_0 rfl (lv_at hl 1 rfl) ?_
  by_cases q1 : x1 = (0 : Int32)
  · replace hf := if_t q1 hf
    refine zk_tabIn (pc := 1) (off := 55) (tgt := 56) q1 C dX7_status_1 (by decide) (by decide) (by decide +kernel) (by decide) ?_
    refine lv_aload_n (pc := 56) hx hb dX7_status_56 rfl (lv_at hl 0 rfl) ?_
    refine zk_gt (pc := 57) C hw zl_X7_28 0 rfl rfl dX7_status_57 ?_
    refine zk_gt (pc := 60) C hw zl_X7_303 2 rfl rfl dX7_status_60 ?_
    have hf := Option.some.inj hf
    subst hf
    exact zk_reti (pc := 63) (ww := [xU L b_seedNow b_keptSeed b_isKept, xTe ((L 1)) b_now, xSt ((L 5)) ((L 6)) ((L 7)) ((L 8)) ((L 9)) b_staff.1, xI cy ((L 6)) 8 b_staff.2.1, xI cy ((L 7)) 8 b_staff.2.2.1, xI cy ((L 8)) 8 b_staff.2.2.2.1, xI cy ((L 9)) 8 b_staff.2.2.2.2, xSh ((L 20)) ((L 21)) ((L 22)) ((L 23)), xI cy ((L 21)) 8 b_shelves.1, xI cy ((L 22)) 8 b_shelves.2.1, xRJ cy ((L 23)) 8 (fun j => [some ((L 24)), some ((L 25)), some ((L 26)), some ((L 27)), some ((L 28)), some ((L 29)), some ((L 30)), some ((L 31))].getD j none), xJ cy ((L 24)) 40 ((b_shelves.2.2 0)), xJ cy ((L 25)) 40 ((b_shelves.2.2 1)), xJ cy ((L 26)) 40 ((b_shelves.2.2 2)), xJ cy ((L 27)) 40 ((b_shelves.2.2 3)), xJ cy ((L 28)) 40 ((b_shelves.2.2 4)), xJ cy ((L 29)) 40 ((b_shelves.2.2 5)), xJ cy ((L 30)) 40 ((b_shelves.2.2 6)), xJ cy ((L 31)) 40 ((b_shelves.2.2 7)), xTa ((L 32)) ((L 33)) b_tape.1 b_tape.2.2.1 b_tape.2.2.2.1 b_tape.2.2.2.2.1 b_tape.2.2.2.2.2, xI cy ((L 33)) 250 b_tape.2.1, xI cy ((L 48)) 5 b_refusals]) C hw hr hQ dX7_status_63
  · replace hf := if_f q1 hf
    by_cases q2 : x1 = (1 : Int32)
    · replace hf := if_t q2 hf
      refine zk_tabIn (pc := 1) (off := 63) (tgt := 64) q2 C dX7_status_1 (by decide) (by decide) (by decide +kernel) (by decide) ?_
      refine lv_aload_n (pc := 64) hx hb dX7_status_64 rfl (lv_at hl 0 rfl) ?_
      refine zk_gt (pc := 65) C hw zl_X7_10 0 rfl rfl dX7_status_65 ?_
      refine zk_gt (pc := 68) C hw zl_X7_330 1 rfl rfl dX7_status_68 ?_
      have hf := Option.some.inj hf
      subst hf
      exact zk_reti (pc := 71) (ww := [xU L b_seedNow b_keptSeed b_isKept, xTe ((L 1)) b_now, xSt ((L 5)) ((L 6)) ((L 7)) ((L 8)) ((L 9)) b_staff.1, xI cy ((L 6)) 8 b_staff.2.1, xI cy ((L 7)) 8 b_staff.2.2.1, xI cy ((L 8)) 8 b_staff.2.2.2.1, xI cy ((L 9)) 8 b_staff.2.2.2.2, xSh ((L 20)) ((L 21)) ((L 22)) ((L 23)), xI cy ((L 21)) 8 b_shelves.1, xI cy ((L 22)) 8 b_shelves.2.1, xRJ cy ((L 23)) 8 (fun j => [some ((L 24)), some ((L 25)), some ((L 26)), some ((L 27)), some ((L 28)), some ((L 29)), some ((L 30)), some ((L 31))].getD j none), xJ cy ((L 24)) 40 ((b_shelves.2.2 0)), xJ cy ((L 25)) 40 ((b_shelves.2.2 1)), xJ cy ((L 26)) 40 ((b_shelves.2.2 2)), xJ cy ((L 27)) 40 ((b_shelves.2.2 3)), xJ cy ((L 28)) 40 ((b_shelves.2.2 4)), xJ cy ((L 29)) 40 ((b_shelves.2.2 5)), xJ cy ((L 30)) 40 ((b_shelves.2.2 6)), xJ cy ((L 31)) 40 ((b_shelves.2.2 7)), xTa ((L 32)) ((L 33)) b_tape.1 b_tape.2.2.1 b_tape.2.2.2.1 b_tape.2.2.2.2.1 b_tape.2.2.2.2.2, xI cy ((L 33)) 250 b_tape.2.1, xI cy ((L 48)) 5 b_refusals]) C hw hr hQ dX7_status_71
    · replace hf := if_f q2 hf
      by_cases q3 : x1 = (2 : Int32)
      · replace hf := if_t q3 hf
        refine zk_tabIn (pc := 1) (off := 71) (tgt := 72) q3 C dX7_status_1 (by decide) (by decide) (by decide +kernel) (by decide) ?_
        refine lv_aload_n (pc := 72) hx hb dX7_status_72 rfl (lv_at hl 0 rfl) ?_
        refine zk_gt (pc := 73) C hw zl_X7_10 0 rfl rfl dX7_status_73 ?_
        refine zk_gt (pc := 76) C hw zl_X7_239 1 rfl rfl dX7_status_76 ?_
        have hf := Option.some.inj hf
        subst hf
        exact zk_reti (pc := 79) (ww := [xU L b_seedNow b_keptSeed b_isKept, xTe ((L 1)) b_now, xSt ((L 5)) ((L 6)) ((L 7)) ((L 8)) ((L 9)) b_staff.1, xI cy ((L 6)) 8 b_staff.2.1, xI cy ((L 7)) 8 b_staff.2.2.1, xI cy ((L 8)) 8 b_staff.2.2.2.1, xI cy ((L 9)) 8 b_staff.2.2.2.2, xSh ((L 20)) ((L 21)) ((L 22)) ((L 23)), xI cy ((L 21)) 8 b_shelves.1, xI cy ((L 22)) 8 b_shelves.2.1, xRJ cy ((L 23)) 8 (fun j => [some ((L 24)), some ((L 25)), some ((L 26)), some ((L 27)), some ((L 28)), some ((L 29)), some ((L 30)), some ((L 31))].getD j none), xJ cy ((L 24)) 40 ((b_shelves.2.2 0)), xJ cy ((L 25)) 40 ((b_shelves.2.2 1)), xJ cy ((L 26)) 40 ((b_shelves.2.2 2)), xJ cy ((L 27)) 40 ((b_shelves.2.2 3)), xJ cy ((L 28)) 40 ((b_shelves.2.2 4)), xJ cy ((L 29)) 40 ((b_shelves.2.2 5)), xJ cy ((L 30)) 40 ((b_shelves.2.2 6)), xJ cy ((L 31)) 40 ((b_shelves.2.2 7)), xTa ((L 32)) ((L 33)) b_tape.1 b_tape.2.2.1 b_tape.2.2.2.1 b_tape.2.2.2.2.1 b_tape.2.2.2.2.2, xI cy ((L 33)) 250 b_tape.2.1, xI cy ((L 48)) 5 b_refusals]) C hw hr hQ dX7_status_79
      · replace hf := if_f q3 hf
        by_cases q4 : x1 = (3 : Int32)
        · replace hf := if_t q4 hf
          refine zk_tabIn (pc := 1) (off := 79) (tgt := 80) q4 C dX7_status_1 (by decide) (by decide) (by decide +kernel) (by decide) ?_
          refine lv_aload_n (pc := 80) hx hb dX7_status_80 rfl (lv_at hl 0 rfl) ?_
          refine zk_gt (pc := 81) C hw zl_X7_10 0 rfl rfl dX7_status_81 ?_
          refine zk_gt (pc := 84) C hw zl_X7_354 1 rfl rfl dX7_status_84 ?_
          have hf := Option.some.inj hf
          subst hf
          exact zk_reti (pc := 87) (ww := [xU L b_seedNow b_keptSeed b_isKept, xTe ((L 1)) b_now, xSt ((L 5)) ((L 6)) ((L 7)) ((L 8)) ((L 9)) b_staff.1, xI cy ((L 6)) 8 b_staff.2.1, xI cy ((L 7)) 8 b_staff.2.2.1, xI cy ((L 8)) 8 b_staff.2.2.2.1, xI cy ((L 9)) 8 b_staff.2.2.2.2, xSh ((L 20)) ((L 21)) ((L 22)) ((L 23)), xI cy ((L 21)) 8 b_shelves.1, xI cy ((L 22)) 8 b_shelves.2.1, xRJ cy ((L 23)) 8 (fun j => [some ((L 24)), some ((L 25)), some ((L 26)), some ((L 27)), some ((L 28)), some ((L 29)), some ((L 30)), some ((L 31))].getD j none), xJ cy ((L 24)) 40 ((b_shelves.2.2 0)), xJ cy ((L 25)) 40 ((b_shelves.2.2 1)), xJ cy ((L 26)) 40 ((b_shelves.2.2 2)), xJ cy ((L 27)) 40 ((b_shelves.2.2 3)), xJ cy ((L 28)) 40 ((b_shelves.2.2 4)), xJ cy ((L 29)) 40 ((b_shelves.2.2 5)), xJ cy ((L 30)) 40 ((b_shelves.2.2 6)), xJ cy ((L 31)) 40 ((b_shelves.2.2 7)), xTa ((L 32)) ((L 33)) b_tape.1 b_tape.2.2.1 b_tape.2.2.2.1 b_tape.2.2.2.2.1 b_tape.2.2.2.2.2, xI cy ((L 33)) 250 b_tape.2.1, xI cy ((L 48)) 5 b_refusals]) C hw hr hQ dX7_status_87
        · replace hf := if_f q4 hf
          by_cases q5 : x1 = (4 : Int32)
          · replace hf := if_t q5 hf
            refine zk_tabIn (pc := 1) (off := 87) (tgt := 88) q5 C dX7_status_1 (by decide) (by decide) (by decide +kernel) (by decide) ?_
            refine lv_aload_n (pc := 88) hx hb dX7_status_88 rfl (lv_at hl 0 rfl) ?_
            refine zk_gt (pc := 89) C hw zl_X7_10 0 rfl rfl dX7_status_89 ?_
            refine zk_gt (pc := 92) C hw zl_X7_366 1 rfl rfl dX7_status_92 ?_
            have hf := Option.some.inj hf
            subst hf
            exact zk_reti (pc := 95) (ww := [xU L b_seedNow b_keptSeed b_isKept, xTe ((L 1)) b_now, xSt ((L 5)) ((L 6)) ((L 7)) ((L 8)) ((L 9)) b_staff.1, xI cy ((L 6)) 8 b_staff.2.1, xI cy ((L 7)) 8 b_staff.2.2.1, xI cy ((L 8)) 8 b_staff.2.2.2.1, xI cy ((L 9)) 8 b_staff.2.2.2.2, xSh ((L 20)) ((L 21)) ((L 22)) ((L 23)), xI cy ((L 21)) 8 b_shelves.1, xI cy ((L 22)) 8 b_shelves.2.1, xRJ cy ((L 23)) 8 (fun j => [some ((L 24)), some ((L 25)), some ((L 26)), some ((L 27)), some ((L 28)), some ((L 29)), some ((L 30)), some ((L 31))].getD j none), xJ cy ((L 24)) 40 ((b_shelves.2.2 0)), xJ cy ((L 25)) 40 ((b_shelves.2.2 1)), xJ cy ((L 26)) 40 ((b_shelves.2.2 2)), xJ cy ((L 27)) 40 ((b_shelves.2.2 3)), xJ cy ((L 28)) 40 ((b_shelves.2.2 4)), xJ cy ((L 29)) 40 ((b_shelves.2.2 5)), xJ cy ((L 30)) 40 ((b_shelves.2.2 6)), xJ cy ((L 31)) 40 ((b_shelves.2.2 7)), xTa ((L 32)) ((L 33)) b_tape.1 b_tape.2.2.1 b_tape.2.2.2.1 b_tape.2.2.2.2.1 b_tape.2.2.2.2.2, xI cy ((L 33)) 250 b_tape.2.1, xI cy ((L 48)) 5 b_refusals]) C hw hr hQ dX7_status_95
          · replace hf := if_f q5 hf
            by_cases q6 : x1 = (5 : Int32)
            · replace hf := if_t q6 hf
              refine zk_tabIn (pc := 1) (off := 95) (tgt := 96) q6 C dX7_status_1 (by decide) (by decide) (by decide +kernel) (by decide) ?_
              refine lv_aload_n (pc := 96) hx hb dX7_status_96 rfl (lv_at hl 0 rfl) ?_
              refine zk_gt (pc := 97) C hw zl_X7_10 0 rfl rfl dX7_status_97 ?_
              refine zk_gt (pc := 100) C hw zl_X7_369 1 rfl rfl dX7_status_100 ?_
              have hf := Option.some.inj hf
              subst hf
              exact zk_reti (pc := 103) (ww := [xU L b_seedNow b_keptSeed b_isKept, xTe ((L 1)) b_now, xSt ((L 5)) ((L 6)) ((L 7)) ((L 8)) ((L 9)) b_staff.1, xI cy ((L 6)) 8 b_staff.2.1, xI cy ((L 7)) 8 b_staff.2.2.1, xI cy ((L 8)) 8 b_staff.2.2.2.1, xI cy ((L 9)) 8 b_staff.2.2.2.2, xSh ((L 20)) ((L 21)) ((L 22)) ((L 23)), xI cy ((L 21)) 8 b_shelves.1, xI cy ((L 22)) 8 b_shelves.2.1, xRJ cy ((L 23)) 8 (fun j => [some ((L 24)), some ((L 25)), some ((L 26)), some ((L 27)), some ((L 28)), some ((L 29)), some ((L 30)), some ((L 31))].getD j none), xJ cy ((L 24)) 40 ((b_shelves.2.2 0)), xJ cy ((L 25)) 40 ((b_shelves.2.2 1)), xJ cy ((L 26)) 40 ((b_shelves.2.2 2)), xJ cy ((L 27)) 40 ((b_shelves.2.2 3)), xJ cy ((L 28)) 40 ((b_shelves.2.2 4)), xJ cy ((L 29)) 40 ((b_shelves.2.2 5)), xJ cy ((L 30)) 40 ((b_shelves.2.2 6)), xJ cy ((L 31)) 40 ((b_shelves.2.2 7)), xTa ((L 32)) ((L 33)) b_tape.1 b_tape.2.2.1 b_tape.2.2.2.1 b_tape.2.2.2.2.1 b_tape.2.2.2.2.2, xI cy ((L 33)) 250 b_tape.2.1, xI cy ((L 48)) 5 b_refusals]) C hw hr hQ dX7_status_103
            · replace hf := if_f q6 hf
              by_cases q7 : x1 = (6 : Int32)
              · replace hf := if_t q7 hf
                refine zk_tabIn (pc := 1) (off := 103) (tgt := 104) q7 C dX7_status_1 (by decide) (by decide) (by decide +kernel) (by decide) ?_
                refine lv_aload_n (pc := 104) hx hb dX7_status_104 rfl (lv_at hl 0 rfl) ?_
                refine zk_gt (pc := 105) C hw zl_X7_28 0 rfl rfl dX7_status_105 ?_
                obtain ⟨u8, u8e, hf⟩ := bd hf
                refine zk_cV (pc := 108) (ci := 2) (q0 := 2) (rest := []) (st1 := [.int u8]) (w' := [xU L b_seedNow b_keptSeed b_isKept, xTe ((L 1)) b_now, xSt ((L 5)) ((L 6)) ((L 7)) ((L 8)) ((L 9)) b_staff.1, xI cy ((L 6)) 8 b_staff.2.1, xI cy ((L 7)) 8 b_staff.2.2.1, xI cy ((L 8)) 8 b_staff.2.2.2.1, xI cy ((L 9)) 8 b_staff.2.2.2.2, xSh ((L 20)) ((L 21)) ((L 22)) ((L 23)), xI cy ((L 21)) 8 b_shelves.1, xI cy ((L 22)) 8 b_shelves.2.1, xRJ cy ((L 23)) 8 (fun j => [some ((L 24)), some ((L 25)), some ((L 26)), some ((L 27)), some ((L 28)), some ((L 29)), some ((L 30)), some ((L 31))].getD j none), xJ cy ((L 24)) 40 ((b_shelves.2.2 0)), xJ cy ((L 25)) 40 ((b_shelves.2.2 1)), xJ cy ((L 26)) 40 ((b_shelves.2.2 2)), xJ cy ((L 27)) 40 ((b_shelves.2.2 3)), xJ cy ((L 28)) 40 ((b_shelves.2.2 4)), xJ cy ((L 29)) 40 ((b_shelves.2.2 5)), xJ cy ((L 30)) 40 ((b_shelves.2.2 6)), xJ cy ((L 31)) 40 ((b_shelves.2.2 7)), xTa ((L 32)) ((L 33)) b_tape.1 b_tape.2.2.1 b_tape.2.2.2.1 b_tape.2.2.2.2.1 b_tape.2.2.2.2.2, xI cy ((L 33)) 250 b_tape.2.1, xI cy ((L 48)) 5 b_refusals]) (mk := [none, none, none, none, none, none, none, none, none, none, none, none, none, none, none, none, none, none, none, none, none, none]) C hw (c_X2_allFled l G cy tt ((L 5)) ((L 6)) ((L 7)) ((L 8)) ((L 9)) b_staff _ u8e) zy_X2_allFled zm_X7_372 rfl rfl rfl [2, 3, 4, 5, 6] rfl rfl rfl rfl rfl rfl rfl rfl hl.1 ⟨rfl, rfl⟩ ⟨Nat.le_of_ble_eq_true rfl, Nat.le_of_ble_eq_true rfl⟩ rfl (Nat.le_of_ble_eq_true rfl) ⟨Nat.zero_le _, Nat.zero_le _⟩ dX7_status_108 (fun H locs hw => ?_)
                have hf := Option.some.inj hf
                subst hf
                exact zk_reti (pc := 111) (ww := [xU L b_seedNow b_keptSeed b_isKept, xTe ((L 1)) b_now, xSt ((L 5)) ((L 6)) ((L 7)) ((L 8)) ((L 9)) b_staff.1, xI cy ((L 6)) 8 b_staff.2.1, xI cy ((L 7)) 8 b_staff.2.2.1, xI cy ((L 8)) 8 b_staff.2.2.2.1, xI cy ((L 9)) 8 b_staff.2.2.2.2, xSh ((L 20)) ((L 21)) ((L 22)) ((L 23)), xI cy ((L 21)) 8 b_shelves.1, xI cy ((L 22)) 8 b_shelves.2.1, xRJ cy ((L 23)) 8 (fun j => [some ((L 24)), some ((L 25)), some ((L 26)), some ((L 27)), some ((L 28)), some ((L 29)), some ((L 30)), some ((L 31))].getD j none), xJ cy ((L 24)) 40 ((b_shelves.2.2 0)), xJ cy ((L 25)) 40 ((b_shelves.2.2 1)), xJ cy ((L 26)) 40 ((b_shelves.2.2 2)), xJ cy ((L 27)) 40 ((b_shelves.2.2 3)), xJ cy ((L 28)) 40 ((b_shelves.2.2 4)), xJ cy ((L 29)) 40 ((b_shelves.2.2 5)), xJ cy ((L 30)) 40 ((b_shelves.2.2 6)), xJ cy ((L 31)) 40 ((b_shelves.2.2 7)), xTa ((L 32)) ((L 33)) b_tape.1 b_tape.2.2.1 b_tape.2.2.2.1 b_tape.2.2.2.2.1 b_tape.2.2.2.2.2, xI cy ((L 33)) 250 b_tape.2.1, xI cy ((L 48)) 5 b_refusals]) C hw hr hQ dX7_status_111
              · replace hf := if_f q7 hf
                by_cases q9 : x1 = (7 : Int32)
                · replace hf := if_t q9 hf
                  refine zk_tabIn (pc := 1) (off := 111) (tgt := 112) q9 C dX7_status_1 (by decide) (by decide) (by decide +kernel) (by decide) ?_
                  refine lv_aload_n (pc := 112) hx hb dX7_status_112 rfl (lv_at hl 0 rfl) ?_
                  refine zk_gt (pc := 113) C hw zl_X7_48 0 rfl rfl dX7_status_113 ?_
                  refine zk_gt (pc := 116) C hw zl_X7_375 19 rfl rfl dX7_status_116 ?_
                  have hf := Option.some.inj hf
                  subst hf
                  exact zk_reti (pc := 119) (ww := [xU L b_seedNow b_keptSeed b_isKept, xTe ((L 1)) b_now, xSt ((L 5)) ((L 6)) ((L 7)) ((L 8)) ((L 9)) b_staff.1, xI cy ((L 6)) 8 b_staff.2.1, xI cy ((L 7)) 8 b_staff.2.2.1, xI cy ((L 8)) 8 b_staff.2.2.2.1, xI cy ((L 9)) 8 b_staff.2.2.2.2, xSh ((L 20)) ((L 21)) ((L 22)) ((L 23)), xI cy ((L 21)) 8 b_shelves.1, xI cy ((L 22)) 8 b_shelves.2.1, xRJ cy ((L 23)) 8 (fun j => [some ((L 24)), some ((L 25)), some ((L 26)), some ((L 27)), some ((L 28)), some ((L 29)), some ((L 30)), some ((L 31))].getD j none), xJ cy ((L 24)) 40 ((b_shelves.2.2 0)), xJ cy ((L 25)) 40 ((b_shelves.2.2 1)), xJ cy ((L 26)) 40 ((b_shelves.2.2 2)), xJ cy ((L 27)) 40 ((b_shelves.2.2 3)), xJ cy ((L 28)) 40 ((b_shelves.2.2 4)), xJ cy ((L 29)) 40 ((b_shelves.2.2 5)), xJ cy ((L 30)) 40 ((b_shelves.2.2 6)), xJ cy ((L 31)) 40 ((b_shelves.2.2 7)), xTa ((L 32)) ((L 33)) b_tape.1 b_tape.2.2.1 b_tape.2.2.2.1 b_tape.2.2.2.2.1 b_tape.2.2.2.2.2, xI cy ((L 33)) 250 b_tape.2.1, xI cy ((L 48)) 5 b_refusals]) C hw hr hQ dX7_status_119
                · replace hf := if_f q9 hf
                  by_cases q10 : x1 = (8 : Int32)
                  · replace hf := if_t q10 hf
                    refine zk_tabIn (pc := 1) (off := 119) (tgt := 120) q10 C dX7_status_1 (by decide) (by decide) (by decide +kernel) (by decide) ?_
                    refine lv_aload_n (pc := 120) hx hb dX7_status_120 rfl (lv_at hl 0 rfl) ?_
                    refine zk_gt (pc := 121) C hw zl_X7_84 0 rfl rfl dX7_status_121 ?_
                    have hf := Option.some.inj hf
                    subst hf
                    exact zk_reti (pc := 124) (ww := [xU L b_seedNow b_keptSeed b_isKept, xTe ((L 1)) b_now, xSt ((L 5)) ((L 6)) ((L 7)) ((L 8)) ((L 9)) b_staff.1, xI cy ((L 6)) 8 b_staff.2.1, xI cy ((L 7)) 8 b_staff.2.2.1, xI cy ((L 8)) 8 b_staff.2.2.2.1, xI cy ((L 9)) 8 b_staff.2.2.2.2, xSh ((L 20)) ((L 21)) ((L 22)) ((L 23)), xI cy ((L 21)) 8 b_shelves.1, xI cy ((L 22)) 8 b_shelves.2.1, xRJ cy ((L 23)) 8 (fun j => [some ((L 24)), some ((L 25)), some ((L 26)), some ((L 27)), some ((L 28)), some ((L 29)), some ((L 30)), some ((L 31))].getD j none), xJ cy ((L 24)) 40 ((b_shelves.2.2 0)), xJ cy ((L 25)) 40 ((b_shelves.2.2 1)), xJ cy ((L 26)) 40 ((b_shelves.2.2 2)), xJ cy ((L 27)) 40 ((b_shelves.2.2 3)), xJ cy ((L 28)) 40 ((b_shelves.2.2 4)), xJ cy ((L 29)) 40 ((b_shelves.2.2 5)), xJ cy ((L 30)) 40 ((b_shelves.2.2 6)), xJ cy ((L 31)) 40 ((b_shelves.2.2 7)), xTa ((L 32)) ((L 33)) b_tape.1 b_tape.2.2.1 b_tape.2.2.2.1 b_tape.2.2.2.2.1 b_tape.2.2.2.2.2, xI cy ((L 33)) 250 b_tape.2.1, xI cy ((L 48)) 5 b_refusals]) C hw hr hQ dX7_status_124
                  · replace hf := if_f q10 hf
                    by_cases q11 : x1 = (9 : Int32)
                    · replace hf := if_t q11 hf
                      refine zk_tabIn (pc := 1) (off := 124) (tgt := 125) q11 C dX7_status_1 (by decide) (by decide) (by decide +kernel) (by decide) ?_
                      refine lv_aload_n (pc := 125) hx hb dX7_status_125 rfl (lv_at hl 0 rfl) ?_
                      refine zk_gt (pc := 126) C hw zl_X7_41 0 rfl rfl dX7_status_126 ?_
                      obtain ⟨u12, u12e, hf⟩ := bd hf
                      refine zk_cV (pc := 129) (ci := 1) (q0 := 7) (rest := []) (st1 := [.int u12]) (w' := [xU L b_seedNow b_keptSeed b_isKept, xTe ((L 1)) b_now, xSt ((L 5)) ((L 6)) ((L 7)) ((L 8)) ((L 9)) b_staff.1, xI cy ((L 6)) 8 b_staff.2.1, xI cy ((L 7)) 8 b_staff.2.2.1, xI cy ((L 8)) 8 b_staff.2.2.2.1, xI cy ((L 9)) 8 b_staff.2.2.2.2, xSh ((L 20)) ((L 21)) ((L 22)) ((L 23)), xI cy ((L 21)) 8 b_shelves.1, xI cy ((L 22)) 8 b_shelves.2.1, xRJ cy ((L 23)) 8 (fun j => [some ((L 24)), some ((L 25)), some ((L 26)), some ((L 27)), some ((L 28)), some ((L 29)), some ((L 30)), some ((L 31))].getD j none), xJ cy ((L 24)) 40 ((b_shelves.2.2 0)), xJ cy ((L 25)) 40 ((b_shelves.2.2 1)), xJ cy ((L 26)) 40 ((b_shelves.2.2 2)), xJ cy ((L 27)) 40 ((b_shelves.2.2 3)), xJ cy ((L 28)) 40 ((b_shelves.2.2 4)), xJ cy ((L 29)) 40 ((b_shelves.2.2 5)), xJ cy ((L 30)) 40 ((b_shelves.2.2 6)), xJ cy ((L 31)) 40 ((b_shelves.2.2 7)), xTa ((L 32)) ((L 33)) b_tape.1 b_tape.2.2.1 b_tape.2.2.2.1 b_tape.2.2.2.2.1 b_tape.2.2.2.2.2, xI cy ((L 33)) 250 b_tape.2.1, xI cy ((L 48)) 5 b_refusals]) (mk := [none, none, none, none, none, none, none, none, none, none, none, none, none, none, none, none, none, none, none, none, none, none]) C hw (c_X1_countHeld l G cy tt ((L 20)) ((L 21)) ((L 22)) ((L 23)) ((L 24)) ((L 25)) ((L 26)) ((L 27)) ((L 28)) ((L 29)) ((L 30)) ((L 31)) b_shelves _ u12e) zy_X1_countHeld zm_X7_378 rfl rfl rfl [7, 8, 9, 10, 11, 12, 13, 14, 15, 16, 17, 18] rfl rfl rfl rfl rfl rfl rfl rfl hl.1 ⟨rfl, rfl⟩ ⟨Nat.le_of_ble_eq_true rfl, Nat.le_of_ble_eq_true rfl⟩ rfl (Nat.le_of_ble_eq_true rfl) ⟨Nat.zero_le _, Nat.zero_le _⟩ dX7_status_129 (fun H locs hw => ?_)
                      have hf := Option.some.inj hf
                      subst hf
                      exact zk_reti (pc := 132) (ww := [xU L b_seedNow b_keptSeed b_isKept, xTe ((L 1)) b_now, xSt ((L 5)) ((L 6)) ((L 7)) ((L 8)) ((L 9)) b_staff.1, xI cy ((L 6)) 8 b_staff.2.1, xI cy ((L 7)) 8 b_staff.2.2.1, xI cy ((L 8)) 8 b_staff.2.2.2.1, xI cy ((L 9)) 8 b_staff.2.2.2.2, xSh ((L 20)) ((L 21)) ((L 22)) ((L 23)), xI cy ((L 21)) 8 b_shelves.1, xI cy ((L 22)) 8 b_shelves.2.1, xRJ cy ((L 23)) 8 (fun j => [some ((L 24)), some ((L 25)), some ((L 26)), some ((L 27)), some ((L 28)), some ((L 29)), some ((L 30)), some ((L 31))].getD j none), xJ cy ((L 24)) 40 ((b_shelves.2.2 0)), xJ cy ((L 25)) 40 ((b_shelves.2.2 1)), xJ cy ((L 26)) 40 ((b_shelves.2.2 2)), xJ cy ((L 27)) 40 ((b_shelves.2.2 3)), xJ cy ((L 28)) 40 ((b_shelves.2.2 4)), xJ cy ((L 29)) 40 ((b_shelves.2.2 5)), xJ cy ((L 30)) 40 ((b_shelves.2.2 6)), xJ cy ((L 31)) 40 ((b_shelves.2.2 7)), xTa ((L 32)) ((L 33)) b_tape.1 b_tape.2.2.1 b_tape.2.2.2.1 b_tape.2.2.2.2.1 b_tape.2.2.2.2.2, xI cy ((L 33)) 250 b_tape.2.1, xI cy ((L 48)) 5 b_refusals]) C hw hr hQ dX7_status_132
                    · replace hf := if_f q11 hf
                      have eq1 := i32_ne (n := 0) (by decide) q1
                      have eq2 := i32_ne (n := 1) (by decide) q2
                      have eq3 := i32_ne (n := 2) (by decide) q3
                      have eq4 := i32_ne (n := 3) (by decide) q4
                      have eq5 := i32_ne (n := 4) (by decide) q5
                      have eq6 := i32_ne (n := 5) (by decide) q6
                      have eq7 := i32_ne (n := 6) (by decide) q7
                      have eq9 := i32_ne (n := 7) (by decide) q9
                      have eq10 := i32_ne (n := 8) (by decide) q10
                      have eq11 := i32_ne (n := 9) (by decide) q11
                      refine lv_tableOut (pc := 1) (tgt := 133) hx hb dX7_status_1 (by omega) (by decide) ?_
                      refine lv_aload_n (pc := 133) hx hb dX7_status_133 rfl (lv_at hl 0 rfl) ?_
                      refine lv_iload_n (pc := 134) hx hb dX7_status_134 rfl (lv_at hl 1 rfl) ?_
                      refine lv_bipush (pc := 135) (v := 12) hx hb dX7_status_135 (by decide) ?_
                      refine lv_isub (pc := 137) hx hb dX7_status_137 ?_
                      obtain ⟨u13, u13e, hf⟩ := bd hf
                      refine zk_cV (pc := 138) (ci := 7) (q0 := 0) (rest := []) (st1 := [.int u13]) (w' := [xU L b_seedNow b_keptSeed b_isKept, xTe ((L 1)) b_now, xSt ((L 5)) ((L 6)) ((L 7)) ((L 8)) ((L 9)) b_staff.1, xI cy ((L 6)) 8 b_staff.2.1, xI cy ((L 7)) 8 b_staff.2.2.1, xI cy ((L 8)) 8 b_staff.2.2.2.1, xI cy ((L 9)) 8 b_staff.2.2.2.2, xSh ((L 20)) ((L 21)) ((L 22)) ((L 23)), xI cy ((L 21)) 8 b_shelves.1, xI cy ((L 22)) 8 b_shelves.2.1, xRJ cy ((L 23)) 8 (fun j => [some ((L 24)), some ((L 25)), some ((L 26)), some ((L 27)), some ((L 28)), some ((L 29)), some ((L 30)), some ((L 31))].getD j none), xJ cy ((L 24)) 40 ((b_shelves.2.2 0)), xJ cy ((L 25)) 40 ((b_shelves.2.2 1)), xJ cy ((L 26)) 40 ((b_shelves.2.2 2)), xJ cy ((L 27)) 40 ((b_shelves.2.2 3)), xJ cy ((L 28)) 40 ((b_shelves.2.2 4)), xJ cy ((L 29)) 40 ((b_shelves.2.2 5)), xJ cy ((L 30)) 40 ((b_shelves.2.2 6)), xJ cy ((L 31)) 40 ((b_shelves.2.2 7)), xTa ((L 32)) ((L 33)) b_tape.1 b_tape.2.2.1 b_tape.2.2.2.1 b_tape.2.2.2.2.1 b_tape.2.2.2.2.2, xI cy ((L 33)) 250 b_tape.2.1, xI cy ((L 48)) 5 b_refusals]) (mk := [none, none, none, none, none, none, none, none, none, none, none, none, none, none, none, none, none, none, none, none, none, none]) C hw (c_X7_refusalsTold l G cy tt L b_seedNow b_keptSeed b_isKept (((x1 - (12 : Int32)))) b_refusals _ u13e) zy_X7_refusalsTold zm_X7_381 rfl rfl rfl [0, 21] rfl rfl rfl rfl rfl rfl rfl rfl hl.1 ⟨rfl, rfl⟩ ⟨Nat.le_of_ble_eq_true rfl, Nat.le_of_ble_eq_true rfl⟩ rfl (Nat.le_of_ble_eq_true rfl) ⟨Nat.zero_le _, Nat.zero_le _⟩ dX7_status_138 (fun H locs hw => ?_)
                      have hf := Option.some.inj hf
                      subst hf
                      exact zk_reti (pc := 141) (ww := [xU L b_seedNow b_keptSeed b_isKept, xTe ((L 1)) b_now, xSt ((L 5)) ((L 6)) ((L 7)) ((L 8)) ((L 9)) b_staff.1, xI cy ((L 6)) 8 b_staff.2.1, xI cy ((L 7)) 8 b_staff.2.2.1, xI cy ((L 8)) 8 b_staff.2.2.2.1, xI cy ((L 9)) 8 b_staff.2.2.2.2, xSh ((L 20)) ((L 21)) ((L 22)) ((L 23)), xI cy ((L 21)) 8 b_shelves.1, xI cy ((L 22)) 8 b_shelves.2.1, xRJ cy ((L 23)) 8 (fun j => [some ((L 24)), some ((L 25)), some ((L 26)), some ((L 27)), some ((L 28)), some ((L 29)), some ((L 30)), some ((L 31))].getD j none), xJ cy ((L 24)) 40 ((b_shelves.2.2 0)), xJ cy ((L 25)) 40 ((b_shelves.2.2 1)), xJ cy ((L 26)) 40 ((b_shelves.2.2 2)), xJ cy ((L 27)) 40 ((b_shelves.2.2 3)), xJ cy ((L 28)) 40 ((b_shelves.2.2 4)), xJ cy ((L 29)) 40 ((b_shelves.2.2 5)), xJ cy ((L 30)) 40 ((b_shelves.2.2 6)), xJ cy ((L 31)) 40 ((b_shelves.2.2 7)), xTa ((L 32)) ((L 33)) b_tape.1 b_tape.2.2.1 b_tape.2.2.2.1 b_tape.2.2.2.2.1 b_tape.2.2.2.2.2, xI cy ((L 33)) 250 b_tape.2.1, xI cy ((L 48)) 5 b_refusals]) C hw hr hQ dX7_status_141
def zf_X8_isIn (x0 : Int64) (x2 : Int64) (x4 : Int64) : Option (Bool) := (if (lg_cmp x0 x2) < 0 then some (false) else (if 0 < (lg_cmp x0 x4) then some (false) else some (true)))
abbrev zr_X8_isIn : Room := { frames := 0, cells := 0, slots := 0, locals := 0 }
set_option maxHeartbeats 4000000 in
set_option maxRecDepth 100000 in
theorem c_X8_isIn (l : Launch) (G : va_G) (cy : Nat → ClassId) (tt : Nat → Nat)  (x0 : Int64) (x2 : Int64) (x4 : Int64) (res : Bool) (hf : zf_X8_isIn x0 x2 x4 = some res) : zCT l yX8_isIn cX8_isIn 6 (some .boolean) zr_X8_isIn G cy tt [.long x0, .long x2, .long x4] [] (some (.int (bI res))) [] := by
  refine zk_start zn_X8 (Nat.le_of_ble_eq_true rfl) ?_
  intro p e s m args below meth c A ls Q C hr hQ hw hl
  have C : zCx p m c s args meth cX8_isIn 6 RX8 G cy tt A := C
  have hx := C.1.1
  have hb := C.1.2.1
  have hl : lv_has ls 6 [(0, .long x0), (2, .long x2), (4, .long x4)] := hl
  rw [zf_X8_isIn] at hf
  refine lv_lload_n (pc := 0) hx hb dX8_isIn_0 rfl (lv_at hl 0 rfl) ?_
  refine lv_lload_n (pc := 1) hx hb dX8_isIn_1 rfl (lv_at hl 1 rfl) ?_
  refine W.lcmp (pc := 2) hx hb dX8_isIn_2 ?_
  refine lv_if_lt (pc := 3) (tgt := 17) hx hb dX8_isIn_3 (by decide) (fun q1 => ?_) (fun q1 => ?_)
  · replace hf := if_t q1 hf
    refine lv_iconst (pc := 17) (v := 0) hx hb dX8_isIn_17 (by decide) ?_
    have hf := Option.some.inj hf
    subst hf
    exact zk_retz (pc := 18) (b := false) (ww := []) C hw hr hQ dX8_isIn_18
  · replace hf := if_f q1 hf
    refine lv_lload_n (pc := 6) hx hb dX8_isIn_6 rfl (lv_at hl 0 rfl) ?_
    refine lv_lload (pc := 7) hx hb dX8_isIn_7 (lv_at hl 2 rfl) ?_
    refine W.lcmp (pc := 9) hx hb dX8_isIn_9 ?_
    refine lv_if_gt (pc := 10) (tgt := 17) hx hb dX8_isIn_10 (by decide) (fun q2 => ?_) (fun q2 => ?_)
    · replace hf := if_t q2 hf
      refine lv_iconst (pc := 17) (v := 0) hx hb dX8_isIn_17 (by decide) ?_
      have hf := Option.some.inj hf
      subst hf
      exact zk_retz (pc := 18) (b := false) (ww := []) C hw hr hQ dX8_isIn_18
    · replace hf := if_f q2 hf
      refine lv_iconst (pc := 13) (v := 1) hx hb dX8_isIn_13 (by decide) ?_
      refine lv_goto (pc := 14) (tgt := 18) hx hb dX8_isIn_14 (by decide) ?_
      have hf := Option.some.inj hf
      subst hf
      exact zk_retz (pc := 18) (b := true) (ww := []) C hw hr hQ dX8_isIn_18
def zf_X8_bound (x0 : Int32) (x1 : Int32) : Option (Int32) := some ((if (0 : Int32) < (if x0 < x1 then x0 else x1) then (if x0 < x1 then x0 else x1) else (0 : Int32)))
abbrev zr_X8_bound : Room := { frames := 1, cells := 0, slots := 0, locals := 21 }
set_option maxHeartbeats 4000000 in
set_option maxRecDepth 100000 in
theorem c_X8_bound (l : Launch) (G : va_G) (cy : Nat → ClassId) (tt : Nat → Nat)  (x0 : Int32) (x1 : Int32) (res : Int32) (hf : zf_X8_bound x0 x1 = some res) : zCT l yX8_bound cX8_bound 2 (some .int) zr_X8_bound G cy tt [.int x0, .int x1] [] (some (.int res)) [] := by
  refine zk_start zn_X8 (Nat.le_of_ble_eq_true rfl) ?_
  intro p e s m args below meth c A ls Q C hr hQ hw hl
  have C : zCx p m c s args meth cX8_bound 2 RX8 G cy tt A := C
  have hx := C.1.1
  have hb := C.1.2.1
  have hl : lv_has ls 2 [(0, .int x0), (1, .int x1)] := hl
  rw [zf_X8_bound] at hf
  refine lv_iconst (pc := 0) (v := 0) hx hb dX8_bound_0 (by decide) ?_
  refine lv_iload_n (pc := 1) hx hb dX8_bound_1 rfl (lv_at hl 1 rfl) ?_
  refine lv_iload_n (pc := 2) hx hb dX8_bound_2 rfl (lv_at hl 0 rfl) ?_
  refine zk_min (pc := 3) C hl.1 zm_X8_59 ⟨Nat.le_of_ble_eq_true rfl, Nat.le_of_ble_eq_true rfl⟩ ⟨Nat.zero_le _, Nat.zero_le _⟩ dX8_bound_3 ?_
  refine zk_max (pc := 6) C hl.1 zm_X8_65 ⟨Nat.le_of_ble_eq_true rfl, Nat.le_of_ble_eq_true rfl⟩ ⟨Nat.zero_le _, Nat.zero_le _⟩ dX8_bound_6 ?_
  have hf := Option.some.inj hf
  subst hf
  exact zk_reti (pc := 9) (ww := []) C hw hr hQ dX8_bound_9
def zf_X8_refuse (x1 : Int32) (b_refused : Nat → Int32) : Option (Int32 × (Nat → Int32)) := (if ix ((-x1)) 7 then (if ix ((-x1)) 7 then some (x1, (upd b_refused (((-x1)).toNatClampNeg) (((b_refused ((-x1)).toNatClampNeg) + (1 : Int32))))) else none) else none)
abbrev zr_X8_refuse : Room := { frames := 0, cells := 0, slots := 0, locals := 0 }
set_option maxHeartbeats 4000000 in
set_option maxRecDepth 100000 in
theorem c_X8_refuse (l : Launch) (G : va_G) (cy : Nat → ClassId) (tt : Nat → Nat) (M : Nat → Nat) (b_isKept : Bool) (b_size : Int32) (b_at : Int32) (b_from : Int32) (b_sort : Int32) (b_fled : Bool) (b_flights : Int32) (b_firstFlight : Int32) (b_bestHarms : Int32) (b_bestRage : Int32) (b_harmed : Int64) (b_raged : Int64) (x1 : Int32) (b_refused : Nat → Int32) (res : Int32 × (Nat → Int32)) (hf : zf_X8_refuse x1 b_refused = some res) : zCT l yX8_refuse cX8_refuse 2 (some .int) zr_X8_refuse G cy tt [.ref ((M 0)), .int x1] [xM M b_isKept b_size b_at b_from b_sort b_fled b_flights b_firstFlight b_bestHarms b_bestRage b_harmed b_raged, xI cy ((M 1)) 7 b_refused] (some (.int res.1)) [xM M b_isKept b_size b_at b_from b_sort b_fled b_flights b_firstFlight b_bestHarms b_bestRage b_harmed b_raged, xI cy ((M 1)) 7 res.2] := by
  refine zk_start zn_X8 (Nat.le_of_ble_eq_true rfl) ?_
  intro p e s m args below meth c A ls Q C hr hQ hw hl
  have C : zCx p m c s args meth cX8_refuse 2 RX8 G cy tt A := C
  have hx := C.1.1
  have hb := C.1.2.1
  have hl : lv_has ls 2 [(0, .ref ((M 0))), (1, .int x1)] := hl
  rw [zf_X8_refuse] at hf
  refine lv_aload_n (pc := 0) hx hb dX8_refuse_0 rfl (lv_at hl 0 rfl) ?_
  refine zk_gt (pc := 1) C hw zl_X8_7 0 rfl rfl dX8_refuse_1 ?_
  refine lv_iload_n (pc := 4) hx hb dX8_refuse_4 rfl (lv_at hl 1 rfl) ?_
  refine lv_ineg (pc := 5) hx hb dX8_refuse_5 ?_
  refine lv_dup2_11 (pc := 6) hx hb dX8_refuse_6 rfl rfl ?_
  obtain ⟨q1, hf⟩ := ck hf
  refine zk_iald (pc := 7) C hw 1 rfl q1 dX8_refuse_7 ?_
  refine lv_iconst (pc := 8) (v := 1) hx hb dX8_refuse_8 (by decide) ?_
  refine lv_iadd (pc := 9) hx hb dX8_refuse_9 ?_
  obtain ⟨q2, hf⟩ := ck hf
  refine zk_iast (pc := 10) (w' := [xM M b_isKept b_size b_at b_from b_sort b_fled b_flights b_firstFlight b_bestHarms b_bestRage b_harmed b_raged, xI cy ((M 1)) 7 ((upd b_refused (((-x1)).toNatClampNeg) (((b_refused ((-x1)).toNatClampNeg) + (1 : Int32)))))]) C hw 1 rfl q2 rfl dX8_refuse_10 (fun H locs hw => ?_)
  refine lv_iload_n (pc := 11) hx hb dX8_refuse_11 rfl (lv_at hl 1 rfl) ?_
  have hf := Option.some.inj hf
  subst hf
  exact zk_reti (pc := 12) (ww := [xM M b_isKept b_size b_at b_from b_sort b_fled b_flights b_firstFlight b_bestHarms b_bestRage b_harmed b_raged, xI cy ((M 1)) 7 ((upd b_refused (((-x1)).toNatClampNeg) (((b_refused ((-x1)).toNatClampNeg) + (1 : Int32)))))]) C hw hr hQ dX8_refuse_12
def zf_X8_keep_2 (b_now : Nat → Int32) : Nat → Int32 → Int32 → (Nat → Int32) → Option ((Nat → Int32))
  | 0, _, _, _ => none
  | n + 1, v1, v2, b_minds => (if (39 : Int32) ≤ v2 then some (b_minds) else (if ix v2 39 then (if ix ((((39 : Int32) * v1) + v2)) 273 then zf_X8_keep_2 b_now n v1 ((v2 + 1)) ((upd b_minds (((((39 : Int32) * v1) + v2)).toNatClampNeg) ((b_now v2.toNatClampNeg)))) else none) else none))
def zf_X8_keep (x1 : Int32) (b_now : Nat → Int32) (b_minds : Nat → Int32) : Option ((Nat → Int32)) := zf_X8_keep_2 b_now FU x1 ((0 : Int32)) b_minds
abbrev zr_X8_keep : Room := { frames := 0, cells := 0, slots := 0, locals := 0 }
set_option maxHeartbeats 4000000 in
set_option maxRecDepth 100000 in
theorem c_X8_keep (l : Launch) (G : va_G) (cy : Nat → ClassId) (tt : Nat → Nat) (M : Nat → Nat) (b_isKept : Bool) (b_size : Int32) (b_at : Int32) (b_from : Int32) (b_sort : Int32) (b_fled : Bool) (b_flights : Int32) (b_firstFlight : Int32) (b_bestHarms : Int32) (b_bestRage : Int32) (b_harmed : Int64) (b_raged : Int64) (x1 : Int32) (b_now : Nat → Int32) (b_minds : Nat → Int32) (res : (Nat → Int32)) (hf : zf_X8_keep x1 b_now b_minds = some res) : zCT l yX8_keep cX8_keep 3 none zr_X8_keep G cy tt [.ref ((M 0)), .int x1] [xM M b_isKept b_size b_at b_from b_sort b_fled b_flights b_firstFlight b_bestHarms b_bestRage b_harmed b_raged, xI cy ((M 2)) 39 b_now, xI cy ((M 4)) 273 b_minds] none [xM M b_isKept b_size b_at b_from b_sort b_fled b_flights b_firstFlight b_bestHarms b_bestRage b_harmed b_raged, xI cy ((M 2)) 39 b_now, xI cy ((M 4)) 273 res] := by
  refine zk_start zn_X8 (Nat.le_of_ble_eq_true rfl) ?_
  intro p e s m args below meth c A ls Q C hr hQ hw hl
  have C : zCx p m c s args meth cX8_keep 3 RX8 G cy tt A := C
  have hx := C.1.1
  have hb := C.1.2.1
  have hl : lv_has ls 3 [(0, .ref ((M 0))), (1, .int x1)] := hl
  have J2 : ∀ (n : Nat), ∀ (v1 : Int32) (v2 : Int32) (b_minds : Nat → Int32) (H : Heap) (locs : List Loc) (ls : Array Slot), zf_X8_keep_2 b_now n v1 v2 b_minds = some res → zWd G A s.heap H locs [xM M b_isKept b_size b_at b_from b_sort b_fled b_flights b_firstFlight b_bestHarms b_bestRage b_harmed b_raged, xI cy ((M 2)) 39 b_now, xI cy ((M 4)) 273 b_minds] → lv_has ls 3 [(0, .ref ((M 0))), (1, .int v1), (2, .int v2)] → W p l e zr_X8_keep s m args below meth c H locs 0 0 Q (F0 m 2 ls []) := by
    intro n
    induction n with
    | zero =>
      intro v1 v2 b_minds H locs ls hf hw hl
      rw [zf_X8_keep_2] at hf
      cases hf
    | succ n ih =>
      intro v1 v2 b_minds H locs ls hf hw hl
      rw [zf_X8_keep_2] at hf
      refine lv_iload_n (pc := 2) hx hb dX8_keep_2 rfl (lv_at hl 2 rfl) ?_
      refine lv_bipush (pc := 3) (v := 39) hx hb dX8_keep_3 (by decide) ?_
      refine lv_icmp_ge (pc := 5) (tgt := 31) hx hb dX8_keep_5 (by decide) (fun q1 => ?_) (fun q1 => ?_)
      · replace hf := if_t q1 hf
        have hf := Option.some.inj hf
        subst hf
        exact zk_retv (pc := 31) (ww := [xM M b_isKept b_size b_at b_from b_sort b_fled b_flights b_firstFlight b_bestHarms b_bestRage b_harmed b_raged, xI cy ((M 2)) 39 b_now, xI cy ((M 4)) 273 b_minds]) C hw hr hQ dX8_keep_31
      · replace hf := if_f q1 hf
        refine lv_aload_n (pc := 8) hx hb dX8_keep_8 rfl (lv_at hl 0 rfl) ?_
        refine zk_gt (pc := 9) C hw zl_X8_23 0 rfl rfl dX8_keep_9 ?_
        refine lv_bipush (pc := 12) (v := 39) hx hb dX8_keep_12 (by decide) ?_
        refine lv_iload_n (pc := 14) hx hb dX8_keep_14 rfl (lv_at hl 1 rfl) ?_
        refine lv_imul (pc := 15) hx hb dX8_keep_15 ?_
        refine lv_iload_n (pc := 16) hx hb dX8_keep_16 rfl (lv_at hl 2 rfl) ?_
        refine lv_iadd (pc := 17) hx hb dX8_keep_17 ?_
        refine lv_aload_n (pc := 18) hx hb dX8_keep_18 rfl (lv_at hl 0 rfl) ?_
        refine zk_gt (pc := 19) C hw zl_X8_17 0 rfl rfl dX8_keep_19 ?_
        refine lv_iload_n (pc := 22) hx hb dX8_keep_22 rfl (lv_at hl 2 rfl) ?_
        obtain ⟨q2, hf⟩ := ck hf
        refine zk_iald (pc := 23) C hw 1 rfl q2 dX8_keep_23 ?_
        obtain ⟨q3, hf⟩ := ck hf
        refine zk_iast (pc := 24) (w' := [xM M b_isKept b_size b_at b_from b_sort b_fled b_flights b_firstFlight b_bestHarms b_bestRage b_harmed b_raged, xI cy ((M 2)) 39 b_now, xI cy ((M 4)) 273 ((upd b_minds (((((39 : Int32) * v1) + v2)).toNatClampNeg) ((b_now v2.toNatClampNeg))))]) C hw 2 rfl q3 rfl dX8_keep_24 (fun H locs hw => ?_)
        refine lv_iinc (pc := 25) (v := (v2 + 1)) (lv' := [(2, .int ((v2 + 1))), (0, .ref ((M 0))), (1, .int v1)]) hx hb dX8_keep_25 hl (k := 2) rfl rfl (by decide) rfl (fun ls hl => ?_)
        refine lv_goto (pc := 28) (tgt := 2) hx hb dX8_keep_28 (by decide) ?_
        exact ih v1 ((v2 + 1)) ((upd b_minds (((((39 : Int32) * v1) + v2)).toNatClampNeg) ((b_now v2.toNatClampNeg)))) _ _ _ hf hw (lv_sub hl [1, 2, 0] rfl)
  rw [zf_X8_keep] at hf
  refine lv_iconst (pc := 0) (v := 0) hx hb dX8_keep_0 (by decide) ?_
  refine lv_istore_n (pc := 1) (lv' := [(2, .int ((0 : Int32))), (0, .ref ((M 0))), (1, .int x1)]) hx hb dX8_keep_1 rfl hl (by decide) rfl (fun ls hl => ?_)
  exact J2 FU x1 ((0 : Int32)) b_minds _ _ _ hf hw (lv_sub hl [1, 2, 0] rfl)
def zf_X8_lay_2 (b_minds : Nat → Int32) : Nat → Int32 → Int32 → (Nat → Int32) → Option ((Nat → Int32))
  | 0, _, _, _ => none
  | n + 1, v1, v2, b_now => (if (39 : Int32) ≤ v2 then some (b_now) else (if ix ((((39 : Int32) * v1) + v2)) 273 then (if ix v2 39 then zf_X8_lay_2 b_minds n v1 ((v2 + 1)) ((upd b_now v2.toNatClampNeg ((b_minds ((((39 : Int32) * v1) + v2)).toNatClampNeg)))) else none) else none))
def zf_X8_lay (x1 : Int32) (b_now : Nat → Int32) (b_minds : Nat → Int32) : Option ((Nat → Int32)) := zf_X8_lay_2 b_minds FU x1 ((0 : Int32)) b_now
abbrev zr_X8_lay : Room := { frames := 0, cells := 0, slots := 0, locals := 0 }
set_option maxHeartbeats 4000000 in
set_option maxRecDepth 100000 in
theorem c_X8_lay (l : Launch) (G : va_G) (cy : Nat → ClassId) (tt : Nat → Nat) (M : Nat → Nat) (b_isKept : Bool) (b_size : Int32) (b_at : Int32) (b_from : Int32) (b_sort : Int32) (b_fled : Bool) (b_flights : Int32) (b_firstFlight : Int32) (b_bestHarms : Int32) (b_bestRage : Int32) (b_harmed : Int64) (b_raged : Int64) (x1 : Int32) (b_now : Nat → Int32) (b_minds : Nat → Int32) (res : (Nat → Int32)) (hf : zf_X8_lay x1 b_now b_minds = some res) : zCT l yX8_lay cX8_lay 3 none zr_X8_lay G cy tt [.ref ((M 0)), .int x1] [xM M b_isKept b_size b_at b_from b_sort b_fled b_flights b_firstFlight b_bestHarms b_bestRage b_harmed b_raged, xI cy ((M 2)) 39 b_now, xI cy ((M 4)) 273 b_minds] none [xM M b_isKept b_size b_at b_from b_sort b_fled b_flights b_firstFlight b_bestHarms b_bestRage b_harmed b_raged, xI cy ((M 2)) 39 res, xI cy ((M 4)) 273 b_minds] := by
  refine zk_start zn_X8 (Nat.le_of_ble_eq_true rfl) ?_
  intro p e s m args below meth c A ls Q C hr hQ hw hl
  have C : zCx p m c s args meth cX8_lay 3 RX8 G cy tt A := C
  have hx := C.1.1
  have hb := C.1.2.1
  have hl : lv_has ls 3 [(0, .ref ((M 0))), (1, .int x1)] := hl
  have J2 : ∀ (n : Nat), ∀ (v1 : Int32) (v2 : Int32) (b_now : Nat → Int32) (H : Heap) (locs : List Loc) (ls : Array Slot), zf_X8_lay_2 b_minds n v1 v2 b_now = some res → zWd G A s.heap H locs [xM M b_isKept b_size b_at b_from b_sort b_fled b_flights b_firstFlight b_bestHarms b_bestRage b_harmed b_raged, xI cy ((M 2)) 39 b_now, xI cy ((M 4)) 273 b_minds] → lv_has ls 3 [(0, .ref ((M 0))), (1, .int v1), (2, .int v2)] → W p l e zr_X8_lay s m args below meth c H locs 0 0 Q (F0 m 2 ls []) := by
    intro n
    induction n with
    | zero =>
      intro v1 v2 b_now H locs ls hf hw hl
      rw [zf_X8_lay_2] at hf
      cases hf
    | succ n ih =>
      intro v1 v2 b_now H locs ls hf hw hl
      rw [zf_X8_lay_2] at hf
      refine lv_iload_n (pc := 2) hx hb dX8_lay_2 rfl (lv_at hl 2 rfl) ?_
      refine lv_bipush (pc := 3) (v := 39) hx hb dX8_lay_3 (by decide) ?_
      refine lv_icmp_ge (pc := 5) (tgt := 31) hx hb dX8_lay_5 (by decide) (fun q1 => ?_) (fun q1 => ?_)
      · replace hf := if_t q1 hf
        have hf := Option.some.inj hf
        subst hf
        exact zk_retv (pc := 31) (ww := [xM M b_isKept b_size b_at b_from b_sort b_fled b_flights b_firstFlight b_bestHarms b_bestRage b_harmed b_raged, xI cy ((M 2)) 39 b_now, xI cy ((M 4)) 273 b_minds]) C hw hr hQ dX8_lay_31
      · replace hf := if_f q1 hf
        refine lv_aload_n (pc := 8) hx hb dX8_lay_8 rfl (lv_at hl 0 rfl) ?_
        refine zk_gt (pc := 9) C hw zl_X8_17 0 rfl rfl dX8_lay_9 ?_
        refine lv_iload_n (pc := 12) hx hb dX8_lay_12 rfl (lv_at hl 2 rfl) ?_
        refine lv_aload_n (pc := 13) hx hb dX8_lay_13 rfl (lv_at hl 0 rfl) ?_
        refine zk_gt (pc := 14) C hw zl_X8_23 0 rfl rfl dX8_lay_14 ?_
        refine lv_bipush (pc := 17) (v := 39) hx hb dX8_lay_17 (by decide) ?_
        refine lv_iload_n (pc := 19) hx hb dX8_lay_19 rfl (lv_at hl 1 rfl) ?_
        refine lv_imul (pc := 20) hx hb dX8_lay_20 ?_
        refine lv_iload_n (pc := 21) hx hb dX8_lay_21 rfl (lv_at hl 2 rfl) ?_
        refine lv_iadd (pc := 22) hx hb dX8_lay_22 ?_
        obtain ⟨q2, hf⟩ := ck hf
        refine zk_iald (pc := 23) C hw 2 rfl q2 dX8_lay_23 ?_
        obtain ⟨q3, hf⟩ := ck hf
        refine zk_iast (pc := 24) (w' := [xM M b_isKept b_size b_at b_from b_sort b_fled b_flights b_firstFlight b_bestHarms b_bestRage b_harmed b_raged, xI cy ((M 2)) 39 ((upd b_now v2.toNatClampNeg ((b_minds ((((39 : Int32) * v1) + v2)).toNatClampNeg)))), xI cy ((M 4)) 273 b_minds]) C hw 1 rfl q3 rfl dX8_lay_24 (fun H locs hw => ?_)
        refine lv_iinc (pc := 25) (v := (v2 + 1)) (lv' := [(2, .int ((v2 + 1))), (0, .ref ((M 0))), (1, .int v1)]) hx hb dX8_lay_25 hl (k := 2) rfl rfl (by decide) rfl (fun ls hl => ?_)
        refine lv_goto (pc := 28) (tgt := 2) hx hb dX8_lay_28 (by decide) ?_
        exact ih v1 ((v2 + 1)) ((upd b_now v2.toNatClampNeg ((b_minds ((((39 : Int32) * v1) + v2)).toNatClampNeg)))) _ _ _ hf hw (lv_sub hl [1, 2, 0] rfl)
  rw [zf_X8_lay] at hf
  refine lv_iconst (pc := 0) (v := 0) hx hb dX8_lay_0 (by decide) ?_
  refine lv_istore_n (pc := 1) (lv' := [(2, .int ((0 : Int32))), (0, .ref ((M 0))), (1, .int x1)]) hx hb dX8_lay_1 rfl hl (by decide) rfl (fun ls hl => ?_)
  exact J2 FU x1 ((0 : Int32)) b_now _ _ _ hf hw (lv_sub hl [1, 2, 0] rfl)
def zf_X8_many  (b_now : Nat → Int32) : Option (Int32) := some ((b_now 32))
abbrev zr_X8_many : Room := { frames := 0, cells := 0, slots := 0, locals := 0 }
set_option maxHeartbeats 4000000 in
set_option maxRecDepth 100000 in
theorem c_X8_many (l : Launch) (G : va_G) (cy : Nat → ClassId) (tt : Nat → Nat) (M : Nat → Nat) (b_isKept : Bool) (b_size : Int32) (b_at : Int32) (b_from : Int32) (b_sort : Int32) (b_fled : Bool) (b_flights : Int32) (b_firstFlight : Int32) (b_bestHarms : Int32) (b_bestRage : Int32) (b_harmed : Int64) (b_raged : Int64)  (b_now : Nat → Int32) (res : Int32) (hf : zf_X8_many b_now = some res) : zCT l yX8_many cX8_many 1 (some .int) zr_X8_many G cy tt [.ref ((M 0))] [xM M b_isKept b_size b_at b_from b_sort b_fled b_flights b_firstFlight b_bestHarms b_bestRage b_harmed b_raged, xI cy ((M 2)) 39 b_now] (some (.int res)) [xM M b_isKept b_size b_at b_from b_sort b_fled b_flights b_firstFlight b_bestHarms b_bestRage b_harmed b_raged, xI cy ((M 2)) 39 b_now] := by
  refine zk_start zn_X8 (Nat.le_of_ble_eq_true rfl) ?_
  intro p e s m args below meth c A ls Q C hr hQ hw hl
  have C : zCx p m c s args meth cX8_many 1 RX8 G cy tt A := C
  have hx := C.1.1
  have hb := C.1.2.1
  have hl : lv_has ls 1 [(0, .ref ((M 0)))] := hl
  rw [zf_X8_many] at hf
  refine lv_aload_n (pc := 0) hx hb dX8_many_0 rfl (lv_at hl 0 rfl) ?_
  refine zk_gt (pc := 1) C hw zl_X8_17 0 rfl rfl dX8_many_1 ?_
  refine lv_bipush (pc := 4) (v := 32) hx hb dX8_many_4 (by decide) ?_
  refine zk_ialdK (pc := 6) 32 (by decide) C hw 1 rfl (by decide) dX8_many_6 ?_
  have hf := Option.some.inj hf
  subst hf
  exact zk_reti (pc := 7) (ww := [xM M b_isKept b_size b_at b_from b_sort b_fled b_flights b_firstFlight b_bestHarms b_bestRage b_harmed b_raged, xI cy ((M 2)) 39 b_now]) C hw hr hQ dX8_many_7
def zf_X8_isKeeper (x1 : Int64) (b_now : Nat → Int32) : Option (Bool) := (Option.bind (zf_X8_isIn x1 (((0 : Int64))) (((((b_now 32) - (1 : Int32))).toInt64))) (fun u1 => some (u1)))
abbrev zr_X8_isKeeper : Room := { frames := 1, cells := 0, slots := 0, locals := 25 }
set_option maxHeartbeats 4000000 in
set_option maxRecDepth 100000 in
theorem c_X8_isKeeper (l : Launch) (G : va_G) (cy : Nat → ClassId) (tt : Nat → Nat) (M : Nat → Nat) (b_isKept : Bool) (b_size : Int32) (b_at : Int32) (b_from : Int32) (b_sort : Int32) (b_fled : Bool) (b_flights : Int32) (b_firstFlight : Int32) (b_bestHarms : Int32) (b_bestRage : Int32) (b_harmed : Int64) (b_raged : Int64) (x1 : Int64) (b_now : Nat → Int32) (res : Bool) (hf : zf_X8_isKeeper x1 b_now = some res) : zCT l yX8_isKeeper cX8_isKeeper 3 (some .boolean) zr_X8_isKeeper G cy tt [.ref ((M 0)), .long x1] [xM M b_isKept b_size b_at b_from b_sort b_fled b_flights b_firstFlight b_bestHarms b_bestRage b_harmed b_raged, xI cy ((M 2)) 39 b_now] (some (.int (bI res))) [xM M b_isKept b_size b_at b_from b_sort b_fled b_flights b_firstFlight b_bestHarms b_bestRage b_harmed b_raged, xI cy ((M 2)) 39 b_now] := by
  refine zk_start zn_X8 (Nat.le_of_ble_eq_true rfl) ?_
  intro p e s m args below meth c A ls Q C hr hQ hw hl
  have C : zCx p m c s args meth cX8_isKeeper 3 RX8 G cy tt A := C
  have hx := C.1.1
  have hb := C.1.2.1
  have hl : lv_has ls 3 [(0, .ref ((M 0))), (1, .long x1)] := hl
  rw [zf_X8_isKeeper] at hf
  refine lv_lload_n (pc := 0) hx hb dX8_isKeeper_0 rfl (lv_at hl 1 rfl) ?_
  refine lv_lconst (pc := 1) (v := 0) hx hb dX8_isKeeper_1 (by decide) ?_
  refine lv_aload_n (pc := 2) hx hb dX8_isKeeper_2 rfl (lv_at hl 0 rfl) ?_
  refine zk_gt (pc := 3) C hw zl_X8_17 0 rfl rfl dX8_isKeeper_3 ?_
  refine lv_bipush (pc := 6) (v := 32) hx hb dX8_isKeeper_6 (by decide) ?_
  refine zk_ialdK (pc := 8) 32 (by decide) C hw 1 rfl (by decide) dX8_isKeeper_8 ?_
  refine lv_iconst (pc := 9) (v := 1) hx hb dX8_isKeeper_9 (by decide) ?_
  refine lv_isub (pc := 10) hx hb dX8_isKeeper_10 ?_
  refine lv_i2l (pc := 11) (v := (((b_now 32) - (1 : Int32))).toInt64) hx hb dX8_isKeeper_11 rfl ?_
  obtain ⟨u1, u1e, hf⟩ := bd hf
  refine zk_cS (pc := 12) (rest := []) (st1 := [.int (bI u1)]) (w' := [xM M b_isKept b_size b_at b_from b_sort b_fled b_flights b_firstFlight b_bestHarms b_bestRage b_harmed b_raged, xI cy ((M 2)) 39 b_now]) (mk := [none, none]) C hw (c_X8_isIn l G cy tt x1 (((0 : Int64))) (((((b_now 32) - (1 : Int32))).toInt64)) _ u1e) zy_X8_isIn zm_X8_68 [] rfl rfl rfl rfl rfl rfl rfl rfl hl.1 ⟨rfl, rfl⟩ ⟨Nat.le_of_ble_eq_true rfl, Nat.le_of_ble_eq_true rfl⟩ rfl (Nat.le_of_ble_eq_true rfl) ⟨Nat.zero_le _, Nat.zero_le _⟩ dX8_isKeeper_12 (fun H locs hw => ?_)
  have hf := Option.some.inj hf
  subst hf
  exact zk_retz (pc := 15) (b := u1) (ww := [xM M b_isKept b_size b_at b_from b_sort b_fled b_flights b_firstFlight b_bestHarms b_bestRage b_harmed b_raged, xI cy ((M 2)) 39 b_now]) C hw hr hQ dX8_isKeeper_15
def zf_X8_isOrder_24 (b_now : Nat → Int32) : Option (Bool) := some (true)
def zf_X8_isOrder (x1 : Int64) (b_now : Nat → Int32) : Option (Bool) := (if (lg_cmp x1 ((-1 : Int64))) = 0 then zf_X8_isOrder_24 b_now  else (if (lg_cmp x1 ((10 : Int64))) = 0 then zf_X8_isOrder_24 b_now  else (Option.bind (zf_X8_isKeeper x1 b_now) (fun u3 => (if u3 then zf_X8_isOrder_24 b_now  else some (false))))))
abbrev zr_X8_isOrder : Room := { frames := 2, cells := 0, slots := 0, locals := 47 }
set_option maxHeartbeats 4000000 in
set_option maxRecDepth 100000 in
theorem c_X8_isOrder (l : Launch) (G : va_G) (cy : Nat → ClassId) (tt : Nat → Nat) (M : Nat → Nat) (b_isKept : Bool) (b_size : Int32) (b_at : Int32) (b_from : Int32) (b_sort : Int32) (b_fled : Bool) (b_flights : Int32) (b_firstFlight : Int32) (b_bestHarms : Int32) (b_bestRage : Int32) (b_harmed : Int64) (b_raged : Int64) (x1 : Int64) (b_now : Nat → Int32) (res : Bool) (hf : zf_X8_isOrder x1 b_now = some res) : zCT l yX8_isOrder cX8_isOrder 3 (some .boolean) zr_X8_isOrder G cy tt [.ref ((M 0)), .long x1] [xM M b_isKept b_size b_at b_from b_sort b_fled b_flights b_firstFlight b_bestHarms b_bestRage b_harmed b_raged, xI cy ((M 2)) 39 b_now] (some (.int (bI res))) [xM M b_isKept b_size b_at b_from b_sort b_fled b_flights b_firstFlight b_bestHarms b_bestRage b_harmed b_raged, xI cy ((M 2)) 39 b_now] := by
  refine zk_start zn_X8 (Nat.le_of_ble_eq_true rfl) ?_
  intro p e s m args below meth c A ls Q C hr hQ hw hl
  have C : zCx p m c s args meth cX8_isOrder 3 RX8 G cy tt A := C
  have hx := C.1.1
  have hb := C.1.2.1
  have hl : lv_has ls 3 [(0, .ref ((M 0))), (1, .long x1)] := hl
  have J24 : ∀ (H : Heap) (locs : List Loc) (ls : Array Slot), zf_X8_isOrder_24 b_now = some res → zWd G A s.heap H locs [xM M b_isKept b_size b_at b_from b_sort b_fled b_flights b_firstFlight b_bestHarms b_bestRage b_harmed b_raged, xI cy ((M 2)) 39 b_now] → lv_has ls 3 [] → W p l e zr_X8_isOrder s m args below meth c H locs 0 0 Q (F0 m 24 ls []) := by
    intro H locs ls hf hw hl
    rw [zf_X8_isOrder_24] at hf
    refine lv_iconst (pc := 24) (v := 1) hx hb dX8_isOrder_24 (by decide) ?_
    refine lv_goto (pc := 25) (tgt := 29) hx hb dX8_isOrder_25 (by decide) ?_
    have hf := Option.some.inj hf
    subst hf
    exact zk_retz (pc := 29) (b := true) (ww := [xM M b_isKept b_size b_at b_from b_sort b_fled b_flights b_firstFlight b_bestHarms b_bestRage b_harmed b_raged, xI cy ((M 2)) 39 b_now]) C hw hr hQ dX8_isOrder_29
  rw [zf_X8_isOrder] at hf
  refine lv_lload_n (pc := 0) hx hb dX8_isOrder_0 rfl (lv_at hl 1 rfl) ?_
  refine lv_ldc2 (pc := 1) (v := -1) hx hb C.1.2.2.2.1 (C.1.2.2.2.2 _ zc_X8_72) dX8_isOrder_1 ?_
  refine W.lcmp (pc := 4) hx hb dX8_isOrder_4 ?_
  refine lv_if_eq (pc := 5) (tgt := 24) hx hb dX8_isOrder_5 (by decide) (fun q1 => ?_) (fun q1 => ?_)
  · replace hf := if_t q1 hf
    exact J24  _ _ _ hf hw (lv_sub hl [] rfl)
  · replace hf := if_f q1 hf
    refine lv_lload_n (pc := 8) hx hb dX8_isOrder_8 rfl (lv_at hl 1 rfl) ?_
    refine lv_ldc2 (pc := 9) (v := 10) hx hb C.1.2.2.2.1 (C.1.2.2.2.2 _ zc_X8_74) dX8_isOrder_9 ?_
    refine W.lcmp (pc := 12) hx hb dX8_isOrder_12 ?_
    refine lv_if_eq (pc := 13) (tgt := 24) hx hb dX8_isOrder_13 (by decide) (fun q2 => ?_) (fun q2 => ?_)
    · replace hf := if_t q2 hf
      exact J24  _ _ _ hf hw (lv_sub hl [] rfl)
    · replace hf := if_f q2 hf
      refine lv_aload_n (pc := 16) hx hb dX8_isOrder_16 rfl (lv_at hl 0 rfl) ?_
      refine lv_lload_n (pc := 17) hx hb dX8_isOrder_17 rfl (lv_at hl 1 rfl) ?_
      obtain ⟨u3, u3e, hf⟩ := bd hf
      refine zk_cV (pc := 18) (ci := 8) (q0 := 0) (rest := []) (st1 := [.int (bI u3)]) (w' := [xM M b_isKept b_size b_at b_from b_sort b_fled b_flights b_firstFlight b_bestHarms b_bestRage b_harmed b_raged, xI cy ((M 2)) 39 b_now]) (mk := [none, none]) C hw (c_X8_isKeeper l G cy tt M b_isKept b_size b_at b_from b_sort b_fled b_flights b_firstFlight b_bestHarms b_bestRage b_harmed b_raged x1 b_now _ u3e) zy_X8_isKeeper zm_X8_76 rfl rfl rfl [0, 1] rfl rfl rfl rfl rfl rfl rfl rfl hl.1 ⟨rfl, rfl⟩ ⟨Nat.le_of_ble_eq_true rfl, Nat.le_of_ble_eq_true rfl⟩ rfl (Nat.le_of_ble_eq_true rfl) ⟨Nat.zero_le _, Nat.zero_le _⟩ dX8_isOrder_18 (fun H locs hw => ?_)
      refine zk_ifz (pc := 21) (tgt := 28) hx hb dX8_isOrder_21 (by decide) (fun q4 => ?_) (fun q4 => ?_)
      · replace hf := if_f q4 hf
        refine lv_iconst (pc := 28) (v := 0) hx hb dX8_isOrder_28 (by decide) ?_
        have hf := Option.some.inj hf
        subst hf
        exact zk_retz (pc := 29) (b := false) (ww := [xM M b_isKept b_size b_at b_from b_sort b_fled b_flights b_firstFlight b_bestHarms b_bestRage b_harmed b_raged, xI cy ((M 2)) 39 b_now]) C hw hr hQ dX8_isOrder_29
      · replace hf := if_t q4 hf
        exact J24  _ _ _ hf hw (lv_sub hl [] rfl)
def zf_X8_orderAt (x1 : Int32) (b_now : Nat → Int32) : Option (Int32) := (Option.bind (zf_X8_many b_now) (fun u1 => (if x1 = (u1 + (1 : Int32)) then some ((10 : Int32)) else some ((x1 - (1 : Int32))))))
abbrev zr_X8_orderAt : Room := { frames := 1, cells := 0, slots := 0, locals := 20 }
set_option maxHeartbeats 4000000 in
set_option maxRecDepth 100000 in
theorem c_X8_orderAt (l : Launch) (G : va_G) (cy : Nat → ClassId) (tt : Nat → Nat) (M : Nat → Nat) (b_isKept : Bool) (b_size : Int32) (b_at : Int32) (b_from : Int32) (b_sort : Int32) (b_fled : Bool) (b_flights : Int32) (b_firstFlight : Int32) (b_bestHarms : Int32) (b_bestRage : Int32) (b_harmed : Int64) (b_raged : Int64) (x1 : Int32) (b_now : Nat → Int32) (res : Int32) (hf : zf_X8_orderAt x1 b_now = some res) : zCT l yX8_orderAt cX8_orderAt 2 (some .int) zr_X8_orderAt G cy tt [.ref ((M 0)), .int x1] [xM M b_isKept b_size b_at b_from b_sort b_fled b_flights b_firstFlight b_bestHarms b_bestRage b_harmed b_raged, xI cy ((M 2)) 39 b_now] (some (.int res)) [xM M b_isKept b_size b_at b_from b_sort b_fled b_flights b_firstFlight b_bestHarms b_bestRage b_harmed b_raged, xI cy ((M 2)) 39 b_now] := by
  refine zk_start zn_X8 (Nat.le_of_ble_eq_true rfl) ?_
  intro p e s m args below meth c A ls Q C hr hQ hw hl
  have C : zCx p m c s args meth cX8_orderAt 2 RX8 G cy tt A := C
  have hx := C.1.1
  have hb := C.1.2.1
  have hl : lv_has ls 2 [(0, .ref ((M 0))), (1, .int x1)] := hl
  rw [zf_X8_orderAt] at hf
  refine lv_iload_n (pc := 0) hx hb dX8_orderAt_0 rfl (lv_at hl 1 rfl) ?_
  refine lv_aload_n (pc := 1) hx hb dX8_orderAt_1 rfl (lv_at hl 0 rfl) ?_
  obtain ⟨u1, u1e, hf⟩ := bd hf
  refine zk_cV (pc := 2) (ci := 8) (q0 := 0) (rest := [.int x1]) (st1 := [.int u1, .int x1]) (w' := [xM M b_isKept b_size b_at b_from b_sort b_fled b_flights b_firstFlight b_bestHarms b_bestRage b_harmed b_raged, xI cy ((M 2)) 39 b_now]) (mk := [none, none]) C hw (c_X8_many l G cy tt M b_isKept b_size b_at b_from b_sort b_fled b_flights b_firstFlight b_bestHarms b_bestRage b_harmed b_raged b_now _ u1e) zy_X8_many zm_X8_80 rfl rfl rfl [0, 1] rfl rfl rfl rfl rfl rfl rfl rfl hl.1 ⟨rfl, rfl⟩ ⟨Nat.le_of_ble_eq_true rfl, Nat.le_of_ble_eq_true rfl⟩ rfl (Nat.le_of_ble_eq_true rfl) ⟨Nat.zero_le _, Nat.zero_le _⟩ dX8_orderAt_2 (fun H locs hw => ?_)
  refine lv_iconst (pc := 5) (v := 1) hx hb dX8_orderAt_5 (by decide) ?_
  refine lv_iadd (pc := 6) hx hb dX8_orderAt_6 ?_
  refine lv_icmp_ne (pc := 7) (tgt := 15) hx hb dX8_orderAt_7 (by decide) (fun q2 => ?_) (fun q2 => ?_)
  · replace hf := if_f q2 hf
    refine lv_iload_n (pc := 15) hx hb dX8_orderAt_15 rfl (lv_at hl 1 rfl) ?_
    refine lv_iconst (pc := 16) (v := 1) hx hb dX8_orderAt_16 (by decide) ?_
    refine lv_isub (pc := 17) hx hb dX8_orderAt_17 ?_
    have hf := Option.some.inj hf
    subst hf
    exact zk_reti (pc := 18) (ww := [xM M b_isKept b_size b_at b_from b_sort b_fled b_flights b_firstFlight b_bestHarms b_bestRage b_harmed b_raged, xI cy ((M 2)) 39 b_now]) C hw hr hQ dX8_orderAt_18
  · replace hf := if_t q2 hf
    refine lv_bipush (pc := 10) (v := 10) hx hb dX8_orderAt_10 (by decide) ?_
    refine lv_goto (pc := 12) (tgt := 18) hx hb dX8_orderAt_12 (by decide) ?_
    have hf := Option.some.inj hf
    subst hf
    exact zk_reti (pc := 18) (ww := [xM M b_isKept b_size b_at b_from b_sort b_fled b_flights b_firstFlight b_bestHarms b_bestRage b_harmed b_raged, xI cy ((M 2)) 39 b_now]) C hw hr hQ dX8_orderAt_18
def zf_X8_kind (x1 : Int32) (b_now : Nat → Int32) : Option (Int32) := (if ix (((4 : Int32) * x1)) 39 then some ((b_now (((4 : Int32) * x1)).toNatClampNeg)) else none)
abbrev zr_X8_kind : Room := { frames := 0, cells := 0, slots := 0, locals := 0 }
set_option maxHeartbeats 4000000 in
set_option maxRecDepth 100000 in
theorem c_X8_kind (l : Launch) (G : va_G) (cy : Nat → ClassId) (tt : Nat → Nat) (M : Nat → Nat) (b_isKept : Bool) (b_size : Int32) (b_at : Int32) (b_from : Int32) (b_sort : Int32) (b_fled : Bool) (b_flights : Int32) (b_firstFlight : Int32) (b_bestHarms : Int32) (b_bestRage : Int32) (b_harmed : Int64) (b_raged : Int64) (x1 : Int32) (b_now : Nat → Int32) (res : Int32) (hf : zf_X8_kind x1 b_now = some res) : zCT l yX8_kind cX8_kind 2 (some .int) zr_X8_kind G cy tt [.ref ((M 0)), .int x1] [xM M b_isKept b_size b_at b_from b_sort b_fled b_flights b_firstFlight b_bestHarms b_bestRage b_harmed b_raged, xI cy ((M 2)) 39 b_now] (some (.int res)) [xM M b_isKept b_size b_at b_from b_sort b_fled b_flights b_firstFlight b_bestHarms b_bestRage b_harmed b_raged, xI cy ((M 2)) 39 b_now] := by
  refine zk_start zn_X8 (Nat.le_of_ble_eq_true rfl) ?_
  intro p e s m args below meth c A ls Q C hr hQ hw hl
  have C : zCx p m c s args meth cX8_kind 2 RX8 G cy tt A := C
  have hx := C.1.1
  have hb := C.1.2.1
  have hl : lv_has ls 2 [(0, .ref ((M 0))), (1, .int x1)] := hl
  rw [zf_X8_kind] at hf
  refine lv_aload_n (pc := 0) hx hb dX8_kind_0 rfl (lv_at hl 0 rfl) ?_
  refine zk_gt (pc := 1) C hw zl_X8_17 0 rfl rfl dX8_kind_1 ?_
  refine lv_iconst (pc := 4) (v := 4) hx hb dX8_kind_4 (by decide) ?_
  refine lv_iload_n (pc := 5) hx hb dX8_kind_5 rfl (lv_at hl 1 rfl) ?_
  refine lv_imul (pc := 6) hx hb dX8_kind_6 ?_
  obtain ⟨q1, hf⟩ := ck hf
  refine zk_iald (pc := 7) C hw 1 rfl q1 dX8_kind_7 ?_
  have hf := Option.some.inj hf
  subst hf
  exact zk_reti (pc := 8) (ww := [xM M b_isKept b_size b_at b_from b_sort b_fled b_flights b_firstFlight b_bestHarms b_bestRage b_harmed b_raged, xI cy ((M 2)) 39 b_now]) C hw hr hQ dX8_kind_8
def zf_X8_a (x1 : Int32) (b_now : Nat → Int32) : Option (Int32) := (if ix ((((4 : Int32) * x1) + (1 : Int32))) 39 then some ((b_now ((((4 : Int32) * x1) + (1 : Int32))).toNatClampNeg)) else none)
abbrev zr_X8_a : Room := { frames := 0, cells := 0, slots := 0, locals := 0 }
set_option maxHeartbeats 4000000 in
set_option maxRecDepth 100000 in
theorem c_X8_a (l : Launch) (G : va_G) (cy : Nat → ClassId) (tt : Nat → Nat) (M : Nat → Nat) (b_isKept : Bool) (b_size : Int32) (b_at : Int32) (b_from : Int32) (b_sort : Int32) (b_fled : Bool) (b_flights : Int32) (b_firstFlight : Int32) (b_bestHarms : Int32) (b_bestRage : Int32) (b_harmed : Int64) (b_raged : Int64) (x1 : Int32) (b_now : Nat → Int32) (res : Int32) (hf : zf_X8_a x1 b_now = some res) : zCT l yX8_a cX8_a 2 (some .int) zr_X8_a G cy tt [.ref ((M 0)), .int x1] [xM M b_isKept b_size b_at b_from b_sort b_fled b_flights b_firstFlight b_bestHarms b_bestRage b_harmed b_raged, xI cy ((M 2)) 39 b_now] (some (.int res)) [xM M b_isKept b_size b_at b_from b_sort b_fled b_flights b_firstFlight b_bestHarms b_bestRage b_harmed b_raged, xI cy ((M 2)) 39 b_now] := by
  refine zk_start zn_X8 (Nat.le_of_ble_eq_true rfl) ?_
  intro p e s m args below meth c A ls Q C hr hQ hw hl
  have C : zCx p m c s args meth cX8_a 2 RX8 G cy tt A := C
  have hx := C.1.1
  have hb := C.1.2.1
  have hl : lv_has ls 2 [(0, .ref ((M 0))), (1, .int x1)] := hl
  rw [zf_X8_a] at hf
  refine lv_aload_n (pc := 0) hx hb dX8_a_0 rfl (lv_at hl 0 rfl) ?_
  refine zk_gt (pc := 1) C hw zl_X8_17 0 rfl rfl dX8_a_1 ?_
  refine lv_iconst (pc := 4) (v := 4) hx hb dX8_a_4 (by decide) ?_
  refine lv_iload_n (pc := 5) hx hb dX8_a_5 rfl (lv_at hl 1 rfl) ?_
  refine lv_imul (pc := 6) hx hb dX8_a_6 ?_
  refine lv_iconst (pc := 7) (v := 1) hx hb dX8_a_7 (by decide) ?_
  refine lv_iadd (pc := 8) hx hb dX8_a_8 ?_
  obtain ⟨q1, hf⟩ := ck hf
  refine zk_iald (pc := 9) C hw 1 rfl q1 dX8_a_9 ?_
  have hf := Option.some.inj hf
  subst hf
  exact zk_reti (pc := 10) (ww := [xM M b_isKept b_size b_at b_from b_sort b_fled b_flights b_firstFlight b_bestHarms b_bestRage b_harmed b_raged, xI cy ((M 2)) 39 b_now]) C hw hr hQ dX8_a_10
def zf_X8_nerveOf (x1 : Int32) (b_now : Nat → Int32) : Option (Int32) := (if ix ((((4 : Int32) * x1) + (2 : Int32))) 39 then some ((b_now ((((4 : Int32) * x1) + (2 : Int32))).toNatClampNeg)) else none)
abbrev zr_X8_nerveOf : Room := { frames := 0, cells := 0, slots := 0, locals := 0 }
set_option maxHeartbeats 4000000 in
set_option maxRecDepth 100000 in
theorem c_X8_nerveOf (l : Launch) (G : va_G) (cy : Nat → ClassId) (tt : Nat → Nat) (M : Nat → Nat) (b_isKept : Bool) (b_size : Int32) (b_at : Int32) (b_from : Int32) (b_sort : Int32) (b_fled : Bool) (b_flights : Int32) (b_firstFlight : Int32) (b_bestHarms : Int32) (b_bestRage : Int32) (b_harmed : Int64) (b_raged : Int64) (x1 : Int32) (b_now : Nat → Int32) (res : Int32) (hf : zf_X8_nerveOf x1 b_now = some res) : zCT l yX8_nerveOf cX8_nerveOf 2 (some .int) zr_X8_nerveOf G cy tt [.ref ((M 0)), .int x1] [xM M b_isKept b_size b_at b_from b_sort b_fled b_flights b_firstFlight b_bestHarms b_bestRage b_harmed b_raged, xI cy ((M 2)) 39 b_now] (some (.int res)) [xM M b_isKept b_size b_at b_from b_sort b_fled b_flights b_firstFlight b_bestHarms b_bestRage b_harmed b_raged, xI cy ((M 2)) 39 b_now] := by
  refine zk_start zn_X8 (Nat.le_of_ble_eq_true rfl) ?_
  intro p e s m args below meth c A ls Q C hr hQ hw hl
  have C : zCx p m c s args meth cX8_nerveOf 2 RX8 G cy tt A := C
  have hx := C.1.1
  have hb := C.1.2.1
  have hl : lv_has ls 2 [(0, .ref ((M 0))), (1, .int x1)] := hl
  rw [zf_X8_nerveOf] at hf
  refine lv_aload_n (pc := 0) hx hb dX8_nerveOf_0 rfl (lv_at hl 0 rfl) ?_
  refine zk_gt (pc := 1) C hw zl_X8_17 0 rfl rfl dX8_nerveOf_1 ?_
  refine lv_iconst (pc := 4) (v := 4) hx hb dX8_nerveOf_4 (by decide) ?_
  refine lv_iload_n (pc := 5) hx hb dX8_nerveOf_5 rfl (lv_at hl 1 rfl) ?_
  refine lv_imul (pc := 6) hx hb dX8_nerveOf_6 ?_
  refine lv_iconst (pc := 7) (v := 2) hx hb dX8_nerveOf_7 (by decide) ?_
  refine lv_iadd (pc := 8) hx hb dX8_nerveOf_8 ?_
  obtain ⟨q1, hf⟩ := ck hf
  refine zk_iald (pc := 9) C hw 1 rfl q1 dX8_nerveOf_9 ?_
  have hf := Option.some.inj hf
  subst hf
  exact zk_reti (pc := 10) (ww := [xM M b_isKept b_size b_at b_from b_sort b_fled b_flights b_firstFlight b_bestHarms b_bestRage b_harmed b_raged, xI cy ((M 2)) 39 b_now]) C hw hr hQ dX8_nerveOf_10
def zf_X8_add (x1 : Int32) (x2 : Int32) (x3 : Int32) (b_now : Nat → Int32) : Option (Int32 × (Nat → Int32)) := (if ix (((4 : Int32) * (b_now 32))) 39 then (if ix ((((4 : Int32) * (b_now 32)) + (1 : Int32))) 39 then (if ix ((((4 : Int32) * (b_now 32)) + (2 : Int32))) 39 then (if ix ((((4 : Int32) * (b_now 32)) + (3 : Int32))) 39 then some ((b_now 32), (upd ((upd ((upd ((upd ((upd b_now ((((4 : Int32) * (b_now 32))).toNatClampNeg) x1)) (((((4 : Int32) * (b_now 32)) + (1 : Int32))).toNatClampNeg) x2)) (((((4 : Int32) * (b_now 32)) + (2 : Int32))).toNatClampNeg) x3)) (((((4 : Int32) * (b_now 32)) + (3 : Int32))).toNatClampNeg) ((0 : Int32)))) 32 (((((upd ((upd ((upd ((upd b_now ((((4 : Int32) * (b_now 32))).toNatClampNeg) x1)) (((((4 : Int32) * (b_now 32)) + (1 : Int32))).toNatClampNeg) x2)) (((((4 : Int32) * (b_now 32)) + (2 : Int32))).toNatClampNeg) x3)) (((((4 : Int32) * (b_now 32)) + (3 : Int32))).toNatClampNeg) ((0 : Int32)))) 32) + (1 : Int32))))) else none) else none) else none) else none)
abbrev zr_X8_add : Room := { frames := 0, cells := 0, slots := 0, locals := 0 }
set_option maxHeartbeats 4000000 in
set_option maxRecDepth 100000 in
theorem c_X8_add (l : Launch) (G : va_G) (cy : Nat → ClassId) (tt : Nat → Nat) (M : Nat → Nat) (b_isKept : Bool) (b_size : Int32) (b_at : Int32) (b_from : Int32) (b_sort : Int32) (b_fled : Bool) (b_flights : Int32) (b_firstFlight : Int32) (b_bestHarms : Int32) (b_bestRage : Int32) (b_harmed : Int64) (b_raged : Int64) (x1 : Int32) (x2 : Int32) (x3 : Int32) (b_now : Nat → Int32) (res : Int32 × (Nat → Int32)) (hf : zf_X8_add x1 x2 x3 b_now = some res) : zCT l yX8_add cX8_add 5 (some .int) zr_X8_add G cy tt [.ref ((M 0)), .int x1, .int x2, .int x3] [xM M b_isKept b_size b_at b_from b_sort b_fled b_flights b_firstFlight b_bestHarms b_bestRage b_harmed b_raged, xI cy ((M 2)) 39 b_now] (some (.int res.1)) [xM M b_isKept b_size b_at b_from b_sort b_fled b_flights b_firstFlight b_bestHarms b_bestRage b_harmed b_raged, xI cy ((M 2)) 39 res.2] := by
  refine zk_start zn_X8 (Nat.le_of_ble_eq_true rfl) ?_
  intro p e s m args below meth c A ls Q C hr hQ hw hl
  have C : zCx p m c s args meth cX8_add 5 RX8 G cy tt A := C
  have hx := C.1.1
  have hb := C.1.2.1
  have hl : lv_has ls 5 [(0, .ref ((M 0))), (1, .int x1), (2, .int x2), (3, .int x3)] := hl
  rw [zf_X8_add] at hf
  refine lv_aload_n (pc := 0) hx hb dX8_add_0 rfl (lv_at hl 0 rfl) ?_
  refine zk_gt (pc := 1) C hw zl_X8_17 0 rfl rfl dX8_add_1 ?_
  refine lv_bipush (pc := 4) (v := 32) hx hb dX8_add_4 (by decide) ?_
  refine zk_ialdK (pc := 6) 32 (by decide) C hw 1 rfl (by decide) dX8_add_6 ?_
  refine lv_istore (pc := 7) (lv' := [(4, .int ((b_now 32))), (0, .ref ((M 0))), (1, .int x1), (2, .int x2), (3, .int x3)]) hx hb dX8_add_7 hl (by decide) rfl (fun ls hl => ?_)
  refine lv_aload_n (pc := 9) hx hb dX8_add_9 rfl (lv_at hl 1 rfl) ?_
  refine zk_gt (pc := 10) C hw zl_X8_17 0 rfl rfl dX8_add_10 ?_
  refine lv_iconst (pc := 13) (v := 4) hx hb dX8_add_13 (by decide) ?_
  refine lv_iload (pc := 14) hx hb dX8_add_14 (lv_at hl 0 rfl) ?_
  refine lv_imul (pc := 16) hx hb dX8_add_16 ?_
  refine lv_iload_n (pc := 17) hx hb dX8_add_17 rfl (lv_at hl 2 rfl) ?_
  obtain ⟨q1, hf⟩ := ck hf
  refine zk_iast (pc := 18) (w' := [xM M b_isKept b_size b_at b_from b_sort b_fled b_flights b_firstFlight b_bestHarms b_bestRage b_harmed b_raged, xI cy ((M 2)) 39 ((upd b_now ((((4 : Int32) * (b_now 32))).toNatClampNeg) x1))]) C hw 1 rfl q1 rfl dX8_add_18 (fun H locs hw => ?_)
  refine lv_aload_n (pc := 19) hx hb dX8_add_19 rfl (lv_at hl 1 rfl) ?_
  refine zk_gt (pc := 20) C hw zl_X8_17 0 rfl rfl dX8_add_20 ?_
  refine lv_iconst (pc := 23) (v := 4) hx hb dX8_add_23 (by decide) ?_
  refine lv_iload (pc := 24) hx hb dX8_add_24 (lv_at hl 0 rfl) ?_
  refine lv_imul (pc := 26) hx hb dX8_add_26 ?_
  refine lv_iconst (pc := 27) (v := 1) hx hb dX8_add_27 (by decide) ?_
  refine lv_iadd (pc := 28) hx hb dX8_add_28 ?_
  refine lv_iload_n (pc := 29) hx hb dX8_add_29 rfl (lv_at hl 3 rfl) ?_
  obtain ⟨q2, hf⟩ := ck hf
  refine zk_iast (pc := 30) (w' := [xM M b_isKept b_size b_at b_from b_sort b_fled b_flights b_firstFlight b_bestHarms b_bestRage b_harmed b_raged, xI cy ((M 2)) 39 ((upd ((upd b_now ((((4 : Int32) * (b_now 32))).toNatClampNeg) x1)) (((((4 : Int32) * (b_now 32)) + (1 : Int32))).toNatClampNeg) x2))]) C hw 1 rfl q2 rfl dX8_add_30 (fun H locs hw => ?_)
  refine lv_aload_n (pc := 31) hx hb dX8_add_31 rfl (lv_at hl 1 rfl) ?_
  refine zk_gt (pc := 32) C hw zl_X8_17 0 rfl rfl dX8_add_32 ?_
  refine lv_iconst (pc := 35) (v := 4) hx hb dX8_add_35 (by decide) ?_
  refine lv_iload (pc := 36) hx hb dX8_add_36 (lv_at hl 0 rfl) ?_
  refine lv_imul (pc := 38) hx hb dX8_add_38 ?_
  refine lv_iconst (pc := 39) (v := 2) hx hb dX8_add_39 (by decide) ?_
  refine lv_iadd (pc := 40) hx hb dX8_add_40 ?_
  refine lv_iload_n (pc := 41) hx hb dX8_add_41 rfl (lv_at hl 4 rfl) ?_
  obtain ⟨q3, hf⟩ := ck hf
  refine zk_iast (pc := 42) (w' := [xM M b_isKept b_size b_at b_from b_sort b_fled b_flights b_firstFlight b_bestHarms b_bestRage b_harmed b_raged, xI cy ((M 2)) 39 ((upd ((upd ((upd b_now ((((4 : Int32) * (b_now 32))).toNatClampNeg) x1)) (((((4 : Int32) * (b_now 32)) + (1 : Int32))).toNatClampNeg) x2)) (((((4 : Int32) * (b_now 32)) + (2 : Int32))).toNatClampNeg) x3))]) C hw 1 rfl q3 rfl dX8_add_42 (fun H locs hw => ?_)
  refine lv_aload_n (pc := 43) hx hb dX8_add_43 rfl (lv_at hl 1 rfl) ?_
  refine zk_gt (pc := 44) C hw zl_X8_17 0 rfl rfl dX8_add_44 ?_
  refine lv_iconst (pc := 47) (v := 4) hx hb dX8_add_47 (by decide) ?_
  refine lv_iload (pc := 48) hx hb dX8_add_48 (lv_at hl 0 rfl) ?_
  refine lv_imul (pc := 50) hx hb dX8_add_50 ?_
  refine lv_iconst (pc := 51) (v := 3) hx hb dX8_add_51 (by decide) ?_
  refine lv_iadd (pc := 52) hx hb dX8_add_52 ?_
  refine lv_iconst (pc := 53) (v := 0) hx hb dX8_add_53 (by decide) ?_
  obtain ⟨q4, hf⟩ := ck hf
  refine zk_iast (pc := 54) (w' := [xM M b_isKept b_size b_at b_from b_sort b_fled b_flights b_firstFlight b_bestHarms b_bestRage b_harmed b_raged, xI cy ((M 2)) 39 ((upd ((upd ((upd ((upd b_now ((((4 : Int32) * (b_now 32))).toNatClampNeg) x1)) (((((4 : Int32) * (b_now 32)) + (1 : Int32))).toNatClampNeg) x2)) (((((4 : Int32) * (b_now 32)) + (2 : Int32))).toNatClampNeg) x3)) (((((4 : Int32) * (b_now 32)) + (3 : Int32))).toNatClampNeg) ((0 : Int32))))]) C hw 1 rfl q4 rfl dX8_add_54 (fun H locs hw => ?_)
  refine lv_aload_n (pc := 55) hx hb dX8_add_55 rfl (lv_at hl 1 rfl) ?_
  refine zk_gt (pc := 56) C hw zl_X8_17 0 rfl rfl dX8_add_56 ?_
  refine lv_bipush (pc := 59) (v := 32) hx hb dX8_add_59 (by decide) ?_
  refine lv_dup2_11 (pc := 61) hx hb dX8_add_61 rfl rfl ?_
  refine zk_ialdK (pc := 62) 32 (by decide) C hw 1 rfl (by decide) dX8_add_62 ?_
  refine lv_iconst (pc := 63) (v := 1) hx hb dX8_add_63 (by decide) ?_
  refine lv_iadd (pc := 64) hx hb dX8_add_64 ?_
  refine zk_iastK (pc := 65) (w' := [xM M b_isKept b_size b_at b_from b_sort b_fled b_flights b_firstFlight b_bestHarms b_bestRage b_harmed b_raged, xI cy ((M 2)) 39 ((upd ((upd ((upd ((upd ((upd b_now ((((4 : Int32) * (b_now 32))).toNatClampNeg) x1)) (((((4 : Int32) * (b_now 32)) + (1 : Int32))).toNatClampNeg) x2)) (((((4 : Int32) * (b_now 32)) + (2 : Int32))).toNatClampNeg) x3)) (((((4 : Int32) * (b_now 32)) + (3 : Int32))).toNatClampNeg) ((0 : Int32)))) 32 (((((upd ((upd ((upd ((upd b_now ((((4 : Int32) * (b_now 32))).toNatClampNeg) x1)) (((((4 : Int32) * (b_now 32)) + (1 : Int32))).toNatClampNeg) x2)) (((((4 : Int32) * (b_now 32)) + (2 : Int32))).toNatClampNeg) x3)) (((((4 : Int32) * (b_now 32)) + (3 : Int32))).toNatClampNeg) ((0 : Int32)))) 32) + (1 : Int32)))))]) 32 (by decide) C hw 1 rfl (by decide) rfl dX8_add_65 (fun H locs hw => ?_)
  refine lv_iload (pc := 66) hx hb dX8_add_66 (lv_at hl 0 rfl) ?_
  have hf := Option.some.inj hf
  subst hf
  exact zk_reti (pc := 68) (ww := [xM M b_isKept b_size b_at b_from b_sort b_fled b_flights b_firstFlight b_bestHarms b_bestRage b_harmed b_raged, xI cy ((M 2)) 39 ((upd ((upd ((upd ((upd ((upd b_now ((((4 : Int32) * (b_now 32))).toNatClampNeg) x1)) (((((4 : Int32) * (b_now 32)) + (1 : Int32))).toNatClampNeg) x2)) (((((4 : Int32) * (b_now 32)) + (2 : Int32))).toNatClampNeg) x3)) (((((4 : Int32) * (b_now 32)) + (3 : Int32))).toNatClampNeg) ((0 : Int32)))) 32 (((((upd ((upd ((upd ((upd b_now ((((4 : Int32) * (b_now 32))).toNatClampNeg) x1)) (((((4 : Int32) * (b_now 32)) + (1 : Int32))).toNatClampNeg) x2)) (((((4 : Int32) * (b_now 32)) + (2 : Int32))).toNatClampNeg) x3)) (((((4 : Int32) * (b_now 32)) + (3 : Int32))).toNatClampNeg) ((0 : Int32)))) 32) + (1 : Int32)))))]) C hw hr hQ dX8_add_68
def zf_X8_keeper_36 (b_refused : Nat → Int32) (b_now : Nat → Int32) : Option (Int32 × (Nat → Int32) × (Nat → Int32)) := (Option.bind (zf_X8_refuse (((-2 : Int32))) b_refused) (fun u11 => some (u11.1, u11.2, b_now)))
def zf_X8_keeper (x1 : Int32) (x2 : Int32) (x3 : Int32) (b_refused : Nat → Int32) (b_now : Nat → Int32) : Option (Int32 × (Nat → Int32) × (Nat → Int32)) := (Option.bind (zf_X8_isIn x1.toInt64 (((0 : Int64))) (((5 : Int64)))) (fun u1 => (if u1 then (Option.bind (zf_X8_isIn x2.toInt64 (((0 : Int64))) (((9 : Int64)))) (fun u3 => (if u3 then (Option.bind (zf_X8_isIn x3.toInt64 (((0 : Int64))) (((40 : Int64)))) (fun u5 => (if u5 then (Option.bind (zf_X8_many b_now) (fun u7 => (if u7 = (8 : Int32) then (Option.bind (zf_X8_refuse (((-6 : Int32))) b_refused) (fun u10 => some (u10.1, u10.2, b_now))) else (Option.bind (zf_X8_add x1 x2 x3 b_now) (fun u9 => some (u9.1, b_refused, u9.2)))))) else zf_X8_keeper_36 b_refused b_now))) else zf_X8_keeper_36 b_refused b_now))) else zf_X8_keeper_36 b_refused b_now)))
abbrev zr_X8_keeper : Room := { frames := 1, cells := 0, slots := 0, locals := 25 }
set_option maxHeartbeats 4000000 in
set_option maxRecDepth 100000 in
theorem c_X8_keeper (l : Launch) (G : va_G) (cy : Nat → ClassId) (tt : Nat → Nat) (M : Nat → Nat) (b_isKept : Bool) (b_size : Int32) (b_at : Int32) (b_from : Int32) (b_sort : Int32) (b_fled : Bool) (b_flights : Int32) (b_firstFlight : Int32) (b_bestHarms : Int32) (b_bestRage : Int32) (b_harmed : Int64) (b_raged : Int64) (x1 : Int32) (x2 : Int32) (x3 : Int32) (b_refused : Nat → Int32) (b_now : Nat → Int32) (res : Int32 × (Nat → Int32) × (Nat → Int32)) (hf : zf_X8_keeper x1 x2 x3 b_refused b_now = some res) : zCT l yX8_keeper cX8_keeper 4 (some .int) zr_X8_keeper G cy tt [.ref ((M 0)), .int x1, .int x2, .int x3] [xM M b_isKept b_size b_at b_from b_sort b_fled b_flights b_firstFlight b_bestHarms b_bestRage b_harmed b_raged, xI cy ((M 1)) 7 b_refused, xI cy ((M 2)) 39 b_now] (some (.int res.1)) [xM M b_isKept b_size b_at b_from b_sort b_fled b_flights b_firstFlight b_bestHarms b_bestRage b_harmed b_raged, xI cy ((M 1)) 7 res.2.1, xI cy ((M 2)) 39 res.2.2] := by
  refine zk_start zn_X8 (Nat.le_of_ble_eq_true rfl) ?_
  intro p e s m args below meth c A ls Q C hr hQ hw hl
  have C : zCx p m c s args meth cX8_keeper 4 RX8 G cy tt A := C
  have hx := C.1.1
  have hb := C.1.2.1
  have hl : lv_has ls 4 [(0, .ref ((M 0))), (1, .int x1), (2, .int x2), (3, .int x3)] := hl
  have J36 : ∀ (b_refused : Nat → Int32) (b_now : Nat → Int32) (H : Heap) (locs : List Loc) (ls : Array Slot), zf_X8_keeper_36 b_refused b_now = some res → zWd G A s.heap H locs [xM M b_isKept b_size b_at b_from b_sort b_fled b_flights b_firstFlight b_bestHarms b_bestRage b_harmed b_raged, xI cy ((M 1)) 7 b_refused, xI cy ((M 2)) 39 b_now] → lv_has ls 4 [(0, .ref ((M 0)))] → W p l e zr_X8_keeper s m args below meth c H locs 0 0 Q (F0 m 36 ls []) := by
    intro b_refused b_now H locs ls hf hw hl
    rw [zf_X8_keeper_36] at hf
    refine lv_aload_n (pc := 36) hx hb dX8_keeper_36 rfl (lv_at hl 0 rfl) ?_
    refine lv_bipush (pc := 37) (v := -2) hx hb dX8_keeper_37 (by decide) ?_
    obtain ⟨u11, u11e, hf⟩ := bd hf
    refine zk_cV (pc := 39) (ci := 8) (q0 := 0) (rest := []) (st1 := [.int u11.1]) (w' := [xM M b_isKept b_size b_at b_from b_sort b_fled b_flights b_firstFlight b_bestHarms b_bestRage b_harmed b_raged, xI cy ((M 1)) 7 u11.2, xI cy ((M 2)) 39 b_now]) (mk := [none, some (xI cy ((M 1)) 7 u11.2), none]) C hw (c_X8_refuse l G cy tt M b_isKept b_size b_at b_from b_sort b_fled b_flights b_firstFlight b_bestHarms b_bestRage b_harmed b_raged (((-2 : Int32))) b_refused _ u11e) zy_X8_refuse zm_X8_90 rfl rfl rfl [0, 1] rfl rfl rfl rfl rfl rfl rfl rfl hl.1 ⟨rfl, rfl⟩ ⟨Nat.le_of_ble_eq_true rfl, Nat.le_of_ble_eq_true rfl⟩ rfl (Nat.le_of_ble_eq_true rfl) ⟨Nat.zero_le _, Nat.zero_le _⟩ dX8_keeper_39 (fun H locs hw => ?_)
    have hf := Option.some.inj hf
    subst hf
    exact zk_reti (pc := 42) (ww := [xM M b_isKept b_size b_at b_from b_sort b_fled b_flights b_firstFlight b_bestHarms b_bestRage b_harmed b_raged, xI cy ((M 1)) 7 u11.2, xI cy ((M 2)) 39 b_now]) C hw hr hQ dX8_keeper_42
  rw [zf_X8_keeper] at hf
  refine lv_iload_n (pc := 0) hx hb dX8_keeper_0 rfl (lv_at hl 1 rfl) ?_
  refine lv_i2l (pc := 1) (v := x1.toInt64) hx hb dX8_keeper_1 rfl ?_
  refine lv_lconst (pc := 2) (v := 0) hx hb dX8_keeper_2 (by decide) ?_
  refine lv_ldc2 (pc := 3) (v := 5) hx hb C.1.2.2.2.1 (C.1.2.2.2.2 _ zc_X8_84) dX8_keeper_3 ?_
  obtain ⟨u1, u1e, hf⟩ := bd hf
  refine zk_cS (pc := 6) (rest := []) (st1 := [.int (bI u1)]) (w' := [xM M b_isKept b_size b_at b_from b_sort b_fled b_flights b_firstFlight b_bestHarms b_bestRage b_harmed b_raged, xI cy ((M 1)) 7 b_refused, xI cy ((M 2)) 39 b_now]) (mk := [none, none, none]) C hw (c_X8_isIn l G cy tt x1.toInt64 (((0 : Int64))) (((5 : Int64))) _ u1e) zy_X8_isIn zm_X8_68 [] rfl rfl rfl rfl rfl rfl rfl rfl hl.1 ⟨rfl, rfl⟩ ⟨Nat.le_of_ble_eq_true rfl, Nat.le_of_ble_eq_true rfl⟩ rfl (Nat.le_of_ble_eq_true rfl) ⟨Nat.zero_le _, Nat.zero_le _⟩ dX8_keeper_6 (fun H locs hw => ?_)
  refine zk_ifz (pc := 9) (tgt := 36) hx hb dX8_keeper_9 (by decide) (fun q2 => ?_) (fun q2 => ?_)
  · replace hf := if_f q2 hf
    exact J36 b_refused b_now _ _ _ hf hw (lv_sub hl [0] rfl)
  · replace hf := if_t q2 hf
    refine lv_iload_n (pc := 12) hx hb dX8_keeper_12 rfl (lv_at hl 2 rfl) ?_
    refine lv_i2l (pc := 13) (v := x2.toInt64) hx hb dX8_keeper_13 rfl ?_
    refine lv_lconst (pc := 14) (v := 0) hx hb dX8_keeper_14 (by decide) ?_
    refine lv_ldc2 (pc := 15) (v := 9) hx hb C.1.2.2.2.1 (C.1.2.2.2.2 _ zc_X8_86) dX8_keeper_15 ?_
    obtain ⟨u3, u3e, hf⟩ := bd hf
    refine zk_cS (pc := 18) (rest := []) (st1 := [.int (bI u3)]) (w' := [xM M b_isKept b_size b_at b_from b_sort b_fled b_flights b_firstFlight b_bestHarms b_bestRage b_harmed b_raged, xI cy ((M 1)) 7 b_refused, xI cy ((M 2)) 39 b_now]) (mk := [none, none, none]) C hw (c_X8_isIn l G cy tt x2.toInt64 (((0 : Int64))) (((9 : Int64))) _ u3e) zy_X8_isIn zm_X8_68 [] rfl rfl rfl rfl rfl rfl rfl rfl hl.1 ⟨rfl, rfl⟩ ⟨Nat.le_of_ble_eq_true rfl, Nat.le_of_ble_eq_true rfl⟩ rfl (Nat.le_of_ble_eq_true rfl) ⟨Nat.zero_le _, Nat.zero_le _⟩ dX8_keeper_18 (fun H locs hw => ?_)
    refine zk_ifz (pc := 21) (tgt := 36) hx hb dX8_keeper_21 (by decide) (fun q4 => ?_) (fun q4 => ?_)
    · replace hf := if_f q4 hf
      exact J36 b_refused b_now _ _ _ hf hw (lv_sub hl [0] rfl)
    · replace hf := if_t q4 hf
      refine lv_iload_n (pc := 24) hx hb dX8_keeper_24 rfl (lv_at hl 3 rfl) ?_
      refine lv_i2l (pc := 25) (v := x3.toInt64) hx hb dX8_keeper_25 rfl ?_
      refine lv_lconst (pc := 26) (v := 0) hx hb dX8_keeper_26 (by decide) ?_
      refine lv_ldc2 (pc := 27) (v := 40) hx hb C.1.2.2.2.1 (C.1.2.2.2.2 _ zc_X8_88) dX8_keeper_27 ?_
      obtain ⟨u5, u5e, hf⟩ := bd hf
      refine zk_cS (pc := 30) (rest := []) (st1 := [.int (bI u5)]) (w' := [xM M b_isKept b_size b_at b_from b_sort b_fled b_flights b_firstFlight b_bestHarms b_bestRage b_harmed b_raged, xI cy ((M 1)) 7 b_refused, xI cy ((M 2)) 39 b_now]) (mk := [none, none, none]) C hw (c_X8_isIn l G cy tt x3.toInt64 (((0 : Int64))) (((40 : Int64))) _ u5e) zy_X8_isIn zm_X8_68 [] rfl rfl rfl rfl rfl rfl rfl rfl hl.1 ⟨rfl, rfl⟩ ⟨Nat.le_of_ble_eq_true rfl, Nat.le_of_ble_eq_true rfl⟩ rfl (Nat.le_of_ble_eq_true rfl) ⟨Nat.zero_le _, Nat.zero_le _⟩ dX8_keeper_30 (fun H locs hw => ?_)
      refine zk_ifnz (pc := 33) (tgt := 43) hx hb dX8_keeper_33 (by decide) (fun q6 => ?_) (fun q6 => ?_)
      · replace hf := if_t q6 hf
        refine lv_aload_n (pc := 43) hx hb dX8_keeper_43 rfl (lv_at hl 0 rfl) ?_
        obtain ⟨u7, u7e, hf⟩ := bd hf
        refine zk_cV (pc := 44) (ci := 8) (q0 := 0) (rest := []) (st1 := [.int u7]) (w' := [xM M b_isKept b_size b_at b_from b_sort b_fled b_flights b_firstFlight b_bestHarms b_bestRage b_harmed b_raged, xI cy ((M 1)) 7 b_refused, xI cy ((M 2)) 39 b_now]) (mk := [none, none, none]) C hw (c_X8_many l G cy tt M b_isKept b_size b_at b_from b_sort b_fled b_flights b_firstFlight b_bestHarms b_bestRage b_harmed b_raged b_now _ u7e) zy_X8_many zm_X8_80 rfl rfl rfl [0, 2] rfl rfl rfl rfl rfl rfl rfl rfl hl.1 ⟨rfl, rfl⟩ ⟨Nat.le_of_ble_eq_true rfl, Nat.le_of_ble_eq_true rfl⟩ rfl (Nat.le_of_ble_eq_true rfl) ⟨Nat.zero_le _, Nat.zero_le _⟩ dX8_keeper_44 (fun H locs hw => ?_)
        refine lv_bipush (pc := 47) (v := 8) hx hb dX8_keeper_47 (by decide) ?_
        refine lv_icmp_ne (pc := 49) (tgt := 61) hx hb dX8_keeper_49 (by decide) (fun q8 => ?_) (fun q8 => ?_)
        · replace hf := if_f q8 hf
          refine lv_aload_n (pc := 61) hx hb dX8_keeper_61 rfl (lv_at hl 0 rfl) ?_
          refine lv_iload_n (pc := 62) hx hb dX8_keeper_62 rfl (lv_at hl 1 rfl) ?_
          refine lv_iload_n (pc := 63) hx hb dX8_keeper_63 rfl (lv_at hl 2 rfl) ?_
          refine lv_iload_n (pc := 64) hx hb dX8_keeper_64 rfl (lv_at hl 3 rfl) ?_
          obtain ⟨u9, u9e, hf⟩ := bd hf
          refine zk_cV (pc := 65) (ci := 8) (q0 := 0) (rest := []) (st1 := [.int u9.1]) (w' := [xM M b_isKept b_size b_at b_from b_sort b_fled b_flights b_firstFlight b_bestHarms b_bestRage b_harmed b_raged, xI cy ((M 1)) 7 b_refused, xI cy ((M 2)) 39 u9.2]) (mk := [none, none, some (xI cy ((M 2)) 39 u9.2)]) C hw (c_X8_add l G cy tt M b_isKept b_size b_at b_from b_sort b_fled b_flights b_firstFlight b_bestHarms b_bestRage b_harmed b_raged x1 x2 x3 b_now _ u9e) zy_X8_add zm_X8_94 rfl rfl rfl [0, 2] rfl rfl rfl rfl rfl rfl rfl rfl hl.1 ⟨rfl, rfl⟩ ⟨Nat.le_of_ble_eq_true rfl, Nat.le_of_ble_eq_true rfl⟩ rfl (Nat.le_of_ble_eq_true rfl) ⟨Nat.zero_le _, Nat.zero_le _⟩ dX8_keeper_65 (fun H locs hw => ?_)
          have hf := Option.some.inj hf
          subst hf
          exact zk_reti (pc := 68) (ww := [xM M b_isKept b_size b_at b_from b_sort b_fled b_flights b_firstFlight b_bestHarms b_bestRage b_harmed b_raged, xI cy ((M 1)) 7 b_refused, xI cy ((M 2)) 39 u9.2]) C hw hr hQ dX8_keeper_68
        · replace hf := if_t q8 hf
          refine lv_aload_n (pc := 52) hx hb dX8_keeper_52 rfl (lv_at hl 0 rfl) ?_
          refine lv_bipush (pc := 53) (v := -6) hx hb dX8_keeper_53 (by decide) ?_
          obtain ⟨u10, u10e, hf⟩ := bd hf
          refine zk_cV (pc := 55) (ci := 8) (q0 := 0) (rest := []) (st1 := [.int u10.1]) (w' := [xM M b_isKept b_size b_at b_from b_sort b_fled b_flights b_firstFlight b_bestHarms b_bestRage b_harmed b_raged, xI cy ((M 1)) 7 u10.2, xI cy ((M 2)) 39 b_now]) (mk := [none, some (xI cy ((M 1)) 7 u10.2), none]) C hw (c_X8_refuse l G cy tt M b_isKept b_size b_at b_from b_sort b_fled b_flights b_firstFlight b_bestHarms b_bestRage b_harmed b_raged (((-6 : Int32))) b_refused _ u10e) zy_X8_refuse zm_X8_90 rfl rfl rfl [0, 1] rfl rfl rfl rfl rfl rfl rfl rfl hl.1 ⟨rfl, rfl⟩ ⟨Nat.le_of_ble_eq_true rfl, Nat.le_of_ble_eq_true rfl⟩ rfl (Nat.le_of_ble_eq_true rfl) ⟨Nat.zero_le _, Nat.zero_le _⟩ dX8_keeper_55 (fun H locs hw => ?_)
          refine lv_goto (pc := 58) (tgt := 68) hx hb dX8_keeper_58 (by decide) ?_
          have hf := Option.some.inj hf
          subst hf
          exact zk_reti (pc := 68) (ww := [xM M b_isKept b_size b_at b_from b_sort b_fled b_flights b_firstFlight b_bestHarms b_bestRage b_harmed b_raged, xI cy ((M 1)) 7 u10.2, xI cy ((M 2)) 39 b_now]) C hw hr hQ dX8_keeper_68
      · replace hf := if_f q6 hf
        exact J36 b_refused b_now _ _ _ hf hw (lv_sub hl [0] rfl)
def zf_X8_nerve_21 (b_refused : Nat → Int32) (b_now : Nat → Int32) : Option (Int32 × (Nat → Int32) × (Nat → Int32)) := (Option.bind (zf_X8_refuse (((-2 : Int32))) b_refused) (fun u7 => some (u7.1, u7.2, b_now)))
def zf_X8_nerve (x1 : Int32) (x2 : Int32) (b_refused : Nat → Int32) (b_now : Nat → Int32) : Option (Int32 × (Nat → Int32) × (Nat → Int32)) := (Option.bind (zf_X8_isKeeper x1.toInt64 b_now) (fun u1 => (if u1 then (Option.bind (zf_X8_isIn x2.toInt64 (((0 : Int64))) (((40 : Int64)))) (fun u3 => (if u3 then (Option.bind (zf_X8_nerveOf x1 b_now) (fun u5 => (if ix ((((4 : Int32) * x1) + (2 : Int32))) 39 then some (u5, b_refused, (upd b_now (((((4 : Int32) * x1) + (2 : Int32))).toNatClampNeg) x2)) else none))) else zf_X8_nerve_21 b_refused b_now))) else zf_X8_nerve_21 b_refused b_now)))
abbrev zr_X8_nerve : Room := { frames := 2, cells := 0, slots := 0, locals := 47 }
set_option maxHeartbeats 4000000 in
set_option maxRecDepth 100000 in
theorem c_X8_nerve (l : Launch) (G : va_G) (cy : Nat → ClassId) (tt : Nat → Nat) (M : Nat → Nat) (b_isKept : Bool) (b_size : Int32) (b_at : Int32) (b_from : Int32) (b_sort : Int32) (b_fled : Bool) (b_flights : Int32) (b_firstFlight : Int32) (b_bestHarms : Int32) (b_bestRage : Int32) (b_harmed : Int64) (b_raged : Int64) (x1 : Int32) (x2 : Int32) (b_refused : Nat → Int32) (b_now : Nat → Int32) (res : Int32 × (Nat → Int32) × (Nat → Int32)) (hf : zf_X8_nerve x1 x2 b_refused b_now = some res) : zCT l yX8_nerve cX8_nerve 4 (some .int) zr_X8_nerve G cy tt [.ref ((M 0)), .int x1, .int x2] [xM M b_isKept b_size b_at b_from b_sort b_fled b_flights b_firstFlight b_bestHarms b_bestRage b_harmed b_raged, xI cy ((M 1)) 7 b_refused, xI cy ((M 2)) 39 b_now] (some (.int res.1)) [xM M b_isKept b_size b_at b_from b_sort b_fled b_flights b_firstFlight b_bestHarms b_bestRage b_harmed b_raged, xI cy ((M 1)) 7 res.2.1, xI cy ((M 2)) 39 res.2.2] := by
  refine zk_start zn_X8 (Nat.le_of_ble_eq_true rfl) ?_
  intro p e s m args below meth c A ls Q C hr hQ hw hl
  have C : zCx p m c s args meth cX8_nerve 4 RX8 G cy tt A := C
  have hx := C.1.1
  have hb := C.1.2.1
  have hl : lv_has ls 4 [(0, .ref ((M 0))), (1, .int x1), (2, .int x2)] := hl
  have J21 : ∀ (b_refused : Nat → Int32) (b_now : Nat → Int32) (H : Heap) (locs : List Loc) (ls : Array Slot), zf_X8_nerve_21 b_refused b_now = some res → zWd G A s.heap H locs [xM M b_isKept b_size b_at b_from b_sort b_fled b_flights b_firstFlight b_bestHarms b_bestRage b_harmed b_raged, xI cy ((M 1)) 7 b_refused, xI cy ((M 2)) 39 b_now] → lv_has ls 4 [(0, .ref ((M 0)))] → W p l e zr_X8_nerve s m args below meth c H locs 0 0 Q (F0 m 21 ls []) := by
    intro b_refused b_now H locs ls hf hw hl
    rw [zf_X8_nerve_21] at hf
    refine lv_aload_n (pc := 21) hx hb dX8_nerve_21 rfl (lv_at hl 0 rfl) ?_
    refine lv_bipush (pc := 22) (v := -2) hx hb dX8_nerve_22 (by decide) ?_
    obtain ⟨u7, u7e, hf⟩ := bd hf
    refine zk_cV (pc := 24) (ci := 8) (q0 := 0) (rest := []) (st1 := [.int u7.1]) (w' := [xM M b_isKept b_size b_at b_from b_sort b_fled b_flights b_firstFlight b_bestHarms b_bestRage b_harmed b_raged, xI cy ((M 1)) 7 u7.2, xI cy ((M 2)) 39 b_now]) (mk := [none, some (xI cy ((M 1)) 7 u7.2), none]) C hw (c_X8_refuse l G cy tt M b_isKept b_size b_at b_from b_sort b_fled b_flights b_firstFlight b_bestHarms b_bestRage b_harmed b_raged (((-2 : Int32))) b_refused _ u7e) zy_X8_refuse zm_X8_90 rfl rfl rfl [0, 1] rfl rfl rfl rfl rfl rfl rfl rfl hl.1 ⟨rfl, rfl⟩ ⟨Nat.le_of_ble_eq_true rfl, Nat.le_of_ble_eq_true rfl⟩ rfl (Nat.le_of_ble_eq_true rfl) ⟨Nat.zero_le _, Nat.zero_le _⟩ dX8_nerve_24 (fun H locs hw => ?_)
    have hf := Option.some.inj hf
    subst hf
    exact zk_reti (pc := 27) (ww := [xM M b_isKept b_size b_at b_from b_sort b_fled b_flights b_firstFlight b_bestHarms b_bestRage b_harmed b_raged, xI cy ((M 1)) 7 u7.2, xI cy ((M 2)) 39 b_now]) C hw hr hQ dX8_nerve_27
  rw [zf_X8_nerve] at hf
  refine lv_aload_n (pc := 0) hx hb dX8_nerve_0 rfl (lv_at hl 0 rfl) ?_
  refine lv_iload_n (pc := 1) hx hb dX8_nerve_1 rfl (lv_at hl 1 rfl) ?_
  refine lv_i2l (pc := 2) (v := x1.toInt64) hx hb dX8_nerve_2 rfl ?_
  obtain ⟨u1, u1e, hf⟩ := bd hf
  refine zk_cV (pc := 3) (ci := 8) (q0 := 0) (rest := []) (st1 := [.int (bI u1)]) (w' := [xM M b_isKept b_size b_at b_from b_sort b_fled b_flights b_firstFlight b_bestHarms b_bestRage b_harmed b_raged, xI cy ((M 1)) 7 b_refused, xI cy ((M 2)) 39 b_now]) (mk := [none, none, none]) C hw (c_X8_isKeeper l G cy tt M b_isKept b_size b_at b_from b_sort b_fled b_flights b_firstFlight b_bestHarms b_bestRage b_harmed b_raged x1.toInt64 b_now _ u1e) zy_X8_isKeeper zm_X8_76 rfl rfl rfl [0, 2] rfl rfl rfl rfl rfl rfl rfl rfl hl.1 ⟨rfl, rfl⟩ ⟨Nat.le_of_ble_eq_true rfl, Nat.le_of_ble_eq_true rfl⟩ rfl (Nat.le_of_ble_eq_true rfl) ⟨Nat.zero_le _, Nat.zero_le _⟩ dX8_nerve_3 (fun H locs hw => ?_)
  refine zk_ifz (pc := 6) (tgt := 21) hx hb dX8_nerve_6 (by decide) (fun q2 => ?_) (fun q2 => ?_)
  · replace hf := if_f q2 hf
    exact J21 b_refused b_now _ _ _ hf hw (lv_sub hl [0] rfl)
  · replace hf := if_t q2 hf
    refine lv_iload_n (pc := 9) hx hb dX8_nerve_9 rfl (lv_at hl 2 rfl) ?_
    refine lv_i2l (pc := 10) (v := x2.toInt64) hx hb dX8_nerve_10 rfl ?_
    refine lv_lconst (pc := 11) (v := 0) hx hb dX8_nerve_11 (by decide) ?_
    refine lv_ldc2 (pc := 12) (v := 40) hx hb C.1.2.2.2.1 (C.1.2.2.2.2 _ zc_X8_88) dX8_nerve_12 ?_
    obtain ⟨u3, u3e, hf⟩ := bd hf
    refine zk_cS (pc := 15) (rest := []) (st1 := [.int (bI u3)]) (w' := [xM M b_isKept b_size b_at b_from b_sort b_fled b_flights b_firstFlight b_bestHarms b_bestRage b_harmed b_raged, xI cy ((M 1)) 7 b_refused, xI cy ((M 2)) 39 b_now]) (mk := [none, none, none]) C hw (c_X8_isIn l G cy tt x2.toInt64 (((0 : Int64))) (((40 : Int64))) _ u3e) zy_X8_isIn zm_X8_68 [] rfl rfl rfl rfl rfl rfl rfl rfl hl.1 ⟨rfl, rfl⟩ ⟨Nat.le_of_ble_eq_true rfl, Nat.le_of_ble_eq_true rfl⟩ rfl (Nat.le_of_ble_eq_true rfl) ⟨Nat.zero_le _, Nat.zero_le _⟩ dX8_nerve_15 (fun H locs hw => ?_)
    refine zk_ifnz (pc := 18) (tgt := 28) hx hb dX8_nerve_18 (by decide) (fun q4 => ?_) (fun q4 => ?_)
    · replace hf := if_t q4 hf
      refine lv_aload_n (pc := 28) hx hb dX8_nerve_28 rfl (lv_at hl 0 rfl) ?_
      refine lv_iload_n (pc := 29) hx hb dX8_nerve_29 rfl (lv_at hl 1 rfl) ?_
      obtain ⟨u5, u5e, hf⟩ := bd hf
      refine zk_cV (pc := 30) (ci := 8) (q0 := 0) (rest := []) (st1 := [.int u5]) (w' := [xM M b_isKept b_size b_at b_from b_sort b_fled b_flights b_firstFlight b_bestHarms b_bestRage b_harmed b_raged, xI cy ((M 1)) 7 b_refused, xI cy ((M 2)) 39 b_now]) (mk := [none, none, none]) C hw (c_X8_nerveOf l G cy tt M b_isKept b_size b_at b_from b_sort b_fled b_flights b_firstFlight b_bestHarms b_bestRage b_harmed b_raged x1 b_now _ u5e) zy_X8_nerveOf zm_X8_98 rfl rfl rfl [0, 2] rfl rfl rfl rfl rfl rfl rfl rfl hl.1 ⟨rfl, rfl⟩ ⟨Nat.le_of_ble_eq_true rfl, Nat.le_of_ble_eq_true rfl⟩ rfl (Nat.le_of_ble_eq_true rfl) ⟨Nat.zero_le _, Nat.zero_le _⟩ dX8_nerve_30 (fun H locs hw => ?_)
      refine lv_istore_n (pc := 33) (lv' := [(3, .int u5), (0, .ref ((M 0))), (1, .int x1), (2, .int x2)]) hx hb dX8_nerve_33 rfl hl (by decide) rfl (fun ls hl => ?_)
      refine lv_aload_n (pc := 34) hx hb dX8_nerve_34 rfl (lv_at hl 1 rfl) ?_
      refine zk_gt (pc := 35) C hw zl_X8_17 0 rfl rfl dX8_nerve_35 ?_
      refine lv_iconst (pc := 38) (v := 4) hx hb dX8_nerve_38 (by decide) ?_
      refine lv_iload_n (pc := 39) hx hb dX8_nerve_39 rfl (lv_at hl 2 rfl) ?_
      refine lv_imul (pc := 40) hx hb dX8_nerve_40 ?_
      refine lv_iconst (pc := 41) (v := 2) hx hb dX8_nerve_41 (by decide) ?_
      refine lv_iadd (pc := 42) hx hb dX8_nerve_42 ?_
      refine lv_iload_n (pc := 43) hx hb dX8_nerve_43 rfl (lv_at hl 3 rfl) ?_
      obtain ⟨q6, hf⟩ := ck hf
      refine zk_iast (pc := 44) (w' := [xM M b_isKept b_size b_at b_from b_sort b_fled b_flights b_firstFlight b_bestHarms b_bestRage b_harmed b_raged, xI cy ((M 1)) 7 b_refused, xI cy ((M 2)) 39 ((upd b_now (((((4 : Int32) * x1) + (2 : Int32))).toNatClampNeg) x2))]) C hw 2 rfl q6 rfl dX8_nerve_44 (fun H locs hw => ?_)
      refine lv_iload_n (pc := 45) hx hb dX8_nerve_45 rfl (lv_at hl 0 rfl) ?_
      have hf := Option.some.inj hf
      subst hf
      exact zk_reti (pc := 46) (ww := [xM M b_isKept b_size b_at b_from b_sort b_fled b_flights b_firstFlight b_bestHarms b_bestRage b_harmed b_raged, xI cy ((M 1)) 7 b_refused, xI cy ((M 2)) 39 ((upd b_now (((((4 : Int32) * x1) + (2 : Int32))).toNatClampNeg) x2))]) C hw hr hQ dX8_nerve_46
    · replace hf := if_f q4 hf
      exact J21 b_refused b_now _ _ _ hf hw (lv_sub hl [0] rfl)
def zf_X8_tell_60 (b_refused : Nat → Int32) (b_now : Nat → Int32) : Option (Int32 × (Nat → Int32) × (Nat → Int32)) := (Option.bind (zf_X8_refuse (((-2 : Int32))) b_refused) (fun u11 => some (u11.1, u11.2, b_now)))
def zf_X8_tell_54 (v1 : Int32) (v2 : Int32) (t0 : Int64) (t1 : Int64) (t2 : Int64) (b_refused : Nat → Int32) (b_now : Nat → Int32) : Option (Int32 × (Nat → Int32) × (Nat → Int32)) := (Option.bind (zf_X8_isIn t2 t1 t0) (fun u7 => (if u7 then (if ix (((33 : Int32) + v1)) 39 then (if ix (((33 : Int32) + v1)) 39 then some ((b_now (((33 : Int32) + v1)).toNatClampNeg), b_refused, (upd b_now ((((33 : Int32) + v1)).toNatClampNeg) v2)) else none) else none) else zf_X8_tell_60 b_refused b_now)))
def zf_X8_tell_29 (v1 : Int32) (v2 : Int32) (t0 : Int64) (t1 : Int64) (b_refused : Nat → Int32) (b_now : Nat → Int32) : Option (Int32 × (Nat → Int32) × (Nat → Int32)) := (if v1 = (2 : Int32) then zf_X8_tell_54 v1 v2 ((9 : Int64)) t0 t1 b_refused b_now else (if v1 = (4 : Int32) then zf_X8_tell_54 v1 v2 ((9999 : Int64)) t0 t1 b_refused b_now else zf_X8_tell_54 v1 v2 ((99 : Int64)) t0 t1 b_refused b_now))
def zf_X8_tell_24 (v1 : Int32) (v2 : Int32) (t0 : Int64) (b_refused : Nat → Int32) (b_now : Nat → Int32) : Option (Int32 × (Nat → Int32) × (Nat → Int32)) := zf_X8_tell_29 v1 v2 ((1 : Int64)) t0 b_refused b_now
def zf_X8_tell (x1 : Int32) (x2 : Int32) (b_refused : Nat → Int32) (b_now : Nat → Int32) : Option (Int32 × (Nat → Int32) × (Nat → Int32)) := (Option.bind (zf_X8_isIn x1.toInt64 (((0 : Int64))) (((4 : Int64)))) (fun u1 => (if u1 then (if x1 = (2 : Int32) then zf_X8_tell_24 x1 x2 x2.toInt64 b_refused b_now else (if x1 = (3 : Int32) then zf_X8_tell_24 x1 x2 x2.toInt64 b_refused b_now else zf_X8_tell_29 x1 x2 ((0 : Int64)) x2.toInt64 b_refused b_now)) else zf_X8_tell_60 b_refused b_now)))
abbrev zr_X8_tell : Room := { frames := 1, cells := 0, slots := 0, locals := 25 }
set_option maxHeartbeats 4000000 in
set_option maxRecDepth 100000 in
theorem c_X8_tell (l : Launch) (G : va_G) (cy : Nat → ClassId) (tt : Nat → Nat) (M : Nat → Nat) (b_isKept : Bool) (b_size : Int32) (b_at : Int32) (b_from : Int32) (b_sort : Int32) (b_fled : Bool) (b_flights : Int32) (b_firstFlight : Int32) (b_bestHarms : Int32) (b_bestRage : Int32) (b_harmed : Int64) (b_raged : Int64) (x1 : Int32) (x2 : Int32) (b_refused : Nat → Int32) (b_now : Nat → Int32) (res : Int32 × (Nat → Int32) × (Nat → Int32)) (hf : zf_X8_tell x1 x2 b_refused b_now = some res) : zCT l yX8_tell cX8_tell 4 (some .int) zr_X8_tell G cy tt [.ref ((M 0)), .int x1, .int x2] [xM M b_isKept b_size b_at b_from b_sort b_fled b_flights b_firstFlight b_bestHarms b_bestRage b_harmed b_raged, xI cy ((M 1)) 7 b_refused, xI cy ((M 2)) 39 b_now] (some (.int res.1)) [xM M b_isKept b_size b_at b_from b_sort b_fled b_flights b_firstFlight b_bestHarms b_bestRage b_harmed b_raged, xI cy ((M 1)) 7 res.2.1, xI cy ((M 2)) 39 res.2.2] := by
  refine zk_start zn_X8 (Nat.le_of_ble_eq_true rfl) ?_
  intro p e s m args below meth c A ls Q C hr hQ hw hl
  have C : zCx p m c s args meth cX8_tell 4 RX8 G cy tt A := C
  have hx := C.1.1
  have hb := C.1.2.1
  have hl : lv_has ls 4 [(0, .ref ((M 0))), (1, .int x1), (2, .int x2)] := hl
  have J60 : ∀ (b_refused : Nat → Int32) (b_now : Nat → Int32) (H : Heap) (locs : List Loc) (ls : Array Slot), zf_X8_tell_60 b_refused b_now = some res → zWd G A s.heap H locs [xM M b_isKept b_size b_at b_from b_sort b_fled b_flights b_firstFlight b_bestHarms b_bestRage b_harmed b_raged, xI cy ((M 1)) 7 b_refused, xI cy ((M 2)) 39 b_now] → lv_has ls 4 [(0, .ref ((M 0)))] → W p l e zr_X8_tell s m args below meth c H locs 0 0 Q (F0 m 60 ls []) := by
    intro b_refused b_now H locs ls hf hw hl
    rw [zf_X8_tell_60] at hf
    refine lv_aload_n (pc := 60) hx hb dX8_tell_60 rfl (lv_at hl 0 rfl) ?_
    refine lv_bipush (pc := 61) (v := -2) hx hb dX8_tell_61 (by decide) ?_
    obtain ⟨u11, u11e, hf⟩ := bd hf
    refine zk_cV (pc := 63) (ci := 8) (q0 := 0) (rest := []) (st1 := [.int u11.1]) (w' := [xM M b_isKept b_size b_at b_from b_sort b_fled b_flights b_firstFlight b_bestHarms b_bestRage b_harmed b_raged, xI cy ((M 1)) 7 u11.2, xI cy ((M 2)) 39 b_now]) (mk := [none, some (xI cy ((M 1)) 7 u11.2), none]) C hw (c_X8_refuse l G cy tt M b_isKept b_size b_at b_from b_sort b_fled b_flights b_firstFlight b_bestHarms b_bestRage b_harmed b_raged (((-2 : Int32))) b_refused _ u11e) zy_X8_refuse zm_X8_90 rfl rfl rfl [0, 1] rfl rfl rfl rfl rfl rfl rfl rfl hl.1 ⟨rfl, rfl⟩ ⟨Nat.le_of_ble_eq_true rfl, Nat.le_of_ble_eq_true rfl⟩ rfl (Nat.le_of_ble_eq_true rfl) ⟨Nat.zero_le _, Nat.zero_le _⟩ dX8_tell_63 (fun H locs hw => ?_)
    have hf := Option.some.inj hf
    subst hf
    exact zk_reti (pc := 66) (ww := [xM M b_isKept b_size b_at b_from b_sort b_fled b_flights b_firstFlight b_bestHarms b_bestRage b_harmed b_raged, xI cy ((M 1)) 7 u11.2, xI cy ((M 2)) 39 b_now]) C hw hr hQ dX8_tell_66
  have J54 : ∀ (v1 : Int32) (v2 : Int32) (t0 : Int64) (t1 : Int64) (t2 : Int64) (b_refused : Nat → Int32) (b_now : Nat → Int32) (H : Heap) (locs : List Loc) (ls : Array Slot), zf_X8_tell_54 v1 v2 t0 t1 t2 b_refused b_now = some res → zWd G A s.heap H locs [xM M b_isKept b_size b_at b_from b_sort b_fled b_flights b_firstFlight b_bestHarms b_bestRage b_harmed b_raged, xI cy ((M 1)) 7 b_refused, xI cy ((M 2)) 39 b_now] → lv_has ls 4 [(0, .ref ((M 0))), (1, .int v1), (2, .int v2)] → W p l e zr_X8_tell s m args below meth c H locs 0 0 Q (F0 m 54 ls [.long t0, .long t1, .long t2]) := by
    intro v1 v2 t0 t1 t2 b_refused b_now H locs ls hf hw hl
    rw [zf_X8_tell_54] at hf
    obtain ⟨u7, u7e, hf⟩ := bd hf
    refine zk_cS (pc := 54) (rest := []) (st1 := [.int (bI u7)]) (w' := [xM M b_isKept b_size b_at b_from b_sort b_fled b_flights b_firstFlight b_bestHarms b_bestRage b_harmed b_raged, xI cy ((M 1)) 7 b_refused, xI cy ((M 2)) 39 b_now]) (mk := [none, none, none]) C hw (c_X8_isIn l G cy tt t2 t1 t0 _ u7e) zy_X8_isIn zm_X8_68 [] rfl rfl rfl rfl rfl rfl rfl rfl hl.1 ⟨rfl, rfl⟩ ⟨Nat.le_of_ble_eq_true rfl, Nat.le_of_ble_eq_true rfl⟩ rfl (Nat.le_of_ble_eq_true rfl) ⟨Nat.zero_le _, Nat.zero_le _⟩ dX8_tell_54 (fun H locs hw => ?_)
    refine zk_ifnz (pc := 57) (tgt := 67) hx hb dX8_tell_57 (by decide) (fun q8 => ?_) (fun q8 => ?_)
    · replace hf := if_t q8 hf
      refine lv_aload_n (pc := 67) hx hb dX8_tell_67 rfl (lv_at hl 0 rfl) ?_
      refine zk_gt (pc := 68) C hw zl_X8_17 0 rfl rfl dX8_tell_68 ?_
      refine lv_bipush (pc := 71) (v := 33) hx hb dX8_tell_71 (by decide) ?_
      refine lv_iload_n (pc := 73) hx hb dX8_tell_73 rfl (lv_at hl 1 rfl) ?_
      refine lv_iadd (pc := 74) hx hb dX8_tell_74 ?_
      obtain ⟨q9, hf⟩ := ck hf
      refine zk_iald (pc := 75) C hw 2 rfl q9 dX8_tell_75 ?_
      refine lv_istore_n (pc := 76) (lv' := [(3, .int ((b_now (((33 : Int32) + v1)).toNatClampNeg))), (0, .ref ((M 0))), (1, .int v1), (2, .int v2)]) hx hb dX8_tell_76 rfl hl (by decide) rfl (fun ls hl => ?_)
      refine lv_aload_n (pc := 77) hx hb dX8_tell_77 rfl (lv_at hl 1 rfl) ?_
      refine zk_gt (pc := 78) C hw zl_X8_17 0 rfl rfl dX8_tell_78 ?_
      refine lv_bipush (pc := 81) (v := 33) hx hb dX8_tell_81 (by decide) ?_
      refine lv_iload_n (pc := 83) hx hb dX8_tell_83 rfl (lv_at hl 2 rfl) ?_
      refine lv_iadd (pc := 84) hx hb dX8_tell_84 ?_
      refine lv_iload_n (pc := 85) hx hb dX8_tell_85 rfl (lv_at hl 3 rfl) ?_
      obtain ⟨q10, hf⟩ := ck hf
      refine zk_iast (pc := 86) (w' := [xM M b_isKept b_size b_at b_from b_sort b_fled b_flights b_firstFlight b_bestHarms b_bestRage b_harmed b_raged, xI cy ((M 1)) 7 b_refused, xI cy ((M 2)) 39 ((upd b_now ((((33 : Int32) + v1)).toNatClampNeg) v2))]) C hw 2 rfl q10 rfl dX8_tell_86 (fun H locs hw => ?_)
      refine lv_iload_n (pc := 87) hx hb dX8_tell_87 rfl (lv_at hl 0 rfl) ?_
      have hf := Option.some.inj hf
      subst hf
      exact zk_reti (pc := 88) (ww := [xM M b_isKept b_size b_at b_from b_sort b_fled b_flights b_firstFlight b_bestHarms b_bestRage b_harmed b_raged, xI cy ((M 1)) 7 b_refused, xI cy ((M 2)) 39 ((upd b_now ((((33 : Int32) + v1)).toNatClampNeg) v2))]) C hw hr hQ dX8_tell_88
    · replace hf := if_f q8 hf
      exact J60 b_refused b_now _ _ _ hf hw (lv_sub hl [0] rfl)
  have J29 : ∀ (v1 : Int32) (v2 : Int32) (t0 : Int64) (t1 : Int64) (b_refused : Nat → Int32) (b_now : Nat → Int32) (H : Heap) (locs : List Loc) (ls : Array Slot), zf_X8_tell_29 v1 v2 t0 t1 b_refused b_now = some res → zWd G A s.heap H locs [xM M b_isKept b_size b_at b_from b_sort b_fled b_flights b_firstFlight b_bestHarms b_bestRage b_harmed b_raged, xI cy ((M 1)) 7 b_refused, xI cy ((M 2)) 39 b_now] → lv_has ls 4 [(0, .ref ((M 0))), (1, .int v1), (2, .int v2)] → W p l e zr_X8_tell s m args below meth c H locs 0 0 Q (F0 m 29 ls [.long t0, .long t1]) := by
    intro v1 v2 t0 t1 b_refused b_now H locs ls hf hw hl
    rw [zf_X8_tell_29] at hf
    refine lv_iload_n (pc := 29) hx hb dX8_tell_29 rfl (lv_at hl 1 rfl) ?_
    refine lv_iconst (pc := 30) (v := 2) hx hb dX8_tell_30 (by decide) ?_
    refine lv_icmp_ne (pc := 31) (tgt := 40) hx hb dX8_tell_31 (by decide) (fun q5 => ?_) (fun q5 => ?_)
    · replace hf := if_f q5 hf
      refine lv_iload_n (pc := 40) hx hb dX8_tell_40 rfl (lv_at hl 1 rfl) ?_
      refine lv_iconst (pc := 41) (v := 4) hx hb dX8_tell_41 (by decide) ?_
      refine lv_icmp_ne (pc := 42) (tgt := 51) hx hb dX8_tell_42 (by decide) (fun q6 => ?_) (fun q6 => ?_)
      · replace hf := if_f q6 hf
        refine lv_ldc2 (pc := 51) (v := 99) hx hb C.1.2.2.2.1 (C.1.2.2.2.2 _ zc_X8_105) dX8_tell_51 ?_
        exact J54 v1 v2 ((99 : Int64)) t0 t1 b_refused b_now _ _ _ hf hw (lv_sub hl [0, 1, 2] rfl)
      · replace hf := if_t q6 hf
        refine lv_ldc2 (pc := 45) (v := 9999) hx hb C.1.2.2.2.1 (C.1.2.2.2.2 _ zc_X8_103) dX8_tell_45 ?_
        refine lv_goto (pc := 48) (tgt := 54) hx hb dX8_tell_48 (by decide) ?_
        exact J54 v1 v2 ((9999 : Int64)) t0 t1 b_refused b_now _ _ _ hf hw (lv_sub hl [0, 1, 2] rfl)
    · replace hf := if_t q5 hf
      refine lv_ldc2 (pc := 34) (v := 9) hx hb C.1.2.2.2.1 (C.1.2.2.2.2 _ zc_X8_86) dX8_tell_34 ?_
      refine lv_goto (pc := 37) (tgt := 54) hx hb dX8_tell_37 (by decide) ?_
      exact J54 v1 v2 ((9 : Int64)) t0 t1 b_refused b_now _ _ _ hf hw (lv_sub hl [0, 1, 2] rfl)
  have J24 : ∀ (v1 : Int32) (v2 : Int32) (t0 : Int64) (b_refused : Nat → Int32) (b_now : Nat → Int32) (H : Heap) (locs : List Loc) (ls : Array Slot), zf_X8_tell_24 v1 v2 t0 b_refused b_now = some res → zWd G A s.heap H locs [xM M b_isKept b_size b_at b_from b_sort b_fled b_flights b_firstFlight b_bestHarms b_bestRage b_harmed b_raged, xI cy ((M 1)) 7 b_refused, xI cy ((M 2)) 39 b_now] → lv_has ls 4 [(0, .ref ((M 0))), (1, .int v1), (2, .int v2)] → W p l e zr_X8_tell s m args below meth c H locs 0 0 Q (F0 m 24 ls [.long t0]) := by
    intro v1 v2 t0 b_refused b_now H locs ls hf hw hl
    rw [zf_X8_tell_24] at hf
    refine lv_lconst (pc := 24) (v := 1) hx hb dX8_tell_24 (by decide) ?_
    refine lv_goto (pc := 25) (tgt := 29) hx hb dX8_tell_25 (by decide) ?_
    exact J29 v1 v2 ((1 : Int64)) t0 b_refused b_now _ _ _ hf hw (lv_sub hl [0, 1, 2] rfl)
  rw [zf_X8_tell] at hf
  refine lv_iload_n (pc := 0) hx hb dX8_tell_0 rfl (lv_at hl 1 rfl) ?_
  refine lv_i2l (pc := 1) (v := x1.toInt64) hx hb dX8_tell_1 rfl ?_
  refine lv_lconst (pc := 2) (v := 0) hx hb dX8_tell_2 (by decide) ?_
  refine lv_ldc2 (pc := 3) (v := 4) hx hb C.1.2.2.2.1 (C.1.2.2.2.2 _ zc_X8_101) dX8_tell_3 ?_
  obtain ⟨u1, u1e, hf⟩ := bd hf
  refine zk_cS (pc := 6) (rest := []) (st1 := [.int (bI u1)]) (w' := [xM M b_isKept b_size b_at b_from b_sort b_fled b_flights b_firstFlight b_bestHarms b_bestRage b_harmed b_raged, xI cy ((M 1)) 7 b_refused, xI cy ((M 2)) 39 b_now]) (mk := [none, none, none]) C hw (c_X8_isIn l G cy tt x1.toInt64 (((0 : Int64))) (((4 : Int64))) _ u1e) zy_X8_isIn zm_X8_68 [] rfl rfl rfl rfl rfl rfl rfl rfl hl.1 ⟨rfl, rfl⟩ ⟨Nat.le_of_ble_eq_true rfl, Nat.le_of_ble_eq_true rfl⟩ rfl (Nat.le_of_ble_eq_true rfl) ⟨Nat.zero_le _, Nat.zero_le _⟩ dX8_tell_6 (fun H locs hw => ?_)
  refine zk_ifz (pc := 9) (tgt := 60) hx hb dX8_tell_9 (by decide) (fun q2 => ?_) (fun q2 => ?_)
  · replace hf := if_f q2 hf
    exact J60 b_refused b_now _ _ _ hf hw (lv_sub hl [0] rfl)
  · replace hf := if_t q2 hf
    refine lv_iload_n (pc := 12) hx hb dX8_tell_12 rfl (lv_at hl 2 rfl) ?_
    refine lv_i2l (pc := 13) (v := x2.toInt64) hx hb dX8_tell_13 rfl ?_
    refine lv_iload_n (pc := 14) hx hb dX8_tell_14 rfl (lv_at hl 1 rfl) ?_
    refine lv_iconst (pc := 15) (v := 2) hx hb dX8_tell_15 (by decide) ?_
    refine lv_icmp_eq (pc := 16) (tgt := 24) hx hb dX8_tell_16 (by decide) (fun q3 => ?_) (fun q3 => ?_)
    · replace hf := if_t q3 hf
      exact J24 x1 x2 x2.toInt64 b_refused b_now _ _ _ hf hw (lv_sub hl [0, 1, 2] rfl)
    · replace hf := if_f q3 hf
      refine lv_iload_n (pc := 19) hx hb dX8_tell_19 rfl (lv_at hl 1 rfl) ?_
      refine lv_iconst (pc := 20) (v := 3) hx hb dX8_tell_20 (by decide) ?_
      refine lv_icmp_ne (pc := 21) (tgt := 28) hx hb dX8_tell_21 (by decide) (fun q4 => ?_) (fun q4 => ?_)
      · replace hf := if_f q4 hf
        refine lv_lconst (pc := 28) (v := 0) hx hb dX8_tell_28 (by decide) ?_
        exact J29 x1 x2 ((0 : Int64)) x2.toInt64 b_refused b_now _ _ _ hf hw (lv_sub hl [0, 1, 2] rfl)
      · replace hf := if_t q4 hf
        exact J24 x1 x2 x2.toInt64 b_refused b_now _ _ _ hf hw (lv_sub hl [0, 1, 2] rfl)
def zf_X8_feed (x1 : Int32) (b_refused : Nat → Int32) (b_tape : Nat → Int32) (b_size : Int32) : Option (Int32 × (Nat → Int32) × (Nat → Int32) × Int32) := (Option.bind (zf_X8_isIn x1.toInt64 (((0 : Int64))) (((255 : Int64)))) (fun u1 => (if u1 then (if b_size = (250 : Int32) then (Option.bind (zf_X8_refuse (((-6 : Int32))) b_refused) (fun u5 => some (u5.1, u5.2, b_tape, b_size))) else (if ix b_size 250 then some ((b_size + (1 : Int32)), b_refused, (upd b_tape b_size.toNatClampNeg x1), (b_size + (1 : Int32))) else none)) else (Option.bind (zf_X8_refuse (((-2 : Int32))) b_refused) (fun u6 => some (u6.1, u6.2, b_tape, b_size))))))
abbrev zr_X8_feed : Room := { frames := 1, cells := 0, slots := 0, locals := 25 }
set_option maxHeartbeats 4000000 in
set_option maxRecDepth 100000 in
theorem c_X8_feed (l : Launch) (G : va_G) (cy : Nat → ClassId) (tt : Nat → Nat) (M : Nat → Nat) (b_isKept : Bool) (b_at : Int32) (b_from : Int32) (b_sort : Int32) (b_fled : Bool) (b_flights : Int32) (b_firstFlight : Int32) (b_bestHarms : Int32) (b_bestRage : Int32) (b_harmed : Int64) (b_raged : Int64) (x1 : Int32) (b_refused : Nat → Int32) (b_tape : Nat → Int32) (b_size : Int32) (res : Int32 × (Nat → Int32) × (Nat → Int32) × Int32) (hf : zf_X8_feed x1 b_refused b_tape b_size = some res) : zCT l yX8_feed cX8_feed 2 (some .int) zr_X8_feed G cy tt [.ref ((M 0)), .int x1] [xM M b_isKept b_size b_at b_from b_sort b_fled b_flights b_firstFlight b_bestHarms b_bestRage b_harmed b_raged, xI cy ((M 1)) 7 b_refused, xI cy ((M 5)) 250 b_tape] (some (.int res.1)) [xM M b_isKept res.2.2.2 b_at b_from b_sort b_fled b_flights b_firstFlight b_bestHarms b_bestRage b_harmed b_raged, xI cy ((M 1)) 7 res.2.1, xI cy ((M 5)) 250 res.2.2.1] := by
  refine zk_start zn_X8 (Nat.le_of_ble_eq_true rfl) ?_
  intro p e s m args below meth c A ls Q C hr hQ hw hl
  have C : zCx p m c s args meth cX8_feed 2 RX8 G cy tt A := C
  have hx := C.1.1
  have hb := C.1.2.1
  have hl : lv_has ls 2 [(0, .ref ((M 0))), (1, .int x1)] := hl
  rw [zf_X8_feed] at hf
  refine lv_iload_n (pc := 0) hx hb dX8_feed_0 rfl (lv_at hl 1 rfl) ?_
  refine lv_i2l (pc := 1) (v := x1.toInt64) hx hb dX8_feed_1 rfl ?_
  refine lv_lconst (pc := 2) (v := 0) hx hb dX8_feed_2 (by decide) ?_
  refine lv_ldc2 (pc := 3) (v := 255) hx hb C.1.2.2.2.1 (C.1.2.2.2.2 _ zc_X8_107) dX8_feed_3 ?_
  obtain ⟨u1, u1e, hf⟩ := bd hf
  refine zk_cS (pc := 6) (rest := []) (st1 := [.int (bI u1)]) (w' := [xM M b_isKept b_size b_at b_from b_sort b_fled b_flights b_firstFlight b_bestHarms b_bestRage b_harmed b_raged, xI cy ((M 1)) 7 b_refused, xI cy ((M 5)) 250 b_tape]) (mk := [none, none, none]) C hw (c_X8_isIn l G cy tt x1.toInt64 (((0 : Int64))) (((255 : Int64))) _ u1e) zy_X8_isIn zm_X8_68 [] rfl rfl rfl rfl rfl rfl rfl rfl hl.1 ⟨rfl, rfl⟩ ⟨Nat.le_of_ble_eq_true rfl, Nat.le_of_ble_eq_true rfl⟩ rfl (Nat.le_of_ble_eq_true rfl) ⟨Nat.zero_le _, Nat.zero_le _⟩ dX8_feed_6 (fun H locs hw => ?_)
  refine zk_ifnz (pc := 9) (tgt := 19) hx hb dX8_feed_9 (by decide) (fun q2 => ?_) (fun q2 => ?_)
  · replace hf := if_t q2 hf
    refine lv_aload_n (pc := 19) hx hb dX8_feed_19 rfl (lv_at hl 0 rfl) ?_
    refine zk_gt (pc := 20) C hw zl_X8_109 0 rfl rfl dX8_feed_20 ?_
    refine lv_sipush (pc := 23) (v := 250) hx hb dX8_feed_23 (by decide) ?_
    refine lv_icmp_ne (pc := 26) (tgt := 36) hx hb dX8_feed_26 (by decide) (fun q3 => ?_) (fun q3 => ?_)
    · replace hf := if_f q3 hf
      refine lv_aload_n (pc := 36) hx hb dX8_feed_36 rfl (lv_at hl 0 rfl) ?_
      refine zk_gt (pc := 37) C hw zl_X8_26 0 rfl rfl dX8_feed_37 ?_
      refine lv_aload_n (pc := 40) hx hb dX8_feed_40 rfl (lv_at hl 0 rfl) ?_
      refine zk_gt (pc := 41) C hw zl_X8_109 0 rfl rfl dX8_feed_41 ?_
      refine lv_iload_n (pc := 44) hx hb dX8_feed_44 rfl (lv_at hl 1 rfl) ?_
      obtain ⟨q4, hf⟩ := ck hf
      refine zk_iast (pc := 45) (w' := [xM M b_isKept b_size b_at b_from b_sort b_fled b_flights b_firstFlight b_bestHarms b_bestRage b_harmed b_raged, xI cy ((M 1)) 7 b_refused, xI cy ((M 5)) 250 ((upd b_tape b_size.toNatClampNeg x1))]) C hw 2 rfl q4 rfl dX8_feed_45 (fun H locs hw => ?_)
      refine lv_aload_n (pc := 46) hx hb dX8_feed_46 rfl (lv_at hl 0 rfl) ?_
      refine lv_dup (pc := 47) hx hb dX8_feed_47 rfl ?_
      refine zk_gt (pc := 48) C hw zl_X8_109 0 rfl rfl dX8_feed_48 ?_
      refine lv_iconst (pc := 51) (v := 1) hx hb dX8_feed_51 (by decide) ?_
      refine lv_iadd (pc := 52) hx hb dX8_feed_52 ?_
      refine zk_put (pc := 53) (w' := [xM M b_isKept ((b_size + (1 : Int32))) b_at b_from b_sort b_fled b_flights b_firstFlight b_bestHarms b_bestRage b_harmed b_raged, xI cy ((M 1)) 7 b_refused, xI cy ((M 5)) 250 ((upd b_tape b_size.toNatClampNeg x1))]) C hw zp_X8_109 0 rfl rfl rfl (Nat.le_of_ble_eq_true rfl) rfl dX8_feed_53 (fun H locs hw => ?_)
      refine lv_aload_n (pc := 56) hx hb dX8_feed_56 rfl (lv_at hl 0 rfl) ?_
      refine zk_gt (pc := 57) C hw zl_X8_109 0 rfl rfl dX8_feed_57 ?_
      have hf := Option.some.inj hf
      subst hf
      exact zk_reti (pc := 60) (ww := [xM M b_isKept ((b_size + (1 : Int32))) b_at b_from b_sort b_fled b_flights b_firstFlight b_bestHarms b_bestRage b_harmed b_raged, xI cy ((M 1)) 7 b_refused, xI cy ((M 5)) 250 ((upd b_tape b_size.toNatClampNeg x1))]) C hw hr hQ dX8_feed_60
    · replace hf := if_t q3 hf
      refine lv_aload_n (pc := 29) hx hb dX8_feed_29 rfl (lv_at hl 0 rfl) ?_
      refine lv_bipush (pc := 30) (v := -6) hx hb dX8_feed_30 (by decide) ?_
      obtain ⟨u5, u5e, hf⟩ := bd hf
      refine zk_cV (pc := 32) (ci := 8) (q0 := 0) (rest := []) (st1 := [.int u5.1]) (w' := [xM M b_isKept b_size b_at b_from b_sort b_fled b_flights b_firstFlight b_bestHarms b_bestRage b_harmed b_raged, xI cy ((M 1)) 7 u5.2, xI cy ((M 5)) 250 b_tape]) (mk := [none, some (xI cy ((M 1)) 7 u5.2), none]) C hw (c_X8_refuse l G cy tt M b_isKept b_size b_at b_from b_sort b_fled b_flights b_firstFlight b_bestHarms b_bestRage b_harmed b_raged (((-6 : Int32))) b_refused _ u5e) zy_X8_refuse zm_X8_90 rfl rfl rfl [0, 1] rfl rfl rfl rfl rfl rfl rfl rfl hl.1 ⟨rfl, rfl⟩ ⟨Nat.le_of_ble_eq_true rfl, Nat.le_of_ble_eq_true rfl⟩ rfl (Nat.le_of_ble_eq_true rfl) ⟨Nat.zero_le _, Nat.zero_le _⟩ dX8_feed_32 (fun H locs hw => ?_)
      have hf := Option.some.inj hf
      subst hf
      exact zk_reti (pc := 35) (ww := [xM M b_isKept b_size b_at b_from b_sort b_fled b_flights b_firstFlight b_bestHarms b_bestRage b_harmed b_raged, xI cy ((M 1)) 7 u5.2, xI cy ((M 5)) 250 b_tape]) C hw hr hQ dX8_feed_35
  · replace hf := if_f q2 hf
    refine lv_aload_n (pc := 12) hx hb dX8_feed_12 rfl (lv_at hl 0 rfl) ?_
    refine lv_bipush (pc := 13) (v := -2) hx hb dX8_feed_13 (by decide) ?_
    obtain ⟨u6, u6e, hf⟩ := bd hf
    refine zk_cV (pc := 15) (ci := 8) (q0 := 0) (rest := []) (st1 := [.int u6.1]) (w' := [xM M b_isKept b_size b_at b_from b_sort b_fled b_flights b_firstFlight b_bestHarms b_bestRage b_harmed b_raged, xI cy ((M 1)) 7 u6.2, xI cy ((M 5)) 250 b_tape]) (mk := [none, some (xI cy ((M 1)) 7 u6.2), none]) C hw (c_X8_refuse l G cy tt M b_isKept b_size b_at b_from b_sort b_fled b_flights b_firstFlight b_bestHarms b_bestRage b_harmed b_raged (((-2 : Int32))) b_refused _ u6e) zy_X8_refuse zm_X8_90 rfl rfl rfl [0, 1] rfl rfl rfl rfl rfl rfl rfl rfl hl.1 ⟨rfl, rfl⟩ ⟨Nat.le_of_ble_eq_true rfl, Nat.le_of_ble_eq_true rfl⟩ rfl (Nat.le_of_ble_eq_true rfl) ⟨Nat.zero_le _, Nat.zero_le _⟩ dX8_feed_15 (fun H locs hw => ?_)
    have hf := Option.some.inj hf
    subst hf
    exact zk_reti (pc := 18) (ww := [xM M b_isKept b_size b_at b_from b_sort b_fled b_flights b_firstFlight b_bestHarms b_bestRage b_harmed b_raged, xI cy ((M 1)) 7 u6.2, xI cy ((M 5)) 250 b_tape]) C hw hr hQ dX8_feed_18
