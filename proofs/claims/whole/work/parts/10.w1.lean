def zf_X7_keeper_29 (b_staff : TSt) (b_refusals : Nat → Int32) : Option (Int32 × TSt × (Nat → Int32)) := (Option.bind (zf_X7_refused (((-2 : Int32))) b_refusals) (fun u11 => some (u11.1, b_staff, u11.2)))
def zf_X7_keeper (x1 : Int32) (x2 : Int32) (x3 : Int32) (b_staff : TSt) (b_refusals : Nat → Int32) : Option (Int32 × TSt × (Nat → Int32)) := (Option.bind (zf_X7_isWithin x1 (((0 : Int32))) (((5 : Int32)))) (fun u1 => (if u1 then (Option.bind (zf_X7_isWithin x2 (((0 : Int32))) (((9 : Int32)))) (fun u3 => (if u3 then (Option.bind (zf_X7_isWithin x3 (((0 : Int32))) (((40 : Int32)))) (fun u5 => (if u5 then (Option.bind (zf_X2_isFull b_staff) (fun u7 => (if u7 then (Option.bind (zf_X7_refused (((-6 : Int32))) b_refusals) (fun u10 => some (u10.1, b_staff, u10.2))) else (Option.bind (zf_X2_add x1 x2 x3 b_staff) (fun u9 => some (u9.1, u9.2, b_refusals)))))) else zf_X7_keeper_29 b_staff b_refusals))) else zf_X7_keeper_29 b_staff b_refusals))) else zf_X7_keeper_29 b_staff b_refusals)))
abbrev zr_X7_keeper : Room := { frames := 1, cells := 0, slots := 0, locals := 23 }
set_option maxHeartbeats 4000000 in
set_option maxRecDepth 100000 in
theorem c_X7_keeper (l : Launch) (G : va_G) (cy : Nat → ClassId) (tt : Nat → Nat) (L : Nat → Nat) (b_seedNow : Int32) (b_keptSeed : Int32) (b_isKept : Bool) (x1 : Int32) (x2 : Int32) (x3 : Int32) (b_staff : TSt) (b_refusals : Nat → Int32) (res : Int32 × TSt × (Nat → Int32)) (hf : zf_X7_keeper x1 x2 x3 b_staff b_refusals = some res) : zCT l yX7_keeper cX7_keeper 4 (some .int) zr_X7_keeper G cy tt [.ref ((L 0)), .int x1, .int x2, .int x3] [xU L b_seedNow b_keptSeed b_isKept, xSt ((L 5)) ((L 6)) ((L 7)) ((L 8)) ((L 9)) b_staff.1, xI cy ((L 6)) 8 b_staff.2.1, xI cy ((L 7)) 8 b_staff.2.2.1, xI cy ((L 8)) 8 b_staff.2.2.2.1, xI cy ((L 9)) 8 b_staff.2.2.2.2, xI cy ((L 48)) 5 b_refusals] (some (.int res.1)) [xU L b_seedNow b_keptSeed b_isKept, xSt ((L 5)) ((L 6)) ((L 7)) ((L 8)) ((L 9)) res.2.1.1, xI cy ((L 6)) 8 res.2.1.2.1, xI cy ((L 7)) 8 res.2.1.2.2.1, xI cy ((L 8)) 8 res.2.1.2.2.2.1, xI cy ((L 9)) 8 res.2.1.2.2.2.2, xI cy ((L 48)) 5 res.2.2] := by
  refine zk_start zn_X7 (Nat.le_of_ble_eq_true rfl) ?_
  intro p e s m args below meth c A ls Q C hr hQ hw hl
  have C : zCx p m c s args meth cX7_keeper 4 RX7 G cy tt A := C
  have hx := C.1.1
  have hb := C.1.2.1
  have hl : lv_has ls 4 [(0, .ref ((L 0))), (1, .int x1), (2, .int x2), (3, .int x3)] := hl
  have J29 : ∀ (b_staff : TSt) (b_refusals : Nat → Int32) (H : Heap) (locs : List Loc) (ls : Array Slot), zf_X7_keeper_29 b_staff b_refusals = some res → zWd G A s.heap H locs [xU L b_seedNow b_keptSeed b_isKept, xSt ((L 5)) ((L 6)) ((L 7)) ((L 8)) ((L 9)) b_staff.1, xI cy ((L 6)) 8 b_staff.2.1, xI cy ((L 7)) 8 b_staff.2.2.1, xI cy ((L 8)) 8 b_staff.2.2.2.1, xI cy ((L 9)) 8 b_staff.2.2.2.2, xI cy ((L 48)) 5 b_refusals] → lv_has ls 4 [(0, .ref ((L 0)))] → W p l e zr_X7_keeper s m args below meth c H locs 0 0 Q (F0 m 29 ls []) := by
    intro b_staff b_refusals H locs ls hf hw hl
    rw [zf_X7_keeper_29] at hf
    refine lv_aload_n (pc := 29) hx hb dX7_keeper_29 rfl (lv_at hl 0 rfl) ?_
    refine lv_bipush (pc := 30) (v := -2) hx hb dX7_keeper_30 (by decide) ?_
    obtain ⟨u11, u11e, hf⟩ := bd hf
    refine zk_cV (pc := 32) (ci := 7) (q0 := 0) (rest := []) (st1 := [.int u11.1]) (w' := [xU L b_seedNow b_keptSeed b_isKept, xSt ((L 5)) ((L 6)) ((L 7)) ((L 8)) ((L 9)) b_staff.1, xI cy ((L 6)) 8 b_staff.2.1, xI cy ((L 7)) 8 b_staff.2.2.1, xI cy ((L 8)) 8 b_staff.2.2.2.1, xI cy ((L 9)) 8 b_staff.2.2.2.2, xI cy ((L 48)) 5 u11.2]) (mk := [none, none, none, none, none, none, some (xI cy ((L 48)) 5 u11.2)]) C hw (c_X7_refused l G cy tt L b_seedNow b_keptSeed b_isKept (((-2 : Int32))) b_refusals _ u11e) zy_X7_refused zm_X7_103 rfl rfl rfl [0, 6] rfl rfl rfl rfl rfl rfl rfl rfl hl.1 ⟨rfl, rfl⟩ ⟨Nat.le_of_ble_eq_true rfl, Nat.le_of_ble_eq_true rfl⟩ rfl (Nat.le_of_ble_eq_true rfl) ⟨Nat.zero_le _, Nat.zero_le _⟩ dX7_keeper_32 (fun H locs hw => ?_)
    have hf := Option.some.inj hf
    subst hf
    exact zk_reti (pc := 35) (ww := [xU L b_seedNow b_keptSeed b_isKept, xSt ((L 5)) ((L 6)) ((L 7)) ((L 8)) ((L 9)) b_staff.1, xI cy ((L 6)) 8 b_staff.2.1, xI cy ((L 7)) 8 b_staff.2.2.1, xI cy ((L 8)) 8 b_staff.2.2.2.1, xI cy ((L 9)) 8 b_staff.2.2.2.2, xI cy ((L 48)) 5 u11.2]) C hw hr hQ dX7_keeper_35
  rw [zf_X7_keeper] at hf
  refine lv_iload_n (pc := 0) hx hb dX7_keeper_0 rfl (lv_at hl 1 rfl) ?_
  refine lv_iconst (pc := 1) (v := 0) hx hb dX7_keeper_1 (by decide) ?_
  refine lv_iconst (pc := 2) (v := 5) hx hb dX7_keeper_2 (by decide) ?_
  obtain ⟨u1, u1e, hf⟩ := bd hf
  refine zk_cS (pc := 3) (rest := []) (st1 := [.int (bI u1)]) (w' := [xU L b_seedNow b_keptSeed b_isKept, xSt ((L 5)) ((L 6)) ((L 7)) ((L 8)) ((L 9)) b_staff.1, xI cy ((L 6)) 8 b_staff.2.1, xI cy ((L 7)) 8 b_staff.2.2.1, xI cy ((L 8)) 8 b_staff.2.2.2.1, xI cy ((L 9)) 8 b_staff.2.2.2.2, xI cy ((L 48)) 5 b_refusals]) (mk := [none, none, none, none, none, none, none]) C hw (c_X7_isWithin l G cy tt x1 (((0 : Int32))) (((5 : Int32))) _ u1e) zy_X7_isWithin zm_X7_99 [] rfl rfl rfl rfl rfl rfl rfl rfl hl.1 ⟨rfl, rfl⟩ ⟨Nat.le_of_ble_eq_true rfl, Nat.le_of_ble_eq_true rfl⟩ rfl (Nat.le_of_ble_eq_true rfl) ⟨Nat.zero_le _, Nat.zero_le _⟩ dX7_keeper_3 (fun H locs hw => ?_)
  refine zk_ifz (pc := 6) (tgt := 29) hx hb dX7_keeper_6 (by decide) (fun q2 => ?_) (fun q2 => ?_)
  · replace hf := if_f q2 hf
    exact J29 b_staff b_refusals _ _ _ hf hw (lv_sub hl [0] rfl)
  · replace hf := if_t q2 hf
    refine lv_iload_n (pc := 9) hx hb dX7_keeper_9 rfl (lv_at hl 2 rfl) ?_
    refine lv_iconst (pc := 10) (v := 0) hx hb dX7_keeper_10 (by decide) ?_
    refine lv_bipush (pc := 11) (v := 9) hx hb dX7_keeper_11 (by decide) ?_
    obtain ⟨u3, u3e, hf⟩ := bd hf
    refine zk_cS (pc := 13) (rest := []) (st1 := [.int (bI u3)]) (w' := [xU L b_seedNow b_keptSeed b_isKept, xSt ((L 5)) ((L 6)) ((L 7)) ((L 8)) ((L 9)) b_staff.1, xI cy ((L 6)) 8 b_staff.2.1, xI cy ((L 7)) 8 b_staff.2.2.1, xI cy ((L 8)) 8 b_staff.2.2.2.1, xI cy ((L 9)) 8 b_staff.2.2.2.2, xI cy ((L 48)) 5 b_refusals]) (mk := [none, none, none, none, none, none, none]) C hw (c_X7_isWithin l G cy tt x2 (((0 : Int32))) (((9 : Int32))) _ u3e) zy_X7_isWithin zm_X7_99 [] rfl rfl rfl rfl rfl rfl rfl rfl hl.1 ⟨rfl, rfl⟩ ⟨Nat.le_of_ble_eq_true rfl, Nat.le_of_ble_eq_true rfl⟩ rfl (Nat.le_of_ble_eq_true rfl) ⟨Nat.zero_le _, Nat.zero_le _⟩ dX7_keeper_13 (fun H locs hw => ?_)
    refine zk_ifz (pc := 16) (tgt := 29) hx hb dX7_keeper_16 (by decide) (fun q4 => ?_) (fun q4 => ?_)
    · replace hf := if_f q4 hf
      exact J29 b_staff b_refusals _ _ _ hf hw (lv_sub hl [0] rfl)
    · replace hf := if_t q4 hf
      refine lv_iload_n (pc := 19) hx hb dX7_keeper_19 rfl (lv_at hl 3 rfl) ?_
      refine lv_iconst (pc := 20) (v := 0) hx hb dX7_keeper_20 (by decide) ?_
      refine lv_bipush (pc := 21) (v := 40) hx hb dX7_keeper_21 (by decide) ?_
      obtain ⟨u5, u5e, hf⟩ := bd hf
      refine zk_cS (pc := 23) (rest := []) (st1 := [.int (bI u5)]) (w' := [xU L b_seedNow b_keptSeed b_isKept, xSt ((L 5)) ((L 6)) ((L 7)) ((L 8)) ((L 9)) b_staff.1, xI cy ((L 6)) 8 b_staff.2.1, xI cy ((L 7)) 8 b_staff.2.2.1, xI cy ((L 8)) 8 b_staff.2.2.2.1, xI cy ((L 9)) 8 b_staff.2.2.2.2, xI cy ((L 48)) 5 b_refusals]) (mk := [none, none, none, none, none, none, none]) C hw (c_X7_isWithin l G cy tt x3 (((0 : Int32))) (((40 : Int32))) _ u5e) zy_X7_isWithin zm_X7_99 [] rfl rfl rfl rfl rfl rfl rfl rfl hl.1 ⟨rfl, rfl⟩ ⟨Nat.le_of_ble_eq_true rfl, Nat.le_of_ble_eq_true rfl⟩ rfl (Nat.le_of_ble_eq_true rfl) ⟨Nat.zero_le _, Nat.zero_le _⟩ dX7_keeper_23 (fun H locs hw => ?_)
      refine zk_ifnz (pc := 26) (tgt := 36) hx hb dX7_keeper_26 (by decide) (fun q6 => ?_) (fun q6 => ?_)
      · replace hf := if_t q6 hf
        refine lv_aload_n (pc := 36) hx hb dX7_keeper_36 rfl (lv_at hl 0 rfl) ?_
        refine zk_gt (pc := 37) C hw zl_X7_28 0 rfl rfl dX7_keeper_37 ?_
        obtain ⟨u7, u7e, hf⟩ := bd hf
        refine zk_cV (pc := 40) (ci := 2) (q0 := 1) (rest := []) (st1 := [.int (bI u7)]) (w' := [xU L b_seedNow b_keptSeed b_isKept, xSt ((L 5)) ((L 6)) ((L 7)) ((L 8)) ((L 9)) b_staff.1, xI cy ((L 6)) 8 b_staff.2.1, xI cy ((L 7)) 8 b_staff.2.2.1, xI cy ((L 8)) 8 b_staff.2.2.2.1, xI cy ((L 9)) 8 b_staff.2.2.2.2, xI cy ((L 48)) 5 b_refusals]) (mk := [none, none, none, none, none, none, none]) C hw (c_X2_isFull l G cy tt ((L 5)) ((L 6)) ((L 7)) ((L 8)) ((L 9)) b_staff _ u7e) zy_X2_isFull zm_X7_166 rfl rfl rfl [1, 2, 3, 4, 5] rfl rfl rfl rfl rfl rfl rfl rfl hl.1 ⟨rfl, rfl⟩ ⟨Nat.le_of_ble_eq_true rfl, Nat.le_of_ble_eq_true rfl⟩ rfl (Nat.le_of_ble_eq_true rfl) ⟨Nat.zero_le _, Nat.zero_le _⟩ dX7_keeper_40 (fun H locs hw => ?_)
        refine zk_ifz (pc := 43) (tgt := 53) hx hb dX7_keeper_43 (by decide) (fun q8 => ?_) (fun q8 => ?_)
        · replace hf := if_f q8 hf
          refine lv_aload_n (pc := 53) hx hb dX7_keeper_53 rfl (lv_at hl 0 rfl) ?_
          refine zk_gt (pc := 54) C hw zl_X7_28 0 rfl rfl dX7_keeper_54 ?_
          refine lv_iload_n (pc := 57) hx hb dX7_keeper_57 rfl (lv_at hl 1 rfl) ?_
          refine lv_iload_n (pc := 58) hx hb dX7_keeper_58 rfl (lv_at hl 2 rfl) ?_
          refine lv_iload_n (pc := 59) hx hb dX7_keeper_59 rfl (lv_at hl 3 rfl) ?_
          obtain ⟨u9, u9e, hf⟩ := bd hf
          refine zk_cV (pc := 60) (ci := 2) (q0 := 1) (rest := []) (st1 := [.int u9.1]) (w' := [xU L b_seedNow b_keptSeed b_isKept, xSt ((L 5)) ((L 6)) ((L 7)) ((L 8)) ((L 9)) u9.2.1, xI cy ((L 6)) 8 u9.2.2.1, xI cy ((L 7)) 8 u9.2.2.2.1, xI cy ((L 8)) 8 u9.2.2.2.2.1, xI cy ((L 9)) 8 u9.2.2.2.2.2, xI cy ((L 48)) 5 b_refusals]) (mk := [none, some (xSt ((L 5)) ((L 6)) ((L 7)) ((L 8)) ((L 9)) u9.2.1), some (xI cy ((L 6)) 8 u9.2.2.1), some (xI cy ((L 7)) 8 u9.2.2.2.1), some (xI cy ((L 8)) 8 u9.2.2.2.2.1), some (xI cy ((L 9)) 8 u9.2.2.2.2.2), none]) C hw (c_X2_add l G cy tt ((L 5)) ((L 6)) ((L 7)) ((L 8)) ((L 9)) x1 x2 x3 b_staff _ u9e) zy_X2_add zm_X7_170 rfl rfl rfl [1, 2, 3, 4, 5] rfl rfl rfl rfl rfl rfl rfl rfl hl.1 ⟨rfl, rfl⟩ ⟨Nat.le_of_ble_eq_true rfl, Nat.le_of_ble_eq_true rfl⟩ rfl (Nat.le_of_ble_eq_true rfl) ⟨Nat.zero_le _, Nat.zero_le _⟩ dX7_keeper_60 (fun H locs hw => ?_)
          have hf := Option.some.inj hf
          subst hf
          exact zk_reti (pc := 63) (ww := [xU L b_seedNow b_keptSeed b_isKept, xSt ((L 5)) ((L 6)) ((L 7)) ((L 8)) ((L 9)) u9.2.1, xI cy ((L 6)) 8 u9.2.2.1, xI cy ((L 7)) 8 u9.2.2.2.1, xI cy ((L 8)) 8 u9.2.2.2.2.1, xI cy ((L 9)) 8 u9.2.2.2.2.2, xI cy ((L 48)) 5 b_refusals]) C hw hr hQ dX7_keeper_63
        · replace hf := if_t q8 hf
          refine lv_aload_n (pc := 46) hx hb dX7_keeper_46 rfl (lv_at hl 0 rfl) ?_
          refine lv_bipush (pc := 47) (v := -6) hx hb dX7_keeper_47 (by decide) ?_
          obtain ⟨u10, u10e, hf⟩ := bd hf
          refine zk_cV (pc := 49) (ci := 7) (q0 := 0) (rest := []) (st1 := [.int u10.1]) (w' := [xU L b_seedNow b_keptSeed b_isKept, xSt ((L 5)) ((L 6)) ((L 7)) ((L 8)) ((L 9)) b_staff.1, xI cy ((L 6)) 8 b_staff.2.1, xI cy ((L 7)) 8 b_staff.2.2.1, xI cy ((L 8)) 8 b_staff.2.2.2.1, xI cy ((L 9)) 8 b_staff.2.2.2.2, xI cy ((L 48)) 5 u10.2]) (mk := [none, none, none, none, none, none, some (xI cy ((L 48)) 5 u10.2)]) C hw (c_X7_refused l G cy tt L b_seedNow b_keptSeed b_isKept (((-6 : Int32))) b_refusals _ u10e) zy_X7_refused zm_X7_103 rfl rfl rfl [0, 6] rfl rfl rfl rfl rfl rfl rfl rfl hl.1 ⟨rfl, rfl⟩ ⟨Nat.le_of_ble_eq_true rfl, Nat.le_of_ble_eq_true rfl⟩ rfl (Nat.le_of_ble_eq_true rfl) ⟨Nat.zero_le _, Nat.zero_le _⟩ dX7_keeper_49 (fun H locs hw => ?_)
          have hf := Option.some.inj hf
          subst hf
          exact zk_reti (pc := 52) (ww := [xU L b_seedNow b_keptSeed b_isKept, xSt ((L 5)) ((L 6)) ((L 7)) ((L 8)) ((L 9)) b_staff.1, xI cy ((L 6)) 8 b_staff.2.1, xI cy ((L 7)) 8 b_staff.2.2.1, xI cy ((L 8)) 8 b_staff.2.2.2.1, xI cy ((L 9)) 8 b_staff.2.2.2.2, xI cy ((L 48)) 5 u10.2]) C hw hr hQ dX7_keeper_52
      · replace hf := if_f q6 hf
        exact J29 b_staff b_refusals _ _ _ hf hw (lv_sub hl [0] rfl)
def zf_X2_putNerve (x1 : Int32) (x2 : Int32) (b_this : TSt) : Option (TSt) := (Option.bind (zf_X2_has x1 b_this) (fun u1 => (if u1 then (if ix x1 8 then some ((b_this.1, b_this.2.1, b_this.2.2.1, (upd b_this.2.2.2.1 x1.toNatClampNeg x2), b_this.2.2.2.2)) else none) else some (b_this))))
abbrev zr_X2_putNerve : Room := { frames := 1, cells := 0, slots := 0, locals := 21 }
set_option maxHeartbeats 4000000 in
set_option maxRecDepth 100000 in
theorem c_X2_putNerve (l : Launch) (G : va_G) (cy : Nat → ClassId) (tt : Nat → Nat) (a0 a1 a2 a3 a4 : Nat) (x1 : Int32) (x2 : Int32) (b_this : TSt) (res : TSt) (hf : zf_X2_putNerve x1 x2 b_this = some res) : zCT l yX2_putNerve cX2_putNerve 3 none zr_X2_putNerve G cy tt [.ref a0, .int x1, .int x2] [xSt a0 a1 a2 a3 a4 b_this.1, xI cy a1 8 b_this.2.1, xI cy a2 8 b_this.2.2.1, xI cy a3 8 b_this.2.2.2.1, xI cy a4 8 b_this.2.2.2.2] none [xSt a0 a1 a2 a3 a4 res.1, xI cy a1 8 res.2.1, xI cy a2 8 res.2.2.1, xI cy a3 8 res.2.2.2.1, xI cy a4 8 res.2.2.2.2] := by
  refine zk_start zn_X2 (Nat.le_of_ble_eq_true rfl) ?_
  intro p e s m args below meth c A ls Q C hr hQ hw hl
  have C : zCx p m c s args meth cX2_putNerve 3 RX2 G cy tt A := C
  have hx := C.1.1
  have hb := C.1.2.1
  have hl : lv_has ls 3 [(0, .ref a0), (1, .int x1), (2, .int x2)] := hl
  rw [zf_X2_putNerve] at hf
  refine lv_aload_n (pc := 0) hx hb dX2_putNerve_0 rfl (lv_at hl 0 rfl) ?_
  refine lv_iload_n (pc := 1) hx hb dX2_putNerve_1 rfl (lv_at hl 1 rfl) ?_
  obtain ⟨u1, u1e, hf⟩ := bd hf
  refine zk_cV (pc := 2) (ci := 2) (q0 := 0) (rest := []) (st1 := [.int (bI u1)]) (w' := [xSt a0 a1 a2 a3 a4 b_this.1, xI cy a1 8 b_this.2.1, xI cy a2 8 b_this.2.2.1, xI cy a3 8 b_this.2.2.2.1, xI cy a4 8 b_this.2.2.2.2]) (mk := [none, none, none, none, none]) C hw (c_X2_has l G cy tt a0 a1 a2 a3 a4 x1 b_this _ u1e) zy_X2_has zm_X2_28 rfl rfl rfl [0, 1, 2, 3, 4] rfl rfl rfl rfl rfl rfl rfl rfl hl.1 ⟨rfl, rfl⟩ ⟨Nat.le_of_ble_eq_true rfl, Nat.le_of_ble_eq_true rfl⟩ rfl (Nat.le_of_ble_eq_true rfl) ⟨Nat.zero_le _, Nat.zero_le _⟩ dX2_putNerve_2 (fun H locs hw => ?_)
  refine zk_ifz (pc := 5) (tgt := 15) hx hb dX2_putNerve_5 (by decide) (fun q2 => ?_) (fun q2 => ?_)
  · replace hf := if_f q2 hf
    have hf := Option.some.inj hf
    subst hf
    exact zk_retv (pc := 15) (ww := [xSt a0 a1 a2 a3 a4 b_this.1, xI cy a1 8 b_this.2.1, xI cy a2 8 b_this.2.2.1, xI cy a3 8 b_this.2.2.2.1, xI cy a4 8 b_this.2.2.2.2]) C hw hr hQ dX2_putNerve_15
  · replace hf := if_t q2 hf
    refine lv_aload_n (pc := 8) hx hb dX2_putNerve_8 rfl (lv_at hl 0 rfl) ?_
    refine zk_gt (pc := 9) C hw zl_X2_22 0 rfl rfl dX2_putNerve_9 ?_
    refine lv_iload_n (pc := 12) hx hb dX2_putNerve_12 rfl (lv_at hl 1 rfl) ?_
    refine lv_iload_n (pc := 13) hx hb dX2_putNerve_13 rfl (lv_at hl 2 rfl) ?_
    obtain ⟨q3, hf⟩ := ck hf
    refine zk_iast (pc := 14) (w' := [xSt a0 a1 a2 a3 a4 b_this.1, xI cy a1 8 b_this.2.1, xI cy a2 8 b_this.2.2.1, xI cy a3 8 ((upd b_this.2.2.2.1 x1.toNatClampNeg x2)), xI cy a4 8 b_this.2.2.2.2]) C hw 3 rfl q3 rfl dX2_putNerve_14 (fun H locs hw => ?_)
    have hf := Option.some.inj hf
    subst hf
    exact zk_retv (pc := 15) (ww := [xSt a0 a1 a2 a3 a4 b_this.1, xI cy a1 8 b_this.2.1, xI cy a2 8 b_this.2.2.1, xI cy a3 8 ((upd b_this.2.2.2.1 x1.toNatClampNeg x2)), xI cy a4 8 b_this.2.2.2.2]) C hw hr hQ dX2_putNerve_15
def zf_X7_nerve_21 (b_staff : TSt) (b_refusals : Nat → Int32) : Option (Int32 × TSt × (Nat → Int32)) := (Option.bind (zf_X7_refused (((-2 : Int32))) b_refusals) (fun u7 => some (u7.1, b_staff, u7.2)))
def zf_X7_nerve (x1 : Int32) (x2 : Int32) (b_staff : TSt) (b_refusals : Nat → Int32) : Option (Int32 × TSt × (Nat → Int32)) := (Option.bind (zf_X2_has x1 b_staff) (fun u1 => (if u1 then (Option.bind (zf_X7_isWithin x2 (((0 : Int32))) (((40 : Int32)))) (fun u3 => (if u3 then (Option.bind (zf_X2_nerveOf x1 b_staff) (fun u5 => (Option.bind (zf_X2_putNerve x1 x2 b_staff) (fun u6 => some (u5, u6, b_refusals))))) else zf_X7_nerve_21 b_staff b_refusals))) else zf_X7_nerve_21 b_staff b_refusals)))
abbrev zr_X7_nerve : Room := { frames := 2, cells := 0, slots := 0, locals := 43 }
set_option maxHeartbeats 4000000 in
set_option maxRecDepth 100000 in
theorem c_X7_nerve (l : Launch) (G : va_G) (cy : Nat → ClassId) (tt : Nat → Nat) (L : Nat → Nat) (b_seedNow : Int32) (b_keptSeed : Int32) (b_isKept : Bool) (x1 : Int32) (x2 : Int32) (b_staff : TSt) (b_refusals : Nat → Int32) (res : Int32 × TSt × (Nat → Int32)) (hf : zf_X7_nerve x1 x2 b_staff b_refusals = some res) : zCT l yX7_nerve cX7_nerve 4 (some .int) zr_X7_nerve G cy tt [.ref ((L 0)), .int x1, .int x2] [xU L b_seedNow b_keptSeed b_isKept, xSt ((L 5)) ((L 6)) ((L 7)) ((L 8)) ((L 9)) b_staff.1, xI cy ((L 6)) 8 b_staff.2.1, xI cy ((L 7)) 8 b_staff.2.2.1, xI cy ((L 8)) 8 b_staff.2.2.2.1, xI cy ((L 9)) 8 b_staff.2.2.2.2, xI cy ((L 48)) 5 b_refusals] (some (.int res.1)) [xU L b_seedNow b_keptSeed b_isKept, xSt ((L 5)) ((L 6)) ((L 7)) ((L 8)) ((L 9)) res.2.1.1, xI cy ((L 6)) 8 res.2.1.2.1, xI cy ((L 7)) 8 res.2.1.2.2.1, xI cy ((L 8)) 8 res.2.1.2.2.2.1, xI cy ((L 9)) 8 res.2.1.2.2.2.2, xI cy ((L 48)) 5 res.2.2] := by
  refine zk_start zn_X7 (Nat.le_of_ble_eq_true rfl) ?_
  intro p e s m args below meth c A ls Q C hr hQ hw hl
  have C : zCx p m c s args meth cX7_nerve 4 RX7 G cy tt A := C
  have hx := C.1.1
  have hb := C.1.2.1
  have hl : lv_has ls 4 [(0, .ref ((L 0))), (1, .int x1), (2, .int x2)] := hl
  have J21 : ∀ (b_staff : TSt) (b_refusals : Nat → Int32) (H : Heap) (locs : List Loc) (ls : Array Slot), zf_X7_nerve_21 b_staff b_refusals = some res → zWd G A s.heap H locs [xU L b_seedNow b_keptSeed b_isKept, xSt ((L 5)) ((L 6)) ((L 7)) ((L 8)) ((L 9)) b_staff.1, xI cy ((L 6)) 8 b_staff.2.1, xI cy ((L 7)) 8 b_staff.2.2.1, xI cy ((L 8)) 8 b_staff.2.2.2.1, xI cy ((L 9)) 8 b_staff.2.2.2.2, xI cy ((L 48)) 5 b_refusals] → lv_has ls 4 [(0, .ref ((L 0)))] → W p l e zr_X7_nerve s m args below meth c H locs 0 0 Q (F0 m 21 ls []) := by
    intro b_staff b_refusals H locs ls hf hw hl
    rw [zf_X7_nerve_21] at hf
    refine lv_aload_n (pc := 21) hx hb dX7_nerve_21 rfl (lv_at hl 0 rfl) ?_
    refine lv_bipush (pc := 22) (v := -2) hx hb dX7_nerve_22 (by decide) ?_
    obtain ⟨u7, u7e, hf⟩ := bd hf
    refine zk_cV (pc := 24) (ci := 7) (q0 := 0) (rest := []) (st1 := [.int u7.1]) (w' := [xU L b_seedNow b_keptSeed b_isKept, xSt ((L 5)) ((L 6)) ((L 7)) ((L 8)) ((L 9)) b_staff.1, xI cy ((L 6)) 8 b_staff.2.1, xI cy ((L 7)) 8 b_staff.2.2.1, xI cy ((L 8)) 8 b_staff.2.2.2.1, xI cy ((L 9)) 8 b_staff.2.2.2.2, xI cy ((L 48)) 5 u7.2]) (mk := [none, none, none, none, none, none, some (xI cy ((L 48)) 5 u7.2)]) C hw (c_X7_refused l G cy tt L b_seedNow b_keptSeed b_isKept (((-2 : Int32))) b_refusals _ u7e) zy_X7_refused zm_X7_103 rfl rfl rfl [0, 6] rfl rfl rfl rfl rfl rfl rfl rfl hl.1 ⟨rfl, rfl⟩ ⟨Nat.le_of_ble_eq_true rfl, Nat.le_of_ble_eq_true rfl⟩ rfl (Nat.le_of_ble_eq_true rfl) ⟨Nat.zero_le _, Nat.zero_le _⟩ dX7_nerve_24 (fun H locs hw => ?_)
    have hf := Option.some.inj hf
    subst hf
    exact zk_reti (pc := 27) (ww := [xU L b_seedNow b_keptSeed b_isKept, xSt ((L 5)) ((L 6)) ((L 7)) ((L 8)) ((L 9)) b_staff.1, xI cy ((L 6)) 8 b_staff.2.1, xI cy ((L 7)) 8 b_staff.2.2.1, xI cy ((L 8)) 8 b_staff.2.2.2.1, xI cy ((L 9)) 8 b_staff.2.2.2.2, xI cy ((L 48)) 5 u7.2]) C hw hr hQ dX7_nerve_27
  rw [zf_X7_nerve] at hf
  refine lv_aload_n (pc := 0) hx hb dX7_nerve_0 rfl (lv_at hl 0 rfl) ?_
  refine zk_gt (pc := 1) C hw zl_X7_28 0 rfl rfl dX7_nerve_1 ?_
  refine lv_iload_n (pc := 4) hx hb dX7_nerve_4 rfl (lv_at hl 1 rfl) ?_
  obtain ⟨u1, u1e, hf⟩ := bd hf
  refine zk_cV (pc := 5) (ci := 2) (q0 := 1) (rest := []) (st1 := [.int (bI u1)]) (w' := [xU L b_seedNow b_keptSeed b_isKept, xSt ((L 5)) ((L 6)) ((L 7)) ((L 8)) ((L 9)) b_staff.1, xI cy ((L 6)) 8 b_staff.2.1, xI cy ((L 7)) 8 b_staff.2.2.1, xI cy ((L 8)) 8 b_staff.2.2.2.1, xI cy ((L 9)) 8 b_staff.2.2.2.2, xI cy ((L 48)) 5 b_refusals]) (mk := [none, none, none, none, none, none, none]) C hw (c_X2_has l G cy tt ((L 5)) ((L 6)) ((L 7)) ((L 8)) ((L 9)) x1 b_staff _ u1e) zy_X2_has zm_X7_146 rfl rfl rfl [1, 2, 3, 4, 5] rfl rfl rfl rfl rfl rfl rfl rfl hl.1 ⟨rfl, rfl⟩ ⟨Nat.le_of_ble_eq_true rfl, Nat.le_of_ble_eq_true rfl⟩ rfl (Nat.le_of_ble_eq_true rfl) ⟨Nat.zero_le _, Nat.zero_le _⟩ dX7_nerve_5 (fun H locs hw => ?_)
  refine zk_ifz (pc := 8) (tgt := 21) hx hb dX7_nerve_8 (by decide) (fun q2 => ?_) (fun q2 => ?_)
  · replace hf := if_f q2 hf
    exact J21 b_staff b_refusals _ _ _ hf hw (lv_sub hl [0] rfl)
  · replace hf := if_t q2 hf
    refine lv_iload_n (pc := 11) hx hb dX7_nerve_11 rfl (lv_at hl 2 rfl) ?_
    refine lv_iconst (pc := 12) (v := 0) hx hb dX7_nerve_12 (by decide) ?_
    refine lv_bipush (pc := 13) (v := 40) hx hb dX7_nerve_13 (by decide) ?_
    obtain ⟨u3, u3e, hf⟩ := bd hf
    refine zk_cS (pc := 15) (rest := []) (st1 := [.int (bI u3)]) (w' := [xU L b_seedNow b_keptSeed b_isKept, xSt ((L 5)) ((L 6)) ((L 7)) ((L 8)) ((L 9)) b_staff.1, xI cy ((L 6)) 8 b_staff.2.1, xI cy ((L 7)) 8 b_staff.2.2.1, xI cy ((L 8)) 8 b_staff.2.2.2.1, xI cy ((L 9)) 8 b_staff.2.2.2.2, xI cy ((L 48)) 5 b_refusals]) (mk := [none, none, none, none, none, none, none]) C hw (c_X7_isWithin l G cy tt x2 (((0 : Int32))) (((40 : Int32))) _ u3e) zy_X7_isWithin zm_X7_99 [] rfl rfl rfl rfl rfl rfl rfl rfl hl.1 ⟨rfl, rfl⟩ ⟨Nat.le_of_ble_eq_true rfl, Nat.le_of_ble_eq_true rfl⟩ rfl (Nat.le_of_ble_eq_true rfl) ⟨Nat.zero_le _, Nat.zero_le _⟩ dX7_nerve_15 (fun H locs hw => ?_)
    refine zk_ifnz (pc := 18) (tgt := 28) hx hb dX7_nerve_18 (by decide) (fun q4 => ?_) (fun q4 => ?_)
    · replace hf := if_t q4 hf
      refine lv_aload_n (pc := 28) hx hb dX7_nerve_28 rfl (lv_at hl 0 rfl) ?_
      refine zk_gt (pc := 29) C hw zl_X7_28 0 rfl rfl dX7_nerve_29 ?_
      refine lv_iload_n (pc := 32) hx hb dX7_nerve_32 rfl (lv_at hl 1 rfl) ?_
      obtain ⟨u5, u5e, hf⟩ := bd hf
      refine zk_cV (pc := 33) (ci := 2) (q0 := 1) (rest := []) (st1 := [.int u5]) (w' := [xU L b_seedNow b_keptSeed b_isKept, xSt ((L 5)) ((L 6)) ((L 7)) ((L 8)) ((L 9)) b_staff.1, xI cy ((L 6)) 8 b_staff.2.1, xI cy ((L 7)) 8 b_staff.2.2.1, xI cy ((L 8)) 8 b_staff.2.2.2.1, xI cy ((L 9)) 8 b_staff.2.2.2.2, xI cy ((L 48)) 5 b_refusals]) (mk := [none, none, none, none, none, none, none]) C hw (c_X2_nerveOf l G cy tt ((L 5)) ((L 6)) ((L 7)) ((L 8)) ((L 9)) x1 b_staff _ u5e) zy_X2_nerveOf zm_X7_159 rfl rfl rfl [1, 2, 3, 4, 5] rfl rfl rfl rfl rfl rfl rfl rfl hl.1 ⟨rfl, rfl⟩ ⟨Nat.le_of_ble_eq_true rfl, Nat.le_of_ble_eq_true rfl⟩ rfl (Nat.le_of_ble_eq_true rfl) ⟨Nat.zero_le _, Nat.zero_le _⟩ dX7_nerve_33 (fun H locs hw => ?_)
      refine lv_istore_n (pc := 36) (lv' := [(3, .int u5), (0, .ref ((L 0))), (1, .int x1), (2, .int x2)]) hx hb dX7_nerve_36 rfl hl (by decide) rfl (fun ls hl => ?_)
      refine lv_aload_n (pc := 37) hx hb dX7_nerve_37 rfl (lv_at hl 1 rfl) ?_
      refine zk_gt (pc := 38) C hw zl_X7_28 0 rfl rfl dX7_nerve_38 ?_
      refine lv_iload_n (pc := 41) hx hb dX7_nerve_41 rfl (lv_at hl 2 rfl) ?_
      refine lv_iload_n (pc := 42) hx hb dX7_nerve_42 rfl (lv_at hl 3 rfl) ?_
      obtain ⟨u6, u6e, hf⟩ := bd hf
      refine zk_cV (pc := 43) (ci := 2) (q0 := 1) (rest := []) (st1 := []) (w' := [xU L b_seedNow b_keptSeed b_isKept, xSt ((L 5)) ((L 6)) ((L 7)) ((L 8)) ((L 9)) u6.1, xI cy ((L 6)) 8 u6.2.1, xI cy ((L 7)) 8 u6.2.2.1, xI cy ((L 8)) 8 u6.2.2.2.1, xI cy ((L 9)) 8 u6.2.2.2.2, xI cy ((L 48)) 5 b_refusals]) (mk := [none, some (xSt ((L 5)) ((L 6)) ((L 7)) ((L 8)) ((L 9)) u6.1), some (xI cy ((L 6)) 8 u6.2.1), some (xI cy ((L 7)) 8 u6.2.2.1), some (xI cy ((L 8)) 8 u6.2.2.2.1), some (xI cy ((L 9)) 8 u6.2.2.2.2), none]) C hw (c_X2_putNerve l G cy tt ((L 5)) ((L 6)) ((L 7)) ((L 8)) ((L 9)) x1 x2 b_staff _ u6e) zy_X2_putNerve zm_X7_174 rfl rfl rfl [1, 2, 3, 4, 5] rfl rfl rfl rfl rfl rfl rfl rfl hl.1 ⟨rfl, rfl⟩ ⟨Nat.le_of_ble_eq_true rfl, Nat.le_of_ble_eq_true rfl⟩ rfl (Nat.le_of_ble_eq_true rfl) ⟨Nat.zero_le _, Nat.zero_le _⟩ dX7_nerve_43 (fun H locs hw => ?_)
      refine lv_iload_n (pc := 46) hx hb dX7_nerve_46 rfl (lv_at hl 0 rfl) ?_
      have hf := Option.some.inj hf
      subst hf
      exact zk_reti (pc := 47) (ww := [xU L b_seedNow b_keptSeed b_isKept, xSt ((L 5)) ((L 6)) ((L 7)) ((L 8)) ((L 9)) u6.1, xI cy ((L 6)) 8 u6.2.1, xI cy ((L 7)) 8 u6.2.2.1, xI cy ((L 8)) 8 u6.2.2.2.1, xI cy ((L 9)) 8 u6.2.2.2.2, xI cy ((L 48)) 5 b_refusals]) C hw hr hQ dX7_nerve_47
    · replace hf := if_f q4 hf
      exact J21 b_staff b_refusals _ _ _ hf hw (lv_sub hl [0] rfl)
def zf_X7_mayBe (x0 : Int32) (x1 : Int32) : Option (Bool) := (Option.bind (zf_X7_isWithin x0 (((0 : Int32))) (((4 : Int32)))) (fun u1 => (if u1 then (if ix x0 5 then (if ix x0 5 then (Option.bind (zf_X7_isWithin x1 (((zLEA x0.toNatClampNeg))) (((zMOS x0.toNatClampNeg)))) (fun u5 => (if u5 then some (true) else some (false)))) else none) else none) else some (false))))
abbrev zr_X7_mayBe : Room := { frames := 1, cells := 0, slots := 0, locals := 22 }
set_option maxHeartbeats 4000000 in
set_option maxRecDepth 100000 in
theorem c_X7_mayBe (l : Launch) (G : va_G) (cy : Nat → ClassId) (tt : Nat → Nat)  (x0 : Int32) (x1 : Int32) (res : Bool) (hf : zf_X7_mayBe x0 x1 = some res) : zCT l yX7_mayBe cX7_mayBe 2 (some .boolean) zr_X7_mayBe G cy tt [.int x0, .int x1] [] (some (.int (bI res))) [] := by
  refine zk_start zn_X7 (Nat.le_of_ble_eq_true rfl) ?_
  intro p e s m args below meth c A ls Q C hr hQ hw hl
  have C : zCx p m c s args meth cX7_mayBe 2 RX7 G cy tt A := C
  have hx := C.1.1
  have hb := C.1.2.1
  have hl : lv_has ls 2 [(0, .int x0), (1, .int x1)] := hl
  rw [zf_X7_mayBe] at hf
  refine lv_iload_n (pc := 0) hx hb dX7_mayBe_0 rfl (lv_at hl 0 rfl) ?_
  refine lv_iconst (pc := 1) (v := 0) hx hb dX7_mayBe_1 (by decide) ?_
  refine lv_iconst (pc := 2) (v := 4) hx hb dX7_mayBe_2 (by decide) ?_
  obtain ⟨u1, u1e, hf⟩ := bd hf
  refine zk_cS (pc := 3) (rest := []) (st1 := [.int (bI u1)]) (w' := []) (mk := []) C hw (c_X7_isWithin l G cy tt x0 (((0 : Int32))) (((4 : Int32))) _ u1e) zy_X7_isWithin zm_X7_99 [] rfl rfl rfl rfl rfl rfl rfl rfl hl.1 ⟨rfl, rfl⟩ ⟨Nat.le_of_ble_eq_true rfl, Nat.le_of_ble_eq_true rfl⟩ rfl (Nat.le_of_ble_eq_true rfl) ⟨Nat.zero_le _, Nat.zero_le _⟩ dX7_mayBe_3 (fun H locs hw => ?_)
  refine zk_ifz (pc := 6) (tgt := 30) hx hb dX7_mayBe_6 (by decide) (fun q2 => ?_) (fun q2 => ?_)
  · replace hf := if_f q2 hf
    refine lv_iconst (pc := 30) (v := 0) hx hb dX7_mayBe_30 (by decide) ?_
    have hf := Option.some.inj hf
    subst hf
    exact zk_retz (pc := 31) (b := false) (ww := []) C hw hr hQ dX7_mayBe_31
  · replace hf := if_t q2 hf
    refine lv_iload_n (pc := 9) hx hb dX7_mayBe_9 rfl (lv_at hl 1 rfl) ?_
    refine va_gets (pc := 10) hx hb C.2.2.2.2.1.2.1.1 hw.2.2 C.1.2.2.2.1 (C.1.2.2.2.2 _ zg_X7_384) (fun _ h => h) dX7_mayBe_10 ?_
    refine lv_iload_n (pc := 13) hx hb dX7_mayBe_13 rfl (lv_at hl 0 rfl) ?_
    obtain ⟨q3, hf⟩ := ck hf
    refine zk_sti (pc := 14) (f := zLEA) C hw C.2.2.2.2.1.2.1.2 q3 dX7_mayBe_14 ?_
    refine va_gets (pc := 15) hx hb C.2.2.2.2.1.2.2.1.1 hw.2.2 C.1.2.2.2.1 (C.1.2.2.2.2 _ zg_X7_387) (fun _ h => h) dX7_mayBe_15 ?_
    refine lv_iload_n (pc := 18) hx hb dX7_mayBe_18 rfl (lv_at hl 0 rfl) ?_
    obtain ⟨q4, hf⟩ := ck hf
    refine zk_sti (pc := 19) (f := zMOS) C hw C.2.2.2.2.1.2.2.1.2 q4 dX7_mayBe_19 ?_
    obtain ⟨u5, u5e, hf⟩ := bd hf
    refine zk_cS (pc := 20) (rest := []) (st1 := [.int (bI u5)]) (w' := []) (mk := []) C hw (c_X7_isWithin l G cy tt x1 (((zLEA x0.toNatClampNeg))) (((zMOS x0.toNatClampNeg))) _ u5e) zy_X7_isWithin zm_X7_99 [] rfl rfl rfl rfl rfl rfl rfl rfl hl.1 ⟨rfl, rfl⟩ ⟨Nat.le_of_ble_eq_true rfl, Nat.le_of_ble_eq_true rfl⟩ rfl (Nat.le_of_ble_eq_true rfl) ⟨Nat.zero_le _, Nat.zero_le _⟩ dX7_mayBe_20 (fun H locs hw => ?_)
    refine zk_ifz (pc := 23) (tgt := 30) hx hb dX7_mayBe_23 (by decide) (fun q6 => ?_) (fun q6 => ?_)
    · replace hf := if_f q6 hf
      refine lv_iconst (pc := 30) (v := 0) hx hb dX7_mayBe_30 (by decide) ?_
      have hf := Option.some.inj hf
      subst hf
      exact zk_retz (pc := 31) (b := false) (ww := []) C hw hr hQ dX7_mayBe_31
    · replace hf := if_t q6 hf
      refine lv_iconst (pc := 26) (v := 1) hx hb dX7_mayBe_26 (by decide) ?_
      refine lv_goto (pc := 27) (tgt := 31) hx hb dX7_mayBe_27 (by decide) ?_
      have hf := Option.some.inj hf
      subst hf
      exact zk_retz (pc := 31) (b := true) (ww := []) C hw hr hQ dX7_mayBe_31
def zf_X5_measure (x1 : Int32) (b_this : TTe) : Option (Int32) := (if x1 = 0 then some (b_this.1) else (if x1 = 1 then some (b_this.2.1) else (if x1 = 2 then some (b_this.2.2.1) else (if x1 = 3 then some (b_this.2.2.2.1) else some (b_this.2.2.2.2.1)))))
abbrev zr_X5_measure : Room := { frames := 0, cells := 0, slots := 0, locals := 0 }
set_option maxHeartbeats 4000000 in
set_option maxRecDepth 100000 in
theorem c_X5_measure (l : Launch) (G : va_G) (cy : Nat → ClassId) (tt : Nat → Nat) (a0 : Nat) (x1 : Int32) (b_this : TTe) (res : Int32) (hf : zf_X5_measure x1 b_this = some res) : zCT l yX5_measure cX5_measure 2 (some .int) zr_X5_measure G cy tt [.ref a0, .int x1] [xTe a0 b_this] (some (.int res)) [xTe a0 b_this] := by
  refine zk_start zn_X5 (Nat.le_of_ble_eq_true rfl) ?_
  intro p e s m args below meth c A ls Q C hr hQ hw hl
  have C : zCx p m c s args meth cX5_measure 2 RX5 G cy tt A := C
  have hx := C.1.1
  have hb := C.1.2.1
  have hl : lv_has ls 2 [(0, .ref a0), (1, .int x1)] := hl
  rw [zf_X5_measure] at hf
  refine lv_iload_n (pc := 0) hx hb dX5_measure_0 rfl (lv_at hl 1 rfl) ?_
  by_cases q1 : x1 = (0 : Int32)
  · replace hf := if_t q1 hf
    refine zk_tabIn (pc := 1) (off := 31) (tgt := 32) q1 C dX5_measure_1 (by decide) (by decide) (by decide +kernel) (by decide) ?_
    refine lv_aload_n (pc := 32) hx hb dX5_measure_32 rfl (lv_at hl 0 rfl) ?_
    refine zk_gt (pc := 33) C hw zl_X5_9 0 rfl rfl dX5_measure_33 ?_
    have hf := Option.some.inj hf
    subst hf
    exact zk_reti (pc := 36) (ww := [xTe a0 b_this]) C hw hr hQ dX5_measure_36
  · replace hf := if_f q1 hf
    by_cases q2 : x1 = (1 : Int32)
    · replace hf := if_t q2 hf
      refine zk_tabIn (pc := 1) (off := 36) (tgt := 37) q2 C dX5_measure_1 (by decide) (by decide) (by decide +kernel) (by decide) ?_
      refine lv_aload_n (pc := 37) hx hb dX5_measure_37 rfl (lv_at hl 0 rfl) ?_
      refine zk_gt (pc := 38) C hw zl_X5_15 0 rfl rfl dX5_measure_38 ?_
      have hf := Option.some.inj hf
      subst hf
      exact zk_reti (pc := 41) (ww := [xTe a0 b_this]) C hw hr hQ dX5_measure_41
    · replace hf := if_f q2 hf
      by_cases q3 : x1 = (2 : Int32)
      · replace hf := if_t q3 hf
        refine zk_tabIn (pc := 1) (off := 41) (tgt := 42) q3 C dX5_measure_1 (by decide) (by decide) (by decide +kernel) (by decide) ?_
        refine lv_aload_n (pc := 42) hx hb dX5_measure_42 rfl (lv_at hl 0 rfl) ?_
        refine zk_gt (pc := 43) C hw zl_X5_18 0 rfl rfl dX5_measure_43 ?_
        have hf := Option.some.inj hf
        subst hf
        exact zk_reti (pc := 46) (ww := [xTe a0 b_this]) C hw hr hQ dX5_measure_46
      · replace hf := if_f q3 hf
        by_cases q4 : x1 = (3 : Int32)
        · replace hf := if_t q4 hf
          refine zk_tabIn (pc := 1) (off := 46) (tgt := 47) q4 C dX5_measure_1 (by decide) (by decide) (by decide +kernel) (by decide) ?_
          refine lv_aload_n (pc := 47) hx hb dX5_measure_47 rfl (lv_at hl 0 rfl) ?_
          refine zk_gt (pc := 48) C hw zl_X5_21 0 rfl rfl dX5_measure_48 ?_
          have hf := Option.some.inj hf
          subst hf
          exact zk_reti (pc := 51) (ww := [xTe a0 b_this]) C hw hr hQ dX5_measure_51
        · replace hf := if_f q4 hf
          have eq1 := i32_ne (n := 0) (by decide) q1
          have eq2 := i32_ne (n := 1) (by decide) q2
          have eq3 := i32_ne (n := 2) (by decide) q3
          have eq4 := i32_ne (n := 3) (by decide) q4
          refine lv_tableOut (pc := 1) (tgt := 52) hx hb dX5_measure_1 (by omega) (by decide) ?_
          refine lv_aload_n (pc := 52) hx hb dX5_measure_52 rfl (lv_at hl 0 rfl) ?_
          refine zk_gt (pc := 53) C hw zl_X5_24 0 rfl rfl dX5_measure_53 ?_
          have hf := Option.some.inj hf
          subst hf
          exact zk_reti (pc := 56) (ww := [xTe a0 b_this]) C hw hr hQ dX5_measure_56
def zf_X5_putMeasure (x1 : Int32) (x2 : Int32) (b_this : TTe) : Option (TTe) := (if x1 = 0 then some ((x2, b_this.2.1, b_this.2.2.1, b_this.2.2.2.1, b_this.2.2.2.2.1, b_this.2.2.2.2.2.1, b_this.2.2.2.2.2.2)) else (if x1 = 1 then some ((b_this.1, x2, b_this.2.2.1, b_this.2.2.2.1, b_this.2.2.2.2.1, b_this.2.2.2.2.2.1, b_this.2.2.2.2.2.2)) else (if x1 = 2 then some ((b_this.1, b_this.2.1, x2, b_this.2.2.2.1, b_this.2.2.2.2.1, b_this.2.2.2.2.2.1, b_this.2.2.2.2.2.2)) else (if x1 = 3 then some ((b_this.1, b_this.2.1, b_this.2.2.1, x2, b_this.2.2.2.2.1, b_this.2.2.2.2.2.1, b_this.2.2.2.2.2.2)) else some ((b_this.1, b_this.2.1, b_this.2.2.1, b_this.2.2.2.1, x2, b_this.2.2.2.2.2.1, b_this.2.2.2.2.2.2))))))
abbrev zr_X5_putMeasure : Room := { frames := 0, cells := 0, slots := 0, locals := 0 }
set_option maxHeartbeats 4000000 in
set_option maxRecDepth 100000 in
theorem c_X5_putMeasure (l : Launch) (G : va_G) (cy : Nat → ClassId) (tt : Nat → Nat) (a0 : Nat) (x1 : Int32) (x2 : Int32) (b_this : TTe) (res : TTe) (hf : zf_X5_putMeasure x1 x2 b_this = some res) : zCT l yX5_putMeasure cX5_putMeasure 3 none zr_X5_putMeasure G cy tt [.ref a0, .int x1, .int x2] [xTe a0 b_this] none [xTe a0 res] := by
  refine zk_start zn_X5 (Nat.le_of_ble_eq_true rfl) ?_
  intro p e s m args below meth c A ls Q C hr hQ hw hl
  have C : zCx p m c s args meth cX5_putMeasure 3 RX5 G cy tt A := C
  have hx := C.1.1
  have hb := C.1.2.1
  have hl : lv_has ls 3 [(0, .ref a0), (1, .int x1), (2, .int x2)] := hl
  rw [zf_X5_putMeasure] at hf
  refine lv_iload_n (pc := 0) hx hb dX5_putMeasure_0 rfl (lv_at hl 1 rfl) ?_
  by_cases q1 : x1 = (0 : Int32)
  · replace hf := if_t q1 hf
    refine zk_tabIn (pc := 1) (off := 31) (tgt := 32) q1 C dX5_putMeasure_1 (by decide) (by decide) (by decide +kernel) (by decide) ?_
    refine lv_aload_n (pc := 32) hx hb dX5_putMeasure_32 rfl (lv_at hl 0 rfl) ?_
    refine lv_iload_n (pc := 33) hx hb dX5_putMeasure_33 rfl (lv_at hl 2 rfl) ?_
    refine zk_put (pc := 34) (w' := [xTe a0 ((x2, b_this.2.1, b_this.2.2.1, b_this.2.2.2.1, b_this.2.2.2.2.1, b_this.2.2.2.2.2.1, b_this.2.2.2.2.2.2))]) C hw zp_X5_9 0 rfl rfl rfl (Nat.le_of_ble_eq_true rfl) rfl dX5_putMeasure_34 (fun H locs hw => ?_)
    refine lv_goto (pc := 37) (tgt := 69) hx hb dX5_putMeasure_37 (by decide) ?_
    have hf := Option.some.inj hf
    subst hf
    exact zk_retv (pc := 69) (ww := [xTe a0 ((x2, b_this.2.1, b_this.2.2.1, b_this.2.2.2.1, b_this.2.2.2.2.1, b_this.2.2.2.2.2.1, b_this.2.2.2.2.2.2))]) C hw hr hQ dX5_putMeasure_69
  · replace hf := if_f q1 hf
    by_cases q2 : x1 = (1 : Int32)
    · replace hf := if_t q2 hf
      refine zk_tabIn (pc := 1) (off := 39) (tgt := 40) q2 C dX5_putMeasure_1 (by decide) (by decide) (by decide +kernel) (by decide) ?_
      refine lv_aload_n (pc := 40) hx hb dX5_putMeasure_40 rfl (lv_at hl 0 rfl) ?_
      refine lv_iload_n (pc := 41) hx hb dX5_putMeasure_41 rfl (lv_at hl 2 rfl) ?_
      refine zk_put (pc := 42) (w' := [xTe a0 ((b_this.1, x2, b_this.2.2.1, b_this.2.2.2.1, b_this.2.2.2.2.1, b_this.2.2.2.2.2.1, b_this.2.2.2.2.2.2))]) C hw zp_X5_15 0 rfl rfl rfl (Nat.le_of_ble_eq_true rfl) rfl dX5_putMeasure_42 (fun H locs hw => ?_)
      refine lv_goto (pc := 45) (tgt := 69) hx hb dX5_putMeasure_45 (by decide) ?_
      have hf := Option.some.inj hf
      subst hf
      exact zk_retv (pc := 69) (ww := [xTe a0 ((b_this.1, x2, b_this.2.2.1, b_this.2.2.2.1, b_this.2.2.2.2.1, b_this.2.2.2.2.2.1, b_this.2.2.2.2.2.2))]) C hw hr hQ dX5_putMeasure_69
    · replace hf := if_f q2 hf
      by_cases q3 : x1 = (2 : Int32)
      · replace hf := if_t q3 hf
        refine zk_tabIn (pc := 1) (off := 47) (tgt := 48) q3 C dX5_putMeasure_1 (by decide) (by decide) (by decide +kernel) (by decide) ?_
        refine lv_aload_n (pc := 48) hx hb dX5_putMeasure_48 rfl (lv_at hl 0 rfl) ?_
        refine lv_iload_n (pc := 49) hx hb dX5_putMeasure_49 rfl (lv_at hl 2 rfl) ?_
        refine zk_put (pc := 50) (w' := [xTe a0 ((b_this.1, b_this.2.1, x2, b_this.2.2.2.1, b_this.2.2.2.2.1, b_this.2.2.2.2.2.1, b_this.2.2.2.2.2.2))]) C hw zp_X5_18 0 rfl rfl rfl (Nat.le_of_ble_eq_true rfl) rfl dX5_putMeasure_50 (fun H locs hw => ?_)
        refine lv_goto (pc := 53) (tgt := 69) hx hb dX5_putMeasure_53 (by decide) ?_
        have hf := Option.some.inj hf
        subst hf
        exact zk_retv (pc := 69) (ww := [xTe a0 ((b_this.1, b_this.2.1, x2, b_this.2.2.2.1, b_this.2.2.2.2.1, b_this.2.2.2.2.2.1, b_this.2.2.2.2.2.2))]) C hw hr hQ dX5_putMeasure_69
      · replace hf := if_f q3 hf
        by_cases q4 : x1 = (3 : Int32)
        · replace hf := if_t q4 hf
          refine zk_tabIn (pc := 1) (off := 55) (tgt := 56) q4 C dX5_putMeasure_1 (by decide) (by decide) (by decide +kernel) (by decide) ?_
          refine lv_aload_n (pc := 56) hx hb dX5_putMeasure_56 rfl (lv_at hl 0 rfl) ?_
          refine lv_iload_n (pc := 57) hx hb dX5_putMeasure_57 rfl (lv_at hl 2 rfl) ?_
          refine zk_put (pc := 58) (w' := [xTe a0 ((b_this.1, b_this.2.1, b_this.2.2.1, x2, b_this.2.2.2.2.1, b_this.2.2.2.2.2.1, b_this.2.2.2.2.2.2))]) C hw zp_X5_21 0 rfl rfl rfl (Nat.le_of_ble_eq_true rfl) rfl dX5_putMeasure_58 (fun H locs hw => ?_)
          refine lv_goto (pc := 61) (tgt := 69) hx hb dX5_putMeasure_61 (by decide) ?_
          have hf := Option.some.inj hf
          subst hf
          exact zk_retv (pc := 69) (ww := [xTe a0 ((b_this.1, b_this.2.1, b_this.2.2.1, x2, b_this.2.2.2.2.1, b_this.2.2.2.2.2.1, b_this.2.2.2.2.2.2))]) C hw hr hQ dX5_putMeasure_69
        · replace hf := if_f q4 hf
          have eq1 := i32_ne (n := 0) (by decide) q1
          have eq2 := i32_ne (n := 1) (by decide) q2
          have eq3 := i32_ne (n := 2) (by decide) q3
          have eq4 := i32_ne (n := 3) (by decide) q4
          refine lv_tableOut (pc := 1) (tgt := 64) hx hb dX5_putMeasure_1 (by omega) (by decide) ?_
          refine lv_aload_n (pc := 64) hx hb dX5_putMeasure_64 rfl (lv_at hl 0 rfl) ?_
          refine lv_iload_n (pc := 65) hx hb dX5_putMeasure_65 rfl (lv_at hl 2 rfl) ?_
          refine zk_put (pc := 66) (w' := [xTe a0 ((b_this.1, b_this.2.1, b_this.2.2.1, b_this.2.2.2.1, x2, b_this.2.2.2.2.2.1, b_this.2.2.2.2.2.2))]) C hw zp_X5_24 0 rfl rfl rfl (Nat.le_of_ble_eq_true rfl) rfl dX5_putMeasure_66 (fun H locs hw => ?_)
          have hf := Option.some.inj hf
          subst hf
          exact zk_retv (pc := 69) (ww := [xTe a0 ((b_this.1, b_this.2.1, b_this.2.2.1, b_this.2.2.2.1, x2, b_this.2.2.2.2.2.1, b_this.2.2.2.2.2.2))]) C hw hr hQ dX5_putMeasure_69
def zf_X7_tell (x1 : Int32) (x2 : Int32) (b_now : TTe) (b_refusals : Nat → Int32) : Option (Int32 × TTe × (Nat → Int32)) := (Option.bind (zf_X7_mayBe x1 x2) (fun u1 => (if u1 then (Option.bind (zf_X5_measure x1 b_now) (fun u3 => (Option.bind (zf_X5_putMeasure x1 x2 b_now) (fun u4 => some (u3, u4, b_refusals))))) else (Option.bind (zf_X7_refused (((-2 : Int32))) b_refusals) (fun u5 => some (u5.1, b_now, u5.2))))))
abbrev zr_X7_tell : Room := { frames := 2, cells := 0, slots := 0, locals := 43 }
set_option maxHeartbeats 4000000 in
set_option maxRecDepth 100000 in
theorem c_X7_tell (l : Launch) (G : va_G) (cy : Nat → ClassId) (tt : Nat → Nat) (L : Nat → Nat) (b_seedNow : Int32) (b_keptSeed : Int32) (b_isKept : Bool) (x1 : Int32) (x2 : Int32) (b_now : TTe) (b_refusals : Nat → Int32) (res : Int32 × TTe × (Nat → Int32)) (hf : zf_X7_tell x1 x2 b_now b_refusals = some res) : zCT l yX7_tell cX7_tell 4 (some .int) zr_X7_tell G cy tt [.ref ((L 0)), .int x1, .int x2] [xU L b_seedNow b_keptSeed b_isKept, xTe ((L 1)) b_now, xI cy ((L 48)) 5 b_refusals] (some (.int res.1)) [xU L b_seedNow b_keptSeed b_isKept, xTe ((L 1)) res.2.1, xI cy ((L 48)) 5 res.2.2] := by
  refine zk_start zn_X7 (Nat.le_of_ble_eq_true rfl) ?_
  intro p e s m args below meth c A ls Q C hr hQ hw hl
  have C : zCx p m c s args meth cX7_tell 4 RX7 G cy tt A := C
  have hx := C.1.1
  have hb := C.1.2.1
  have hl : lv_has ls 4 [(0, .ref ((L 0))), (1, .int x1), (2, .int x2)] := hl
  rw [zf_X7_tell] at hf
  refine lv_iload_n (pc := 0) hx hb dX7_tell_0 rfl (lv_at hl 1 rfl) ?_
  refine lv_iload_n (pc := 1) hx hb dX7_tell_1 rfl (lv_at hl 2 rfl) ?_
  obtain ⟨u1, u1e, hf⟩ := bd hf
  refine zk_cS (pc := 2) (rest := []) (st1 := [.int (bI u1)]) (w' := [xU L b_seedNow b_keptSeed b_isKept, xTe ((L 1)) b_now, xI cy ((L 48)) 5 b_refusals]) (mk := [none, none, none]) C hw (c_X7_mayBe l G cy tt x1 x2 _ u1e) zy_X7_mayBe zm_X7_177 [] rfl rfl rfl rfl rfl rfl rfl rfl hl.1 ⟨rfl, rfl⟩ ⟨Nat.le_of_ble_eq_true rfl, Nat.le_of_ble_eq_true rfl⟩ rfl (Nat.le_of_ble_eq_true rfl) ⟨Nat.zero_le _, Nat.zero_le _⟩ dX7_tell_2 (fun H locs hw => ?_)
  refine zk_ifnz (pc := 5) (tgt := 15) hx hb dX7_tell_5 (by decide) (fun q2 => ?_) (fun q2 => ?_)
  · replace hf := if_t q2 hf
    refine lv_aload_n (pc := 15) hx hb dX7_tell_15 rfl (lv_at hl 0 rfl) ?_
    refine zk_gt (pc := 16) C hw zl_X7_10 0 rfl rfl dX7_tell_16 ?_
    refine lv_iload_n (pc := 19) hx hb dX7_tell_19 rfl (lv_at hl 1 rfl) ?_
    obtain ⟨u3, u3e, hf⟩ := bd hf
    refine zk_cV (pc := 20) (ci := 5) (q0 := 1) (rest := []) (st1 := [.int u3]) (w' := [xU L b_seedNow b_keptSeed b_isKept, xTe ((L 1)) b_now, xI cy ((L 48)) 5 b_refusals]) (mk := [none, none, none]) C hw (c_X5_measure l G cy tt ((L 1)) x1 b_now _ u3e) zy_X5_measure zm_X7_180 rfl rfl rfl [1] rfl rfl rfl rfl rfl rfl rfl rfl hl.1 ⟨rfl, rfl⟩ ⟨Nat.le_of_ble_eq_true rfl, Nat.le_of_ble_eq_true rfl⟩ rfl (Nat.le_of_ble_eq_true rfl) ⟨Nat.zero_le _, Nat.zero_le _⟩ dX7_tell_20 (fun H locs hw => ?_)
    refine lv_istore_n (pc := 23) (lv' := [(3, .int u3), (0, .ref ((L 0))), (1, .int x1), (2, .int x2)]) hx hb dX7_tell_23 rfl hl (by decide) rfl (fun ls hl => ?_)
    refine lv_aload_n (pc := 24) hx hb dX7_tell_24 rfl (lv_at hl 1 rfl) ?_
    refine zk_gt (pc := 25) C hw zl_X7_10 0 rfl rfl dX7_tell_25 ?_
    refine lv_iload_n (pc := 28) hx hb dX7_tell_28 rfl (lv_at hl 2 rfl) ?_
    refine lv_iload_n (pc := 29) hx hb dX7_tell_29 rfl (lv_at hl 3 rfl) ?_
    obtain ⟨u4, u4e, hf⟩ := bd hf
    refine zk_cV (pc := 30) (ci := 5) (q0 := 1) (rest := []) (st1 := []) (w' := [xU L b_seedNow b_keptSeed b_isKept, xTe ((L 1)) u4, xI cy ((L 48)) 5 b_refusals]) (mk := [none, some (xTe ((L 1)) u4), none]) C hw (c_X5_putMeasure l G cy tt ((L 1)) x1 x2 b_now _ u4e) zy_X5_putMeasure zm_X7_183 rfl rfl rfl [1] rfl rfl rfl rfl rfl rfl rfl rfl hl.1 ⟨rfl, rfl⟩ ⟨Nat.le_of_ble_eq_true rfl, Nat.le_of_ble_eq_true rfl⟩ rfl (Nat.le_of_ble_eq_true rfl) ⟨Nat.zero_le _, Nat.zero_le _⟩ dX7_tell_30 (fun H locs hw => ?_)
    refine lv_iload_n (pc := 33) hx hb dX7_tell_33 rfl (lv_at hl 0 rfl) ?_
    have hf := Option.some.inj hf
    subst hf
    exact zk_reti (pc := 34) (ww := [xU L b_seedNow b_keptSeed b_isKept, xTe ((L 1)) u4, xI cy ((L 48)) 5 b_refusals]) C hw hr hQ dX7_tell_34
  · replace hf := if_f q2 hf
    refine lv_aload_n (pc := 8) hx hb dX7_tell_8 rfl (lv_at hl 0 rfl) ?_
    refine lv_bipush (pc := 9) (v := -2) hx hb dX7_tell_9 (by decide) ?_
    obtain ⟨u5, u5e, hf⟩ := bd hf
    refine zk_cV (pc := 11) (ci := 7) (q0 := 0) (rest := []) (st1 := [.int u5.1]) (w' := [xU L b_seedNow b_keptSeed b_isKept, xTe ((L 1)) b_now, xI cy ((L 48)) 5 u5.2]) (mk := [none, none, some (xI cy ((L 48)) 5 u5.2)]) C hw (c_X7_refused l G cy tt L b_seedNow b_keptSeed b_isKept (((-2 : Int32))) b_refusals _ u5e) zy_X7_refused zm_X7_103 rfl rfl rfl [0, 2] rfl rfl rfl rfl rfl rfl rfl rfl hl.1 ⟨rfl, rfl⟩ ⟨Nat.le_of_ble_eq_true rfl, Nat.le_of_ble_eq_true rfl⟩ rfl (Nat.le_of_ble_eq_true rfl) ⟨Nat.zero_le _, Nat.zero_le _⟩ dX7_tell_11 (fun H locs hw => ?_)
    have hf := Option.some.inj hf
    subst hf
    exact zk_reti (pc := 14) (ww := [xU L b_seedNow b_keptSeed b_isKept, xTe ((L 1)) b_now, xI cy ((L 48)) 5 u5.2]) C hw hr hQ dX7_tell_14
def zf_X4_isFull  (b_this : TTa) : Option (Bool) := (if b_this.1 < (250 : Int32) then some (false) else some (true))
abbrev zr_X4_isFull : Room := { frames := 0, cells := 0, slots := 0, locals := 0 }
set_option maxHeartbeats 4000000 in
set_option maxRecDepth 100000 in
theorem c_X4_isFull (l : Launch) (G : va_G) (cy : Nat → ClassId) (tt : Nat → Nat) (a0 a1 : Nat)  (b_this : TTa) (res : Bool) (hf : zf_X4_isFull b_this = some res) : zCT l yX4_isFull cX4_isFull 1 (some .boolean) zr_X4_isFull G cy tt [.ref a0] [xTa a0 a1 b_this.1 b_this.2.2.1 b_this.2.2.2.1 b_this.2.2.2.2.1 b_this.2.2.2.2.2, xI cy a1 250 b_this.2.1] (some (.int (bI res))) [xTa a0 a1 b_this.1 b_this.2.2.1 b_this.2.2.2.1 b_this.2.2.2.2.1 b_this.2.2.2.2.2, xI cy a1 250 b_this.2.1] := by
  refine zk_start zn_X4 (Nat.le_of_ble_eq_true rfl) ?_
  intro p e s m args below meth c A ls Q C hr hQ hw hl
  have C : zCx p m c s args meth cX4_isFull 1 RX4 G cy tt A := C
  have hx := C.1.1
  have hb := C.1.2.1
  have hl : lv_has ls 1 [(0, .ref a0)] := hl
  rw [zf_X4_isFull] at hf
  refine lv_aload_n (pc := 0) hx hb dX4_isFull_0 rfl (lv_at hl 0 rfl) ?_
  refine zk_gt (pc := 1) C hw zl_X4_9 0 rfl rfl dX4_isFull_1 ?_
  refine lv_sipush (pc := 4) (v := 250) hx hb dX4_isFull_4 (by decide) ?_
  refine lv_icmp_lt (pc := 7) (tgt := 14) hx hb dX4_isFull_7 (by decide) (fun q1 => ?_) (fun q1 => ?_)
  · replace hf := if_t q1 hf
    refine lv_iconst (pc := 14) (v := 0) hx hb dX4_isFull_14 (by decide) ?_
    have hf := Option.some.inj hf
    subst hf
    exact zk_retz (pc := 15) (b := false) (ww := [xTa a0 a1 b_this.1 b_this.2.2.1 b_this.2.2.2.1 b_this.2.2.2.2.1 b_this.2.2.2.2.2, xI cy a1 250 b_this.2.1]) C hw hr hQ dX4_isFull_15
  · replace hf := if_f q1 hf
    refine lv_iconst (pc := 10) (v := 1) hx hb dX4_isFull_10 (by decide) ?_
    refine lv_goto (pc := 11) (tgt := 15) hx hb dX4_isFull_11 (by decide) ?_
    have hf := Option.some.inj hf
    subst hf
    exact zk_retz (pc := 15) (b := true) (ww := [xTa a0 a1 b_this.1 b_this.2.2.1 b_this.2.2.2.1 b_this.2.2.2.2.1 b_this.2.2.2.2.2, xI cy a1 250 b_this.2.1]) C hw hr hQ dX4_isFull_15
def zf_X4_add (x1 : Int32) (b_this : TTa) : Option (Int32 × TTa) := (if b_this.1 < 0 then some (b_this.1, b_this) else (if (250 : Int32) ≤ b_this.1 then some (b_this.1, b_this) else (if ix b_this.1 250 then some ((b_this.1 + (1 : Int32)), ((b_this.1 + (1 : Int32)), (upd b_this.2.1 b_this.1.toNatClampNeg x1), b_this.2.2.1, b_this.2.2.2.1, b_this.2.2.2.2.1, b_this.2.2.2.2.2)) else none)))
abbrev zr_X4_add : Room := { frames := 0, cells := 0, slots := 0, locals := 0 }
set_option maxHeartbeats 4000000 in
set_option maxRecDepth 100000 in
theorem c_X4_add (l : Launch) (G : va_G) (cy : Nat → ClassId) (tt : Nat → Nat) (a0 a1 : Nat) (x1 : Int32) (b_this : TTa) (res : Int32 × TTa) (hf : zf_X4_add x1 b_this = some res) : zCT l yX4_add cX4_add 2 (some .int) zr_X4_add G cy tt [.ref a0, .int x1] [xTa a0 a1 b_this.1 b_this.2.2.1 b_this.2.2.2.1 b_this.2.2.2.2.1 b_this.2.2.2.2.2, xI cy a1 250 b_this.2.1] (some (.int res.1)) [xTa a0 a1 res.2.1 res.2.2.2.1 res.2.2.2.2.1 res.2.2.2.2.2.1 res.2.2.2.2.2.2, xI cy a1 250 res.2.2.1] := by
  refine zk_start zn_X4 (Nat.le_of_ble_eq_true rfl) ?_
  intro p e s m args below meth c A ls Q C hr hQ hw hl
  have C : zCx p m c s args meth cX4_add 2 RX4 G cy tt A := C
  have hx := C.1.1
  have hb := C.1.2.1
  have hl : lv_has ls 2 [(0, .ref a0), (1, .int x1)] := hl
  rw [zf_X4_add] at hf
  refine lv_aload_n (pc := 0) hx hb dX4_add_0 rfl (lv_at hl 0 rfl) ?_
  refine zk_gt (pc := 1) C hw zl_X4_9 0 rfl rfl dX4_add_1 ?_
  refine lv_if_lt (pc := 4) (tgt := 37) hx hb dX4_add_4 (by decide) (fun q1 => ?_) (fun q1 => ?_)
  · replace hf := if_t q1 hf
    refine lv_aload_n (pc := 37) hx hb dX4_add_37 rfl (lv_at hl 0 rfl) ?_
    refine zk_gt (pc := 38) C hw zl_X4_9 0 rfl rfl dX4_add_38 ?_
    have hf := Option.some.inj hf
    subst hf
    exact zk_reti (pc := 41) (ww := [xTa a0 a1 b_this.1 b_this.2.2.1 b_this.2.2.2.1 b_this.2.2.2.2.1 b_this.2.2.2.2.2, xI cy a1 250 b_this.2.1]) C hw hr hQ dX4_add_41
  · replace hf := if_f q1 hf
    refine lv_aload_n (pc := 7) hx hb dX4_add_7 rfl (lv_at hl 0 rfl) ?_
    refine zk_gt (pc := 8) C hw zl_X4_9 0 rfl rfl dX4_add_8 ?_
    refine lv_sipush (pc := 11) (v := 250) hx hb dX4_add_11 (by decide) ?_
    refine lv_icmp_ge (pc := 14) (tgt := 37) hx hb dX4_add_14 (by decide) (fun q2 => ?_) (fun q2 => ?_)
    · replace hf := if_t q2 hf
      refine lv_aload_n (pc := 37) hx hb dX4_add_37 rfl (lv_at hl 0 rfl) ?_
      refine zk_gt (pc := 38) C hw zl_X4_9 0 rfl rfl dX4_add_38 ?_
      have hf := Option.some.inj hf
      subst hf
      exact zk_reti (pc := 41) (ww := [xTa a0 a1 b_this.1 b_this.2.2.1 b_this.2.2.2.1 b_this.2.2.2.2.1 b_this.2.2.2.2.2, xI cy a1 250 b_this.2.1]) C hw hr hQ dX4_add_41
    · replace hf := if_f q2 hf
      refine lv_aload_n (pc := 17) hx hb dX4_add_17 rfl (lv_at hl 0 rfl) ?_
      refine zk_gt (pc := 18) C hw zl_X4_15 0 rfl rfl dX4_add_18 ?_
      refine lv_aload_n (pc := 21) hx hb dX4_add_21 rfl (lv_at hl 0 rfl) ?_
      refine zk_gt (pc := 22) C hw zl_X4_9 0 rfl rfl dX4_add_22 ?_
      refine lv_iload_n (pc := 25) hx hb dX4_add_25 rfl (lv_at hl 1 rfl) ?_
      obtain ⟨q3, hf⟩ := ck hf
      refine zk_iast (pc := 26) (w' := [xTa a0 a1 b_this.1 b_this.2.2.1 b_this.2.2.2.1 b_this.2.2.2.2.1 b_this.2.2.2.2.2, xI cy a1 250 ((upd b_this.2.1 b_this.1.toNatClampNeg x1))]) C hw 1 rfl q3 rfl dX4_add_26 (fun H locs hw => ?_)
      refine lv_aload_n (pc := 27) hx hb dX4_add_27 rfl (lv_at hl 0 rfl) ?_
      refine lv_dup (pc := 28) hx hb dX4_add_28 rfl ?_
      refine zk_gt (pc := 29) C hw zl_X4_9 0 rfl rfl dX4_add_29 ?_
      refine lv_iconst (pc := 32) (v := 1) hx hb dX4_add_32 (by decide) ?_
      refine lv_iadd (pc := 33) hx hb dX4_add_33 ?_
      refine zk_put (pc := 34) (w' := [xTa a0 a1 ((b_this.1 + (1 : Int32))) b_this.2.2.1 b_this.2.2.2.1 b_this.2.2.2.2.1 b_this.2.2.2.2.2, xI cy a1 250 ((upd b_this.2.1 b_this.1.toNatClampNeg x1))]) C hw zp_X4_9 0 rfl rfl rfl (Nat.le_of_ble_eq_true rfl) rfl dX4_add_34 (fun H locs hw => ?_)
      refine lv_aload_n (pc := 37) hx hb dX4_add_37 rfl (lv_at hl 0 rfl) ?_
      refine zk_gt (pc := 38) C hw zl_X4_9 0 rfl rfl dX4_add_38 ?_
      have hf := Option.some.inj hf
      subst hf
      exact zk_reti (pc := 41) (ww := [xTa a0 a1 ((b_this.1 + (1 : Int32))) b_this.2.2.1 b_this.2.2.2.1 b_this.2.2.2.2.1 b_this.2.2.2.2.2, xI cy a1 250 ((upd b_this.2.1 b_this.1.toNatClampNeg x1))]) C hw hr hQ dX4_add_41
def zf_X7_feed (x1 : Int32) (b_tape : TTa) (b_refusals : Nat → Int32) : Option (Int32 × TTa × (Nat → Int32)) := (Option.bind (zf_X7_isWithin x1 (((0 : Int32))) (((255 : Int32)))) (fun u1 => (if u1 then (Option.bind (zf_X4_isFull b_tape) (fun u3 => (if u3 then (Option.bind (zf_X7_refused (((-6 : Int32))) b_refusals) (fun u6 => some (u6.1, b_tape, u6.2))) else (Option.bind (zf_X4_add x1 b_tape) (fun u5 => some (u5.1, u5.2, b_refusals)))))) else (Option.bind (zf_X7_refused (((-2 : Int32))) b_refusals) (fun u7 => some (u7.1, b_tape, u7.2))))))
abbrev zr_X7_feed : Room := { frames := 1, cells := 0, slots := 0, locals := 22 }
set_option maxHeartbeats 4000000 in
set_option maxRecDepth 100000 in
theorem c_X7_feed (l : Launch) (G : va_G) (cy : Nat → ClassId) (tt : Nat → Nat) (L : Nat → Nat) (b_seedNow : Int32) (b_keptSeed : Int32) (b_isKept : Bool) (x1 : Int32) (b_tape : TTa) (b_refusals : Nat → Int32) (res : Int32 × TTa × (Nat → Int32)) (hf : zf_X7_feed x1 b_tape b_refusals = some res) : zCT l yX7_feed cX7_feed 2 (some .int) zr_X7_feed G cy tt [.ref ((L 0)), .int x1] [xU L b_seedNow b_keptSeed b_isKept, xTa ((L 32)) ((L 33)) b_tape.1 b_tape.2.2.1 b_tape.2.2.2.1 b_tape.2.2.2.2.1 b_tape.2.2.2.2.2, xI cy ((L 33)) 250 b_tape.2.1, xI cy ((L 48)) 5 b_refusals] (some (.int res.1)) [xU L b_seedNow b_keptSeed b_isKept, xTa ((L 32)) ((L 33)) res.2.1.1 res.2.1.2.2.1 res.2.1.2.2.2.1 res.2.1.2.2.2.2.1 res.2.1.2.2.2.2.2, xI cy ((L 33)) 250 res.2.1.2.1, xI cy ((L 48)) 5 res.2.2] := by
  refine zk_start zn_X7 (Nat.le_of_ble_eq_true rfl) ?_
  intro p e s m args below meth c A ls Q C hr hQ hw hl
  have C : zCx p m c s args meth cX7_feed 2 RX7 G cy tt A := C
  have hx := C.1.1
  have hb := C.1.2.1
  have hl : lv_has ls 2 [(0, .ref ((L 0))), (1, .int x1)] := hl
  rw [zf_X7_feed] at hf
  refine lv_iload_n (pc := 0) hx hb dX7_feed_0 rfl (lv_at hl 1 rfl) ?_
  refine lv_iconst (pc := 1) (v := 0) hx hb dX7_feed_1 (by decide) ?_
  refine lv_sipush (pc := 2) (v := 255) hx hb dX7_feed_2 (by decide) ?_
  obtain ⟨u1, u1e, hf⟩ := bd hf
  refine zk_cS (pc := 5) (rest := []) (st1 := [.int (bI u1)]) (w' := [xU L b_seedNow b_keptSeed b_isKept, xTa ((L 32)) ((L 33)) b_tape.1 b_tape.2.2.1 b_tape.2.2.2.1 b_tape.2.2.2.2.1 b_tape.2.2.2.2.2, xI cy ((L 33)) 250 b_tape.2.1, xI cy ((L 48)) 5 b_refusals]) (mk := [none, none, none, none]) C hw (c_X7_isWithin l G cy tt x1 (((0 : Int32))) (((255 : Int32))) _ u1e) zy_X7_isWithin zm_X7_99 [] rfl rfl rfl rfl rfl rfl rfl rfl hl.1 ⟨rfl, rfl⟩ ⟨Nat.le_of_ble_eq_true rfl, Nat.le_of_ble_eq_true rfl⟩ rfl (Nat.le_of_ble_eq_true rfl) ⟨Nat.zero_le _, Nat.zero_le _⟩ dX7_feed_5 (fun H locs hw => ?_)
  refine zk_ifnz (pc := 8) (tgt := 18) hx hb dX7_feed_8 (by decide) (fun q2 => ?_) (fun q2 => ?_)
  · replace hf := if_t q2 hf
    refine lv_aload_n (pc := 18) hx hb dX7_feed_18 rfl (lv_at hl 0 rfl) ?_
    refine zk_gt (pc := 19) C hw zl_X7_48 0 rfl rfl dX7_feed_19 ?_
    obtain ⟨u3, u3e, hf⟩ := bd hf
    refine zk_cV (pc := 22) (ci := 4) (q0 := 1) (rest := []) (st1 := [.int (bI u3)]) (w' := [xU L b_seedNow b_keptSeed b_isKept, xTa ((L 32)) ((L 33)) b_tape.1 b_tape.2.2.1 b_tape.2.2.2.1 b_tape.2.2.2.2.1 b_tape.2.2.2.2.2, xI cy ((L 33)) 250 b_tape.2.1, xI cy ((L 48)) 5 b_refusals]) (mk := [none, none, none, none]) C hw (c_X4_isFull l G cy tt ((L 32)) ((L 33)) b_tape _ u3e) zy_X4_isFull zm_X7_186 rfl rfl rfl [1, 2] rfl rfl rfl rfl rfl rfl rfl rfl hl.1 ⟨rfl, rfl⟩ ⟨Nat.le_of_ble_eq_true rfl, Nat.le_of_ble_eq_true rfl⟩ rfl (Nat.le_of_ble_eq_true rfl) ⟨Nat.zero_le _, Nat.zero_le _⟩ dX7_feed_22 (fun H locs hw => ?_)
    refine zk_ifz (pc := 25) (tgt := 35) hx hb dX7_feed_25 (by decide) (fun q4 => ?_) (fun q4 => ?_)
    · replace hf := if_f q4 hf
      refine lv_aload_n (pc := 35) hx hb dX7_feed_35 rfl (lv_at hl 0 rfl) ?_
      refine zk_gt (pc := 36) C hw zl_X7_48 0 rfl rfl dX7_feed_36 ?_
      refine lv_iload_n (pc := 39) hx hb dX7_feed_39 rfl (lv_at hl 1 rfl) ?_
      obtain ⟨u5, u5e, hf⟩ := bd hf
      refine zk_cV (pc := 40) (ci := 4) (q0 := 1) (rest := []) (st1 := [.int u5.1]) (w' := [xU L b_seedNow b_keptSeed b_isKept, xTa ((L 32)) ((L 33)) u5.2.1 u5.2.2.2.1 u5.2.2.2.2.1 u5.2.2.2.2.2.1 u5.2.2.2.2.2.2, xI cy ((L 33)) 250 u5.2.2.1, xI cy ((L 48)) 5 b_refusals]) (mk := [none, some (xTa ((L 32)) ((L 33)) u5.2.1 u5.2.2.2.1 u5.2.2.2.2.1 u5.2.2.2.2.2.1 u5.2.2.2.2.2.2), some (xI cy ((L 33)) 250 u5.2.2.1), none]) C hw (c_X4_add l G cy tt ((L 32)) ((L 33)) x1 b_tape _ u5e) zy_X4_add zm_X7_187 rfl rfl rfl [1, 2] rfl rfl rfl rfl rfl rfl rfl rfl hl.1 ⟨rfl, rfl⟩ ⟨Nat.le_of_ble_eq_true rfl, Nat.le_of_ble_eq_true rfl⟩ rfl (Nat.le_of_ble_eq_true rfl) ⟨Nat.zero_le _, Nat.zero_le _⟩ dX7_feed_40 (fun H locs hw => ?_)
      have hf := Option.some.inj hf
      subst hf
      exact zk_reti (pc := 43) (ww := [xU L b_seedNow b_keptSeed b_isKept, xTa ((L 32)) ((L 33)) u5.2.1 u5.2.2.2.1 u5.2.2.2.2.1 u5.2.2.2.2.2.1 u5.2.2.2.2.2.2, xI cy ((L 33)) 250 u5.2.2.1, xI cy ((L 48)) 5 b_refusals]) C hw hr hQ dX7_feed_43
    · replace hf := if_t q4 hf
      refine lv_aload_n (pc := 28) hx hb dX7_feed_28 rfl (lv_at hl 0 rfl) ?_
      refine lv_bipush (pc := 29) (v := -6) hx hb dX7_feed_29 (by decide) ?_
      obtain ⟨u6, u6e, hf⟩ := bd hf
      refine zk_cV (pc := 31) (ci := 7) (q0 := 0) (rest := []) (st1 := [.int u6.1]) (w' := [xU L b_seedNow b_keptSeed b_isKept, xTa ((L 32)) ((L 33)) b_tape.1 b_tape.2.2.1 b_tape.2.2.2.1 b_tape.2.2.2.2.1 b_tape.2.2.2.2.2, xI cy ((L 33)) 250 b_tape.2.1, xI cy ((L 48)) 5 u6.2]) (mk := [none, none, none, some (xI cy ((L 48)) 5 u6.2)]) C hw (c_X7_refused l G cy tt L b_seedNow b_keptSeed b_isKept (((-6 : Int32))) b_refusals _ u6e) zy_X7_refused zm_X7_103 rfl rfl rfl [0, 3] rfl rfl rfl rfl rfl rfl rfl rfl hl.1 ⟨rfl, rfl⟩ ⟨Nat.le_of_ble_eq_true rfl, Nat.le_of_ble_eq_true rfl⟩ rfl (Nat.le_of_ble_eq_true rfl) ⟨Nat.zero_le _, Nat.zero_le _⟩ dX7_feed_31 (fun H locs hw => ?_)
      have hf := Option.some.inj hf
      subst hf
      exact zk_reti (pc := 34) (ww := [xU L b_seedNow b_keptSeed b_isKept, xTa ((L 32)) ((L 33)) b_tape.1 b_tape.2.2.1 b_tape.2.2.2.1 b_tape.2.2.2.2.1 b_tape.2.2.2.2.2, xI cy ((L 33)) 250 b_tape.2.1, xI cy ((L 48)) 5 u6.2]) C hw hr hQ dX7_feed_34
  · replace hf := if_f q2 hf
    refine lv_aload_n (pc := 11) hx hb dX7_feed_11 rfl (lv_at hl 0 rfl) ?_
    refine lv_bipush (pc := 12) (v := -2) hx hb dX7_feed_12 (by decide) ?_
    obtain ⟨u7, u7e, hf⟩ := bd hf
    refine zk_cV (pc := 14) (ci := 7) (q0 := 0) (rest := []) (st1 := [.int u7.1]) (w' := [xU L b_seedNow b_keptSeed b_isKept, xTa ((L 32)) ((L 33)) b_tape.1 b_tape.2.2.1 b_tape.2.2.2.1 b_tape.2.2.2.2.1 b_tape.2.2.2.2.2, xI cy ((L 33)) 250 b_tape.2.1, xI cy ((L 48)) 5 u7.2]) (mk := [none, none, none, some (xI cy ((L 48)) 5 u7.2)]) C hw (c_X7_refused l G cy tt L b_seedNow b_keptSeed b_isKept (((-2 : Int32))) b_refusals _ u7e) zy_X7_refused zm_X7_103 rfl rfl rfl [0, 3] rfl rfl rfl rfl rfl rfl rfl rfl hl.1 ⟨rfl, rfl⟩ ⟨Nat.le_of_ble_eq_true rfl, Nat.le_of_ble_eq_true rfl⟩ rfl (Nat.le_of_ble_eq_true rfl) ⟨Nat.zero_le _, Nat.zero_le _⟩ dX7_feed_14 (fun H locs hw => ?_)
    have hf := Option.some.inj hf
    subst hf
    exact zk_reti (pc := 17) (ww := [xU L b_seedNow b_keptSeed b_isKept, xTa ((L 32)) ((L 33)) b_tape.1 b_tape.2.2.1 b_tape.2.2.2.1 b_tape.2.2.2.2.1 b_tape.2.2.2.2.2, xI cy ((L 33)) 250 b_tape.2.1, xI cy ((L 48)) 5 u7.2]) C hw hr hQ dX7_feed_17
def zf_X4_clear  (b_this : TTa) : Option (Int32 × TTa) := some (b_this.1, ((0 : Int32), b_this.2.1, b_this.2.2.1, b_this.2.2.2.1, b_this.2.2.2.2.1, b_this.2.2.2.2.2))
abbrev zr_X4_clear : Room := { frames := 0, cells := 0, slots := 0, locals := 0 }
set_option maxHeartbeats 4000000 in
set_option maxRecDepth 100000 in
theorem c_X4_clear (l : Launch) (G : va_G) (cy : Nat → ClassId) (tt : Nat → Nat) (a0 a1 : Nat)  (b_this : TTa) (res : Int32 × TTa) (hf : zf_X4_clear b_this = some res) : zCT l yX4_clear cX4_clear 2 (some .int) zr_X4_clear G cy tt [.ref a0] [xTa a0 a1 b_this.1 b_this.2.2.1 b_this.2.2.2.1 b_this.2.2.2.2.1 b_this.2.2.2.2.2, xI cy a1 250 b_this.2.1] (some (.int res.1)) [xTa a0 a1 res.2.1 res.2.2.2.1 res.2.2.2.2.1 res.2.2.2.2.2.1 res.2.2.2.2.2.2, xI cy a1 250 res.2.2.1] := by
  refine zk_start zn_X4 (Nat.le_of_ble_eq_true rfl) ?_
  intro p e s m args below meth c A ls Q C hr hQ hw hl
  have C : zCx p m c s args meth cX4_clear 2 RX4 G cy tt A := C
  have hx := C.1.1
  have hb := C.1.2.1
  have hl : lv_has ls 2 [(0, .ref a0)] := hl
  rw [zf_X4_clear] at hf
  refine lv_aload_n (pc := 0) hx hb dX4_clear_0 rfl (lv_at hl 0 rfl) ?_
  refine zk_gt (pc := 1) C hw zl_X4_9 0 rfl rfl dX4_clear_1 ?_
  refine lv_istore_n (pc := 4) (lv' := [(1, .int b_this.1), (0, .ref a0)]) hx hb dX4_clear_4 rfl hl (by decide) rfl (fun ls hl => ?_)
  refine lv_aload_n (pc := 5) hx hb dX4_clear_5 rfl (lv_at hl 1 rfl) ?_
  refine lv_iconst (pc := 6) (v := 0) hx hb dX4_clear_6 (by decide) ?_
  refine zk_put (pc := 7) (w' := [xTa a0 a1 ((0 : Int32)) b_this.2.2.1 b_this.2.2.2.1 b_this.2.2.2.2.1 b_this.2.2.2.2.2, xI cy a1 250 b_this.2.1]) C hw zp_X4_9 0 rfl rfl rfl (Nat.le_of_ble_eq_true rfl) rfl dX4_clear_7 (fun H locs hw => ?_)
  refine lv_iload_n (pc := 10) hx hb dX4_clear_10 rfl (lv_at hl 0 rfl) ?_
  have hf := Option.some.inj hf
  subst hf
  exact zk_reti (pc := 11) (ww := [xTa a0 a1 ((0 : Int32)) b_this.2.2.1 b_this.2.2.2.1 b_this.2.2.2.2.1 b_this.2.2.2.2.2, xI cy a1 250 b_this.2.1]) C hw hr hQ dX4_clear_11
def zf_X7_wipe  (b_tape : TTa) : Option (Int32 × TTa) := (Option.bind (zf_X4_clear b_tape) (fun u1 => some (u1.1, u1.2)))
abbrev zr_X7_wipe : Room := { frames := 1, cells := 0, slots := 0, locals := 21 }
set_option maxHeartbeats 4000000 in
set_option maxRecDepth 100000 in
theorem c_X7_wipe (l : Launch) (G : va_G) (cy : Nat → ClassId) (tt : Nat → Nat) (L : Nat → Nat) (b_seedNow : Int32) (b_keptSeed : Int32) (b_isKept : Bool)  (b_tape : TTa) (res : Int32 × TTa) (hf : zf_X7_wipe b_tape = some res) : zCT l yX7_wipe cX7_wipe 1 (some .int) zr_X7_wipe G cy tt [.ref ((L 0))] [xU L b_seedNow b_keptSeed b_isKept, xTa ((L 32)) ((L 33)) b_tape.1 b_tape.2.2.1 b_tape.2.2.2.1 b_tape.2.2.2.2.1 b_tape.2.2.2.2.2, xI cy ((L 33)) 250 b_tape.2.1] (some (.int res.1)) [xU L b_seedNow b_keptSeed b_isKept, xTa ((L 32)) ((L 33)) res.2.1 res.2.2.2.1 res.2.2.2.2.1 res.2.2.2.2.2.1 res.2.2.2.2.2.2, xI cy ((L 33)) 250 res.2.2.1] := by
  refine zk_start zn_X7 (Nat.le_of_ble_eq_true rfl) ?_
  intro p e s m args below meth c A ls Q C hr hQ hw hl
  have C : zCx p m c s args meth cX7_wipe 1 RX7 G cy tt A := C
  have hx := C.1.1
  have hb := C.1.2.1
  have hl : lv_has ls 1 [(0, .ref ((L 0)))] := hl
  rw [zf_X7_wipe] at hf
  refine lv_aload_n (pc := 0) hx hb dX7_wipe_0 rfl (lv_at hl 0 rfl) ?_
  refine zk_gt (pc := 1) C hw zl_X7_48 0 rfl rfl dX7_wipe_1 ?_
  obtain ⟨u1, u1e, hf⟩ := bd hf
  refine zk_cV (pc := 4) (ci := 4) (q0 := 1) (rest := []) (st1 := [.int u1.1]) (w' := [xU L b_seedNow b_keptSeed b_isKept, xTa ((L 32)) ((L 33)) u1.2.1 u1.2.2.2.1 u1.2.2.2.2.1 u1.2.2.2.2.2.1 u1.2.2.2.2.2.2, xI cy ((L 33)) 250 u1.2.2.1]) (mk := [none, some (xTa ((L 32)) ((L 33)) u1.2.1 u1.2.2.2.1 u1.2.2.2.2.1 u1.2.2.2.2.2.1 u1.2.2.2.2.2.2), some (xI cy ((L 33)) 250 u1.2.2.1)]) C hw (c_X4_clear l G cy tt ((L 32)) ((L 33)) b_tape _ u1e) zy_X4_clear zm_X7_189 rfl rfl rfl [1, 2] rfl rfl rfl rfl rfl rfl rfl rfl hl.1 ⟨rfl, rfl⟩ ⟨Nat.le_of_ble_eq_true rfl, Nat.le_of_ble_eq_true rfl⟩ rfl (Nat.le_of_ble_eq_true rfl) ⟨Nat.zero_le _, Nat.zero_le _⟩ dX7_wipe_4 (fun H locs hw => ?_)
  have hf := Option.some.inj hf
  subst hf
  exact zk_reti (pc := 7) (ww := [xU L b_seedNow b_keptSeed b_isKept, xTa ((L 32)) ((L 33)) u1.2.1 u1.2.2.2.1 u1.2.2.2.2.1 u1.2.2.2.2.2.1 u1.2.2.2.2.2.2, xI cy ((L 33)) 250 u1.2.2.1]) C hw hr hQ dX7_wipe_7
def zf_X5_become  (b_this : TTe) (b_p1 : TTe) : Option (TTe) := some ((b_p1.1, b_p1.2.1, b_p1.2.2.1, b_p1.2.2.2.1, b_p1.2.2.2.2.1, b_this.2.2.2.2.2.1, b_this.2.2.2.2.2.2))
abbrev zr_X5_become : Room := { frames := 0, cells := 0, slots := 0, locals := 0 }
set_option maxHeartbeats 4000000 in
set_option maxRecDepth 100000 in
theorem c_X5_become (l : Launch) (G : va_G) (cy : Nat → ClassId) (tt : Nat → Nat) (a0 : Nat) (p1_0 : Nat)  (b_this : TTe) (b_p1 : TTe) (res : TTe) (hf : zf_X5_become b_this b_p1 = some res) : zCT l yX5_become cX5_become 2 none zr_X5_become G cy tt [.ref a0, .ref p1_0] [xTe a0 b_this, xTe p1_0 b_p1] none [xTe a0 res, xTe p1_0 b_p1] := by
  refine zk_start zn_X5 (Nat.le_of_ble_eq_true rfl) ?_
  intro p e s m args below meth c A ls Q C hr hQ hw hl
  have C : zCx p m c s args meth cX5_become 2 RX5 G cy tt A := C
  have hx := C.1.1
  have hb := C.1.2.1
  have hl : lv_has ls 2 [(0, .ref a0), (1, .ref p1_0)] := hl
  rw [zf_X5_become] at hf
  refine lv_aload_n (pc := 0) hx hb dX5_become_0 rfl (lv_at hl 0 rfl) ?_
  refine lv_aload_n (pc := 1) hx hb dX5_become_1 rfl (lv_at hl 1 rfl) ?_
  refine zk_gt (pc := 2) C hw zl_X5_9 1 rfl rfl dX5_become_2 ?_
  refine zk_put (pc := 5) (w' := [xTe a0 ((b_p1.1, b_this.2.1, b_this.2.2.1, b_this.2.2.2.1, b_this.2.2.2.2.1, b_this.2.2.2.2.2.1, b_this.2.2.2.2.2.2)), xTe p1_0 b_p1]) C hw zp_X5_9 0 rfl rfl rfl (Nat.le_of_ble_eq_true rfl) rfl dX5_become_5 (fun H locs hw => ?_)
  refine lv_aload_n (pc := 8) hx hb dX5_become_8 rfl (lv_at hl 0 rfl) ?_
  refine lv_aload_n (pc := 9) hx hb dX5_become_9 rfl (lv_at hl 1 rfl) ?_
  refine zk_gt (pc := 10) C hw zl_X5_15 1 rfl rfl dX5_become_10 ?_
  refine zk_put (pc := 13) (w' := [xTe a0 ((b_p1.1, b_p1.2.1, b_this.2.2.1, b_this.2.2.2.1, b_this.2.2.2.2.1, b_this.2.2.2.2.2.1, b_this.2.2.2.2.2.2)), xTe p1_0 b_p1]) C hw zp_X5_15 0 rfl rfl rfl (Nat.le_of_ble_eq_true rfl) rfl dX5_become_13 (fun H locs hw => ?_)
  refine lv_aload_n (pc := 16) hx hb dX5_become_16 rfl (lv_at hl 0 rfl) ?_
  refine lv_aload_n (pc := 17) hx hb dX5_become_17 rfl (lv_at hl 1 rfl) ?_
  refine zk_gt (pc := 18) C hw zl_X5_18 1 rfl rfl dX5_become_18 ?_
  refine zk_put (pc := 21) (w' := [xTe a0 ((b_p1.1, b_p1.2.1, b_p1.2.2.1, b_this.2.2.2.1, b_this.2.2.2.2.1, b_this.2.2.2.2.2.1, b_this.2.2.2.2.2.2)), xTe p1_0 b_p1]) C hw zp_X5_18 0 rfl rfl rfl (Nat.le_of_ble_eq_true rfl) rfl dX5_become_21 (fun H locs hw => ?_)
  refine lv_aload_n (pc := 24) hx hb dX5_become_24 rfl (lv_at hl 0 rfl) ?_
  refine lv_aload_n (pc := 25) hx hb dX5_become_25 rfl (lv_at hl 1 rfl) ?_
  refine zk_gt (pc := 26) C hw zl_X5_21 1 rfl rfl dX5_become_26 ?_
  refine zk_put (pc := 29) (w' := [xTe a0 ((b_p1.1, b_p1.2.1, b_p1.2.2.1, b_p1.2.2.2.1, b_this.2.2.2.2.1, b_this.2.2.2.2.2.1, b_this.2.2.2.2.2.2)), xTe p1_0 b_p1]) C hw zp_X5_21 0 rfl rfl rfl (Nat.le_of_ble_eq_true rfl) rfl dX5_become_29 (fun H locs hw => ?_)
  refine lv_aload_n (pc := 32) hx hb dX5_become_32 rfl (lv_at hl 0 rfl) ?_
  refine lv_aload_n (pc := 33) hx hb dX5_become_33 rfl (lv_at hl 1 rfl) ?_
  refine zk_gt (pc := 34) C hw zl_X5_24 1 rfl rfl dX5_become_34 ?_
  refine zk_put (pc := 37) (w' := [xTe a0 ((b_p1.1, b_p1.2.1, b_p1.2.2.1, b_p1.2.2.2.1, b_p1.2.2.2.2.1, b_this.2.2.2.2.2.1, b_this.2.2.2.2.2.2)), xTe p1_0 b_p1]) C hw zp_X5_24 0 rfl rfl rfl (Nat.le_of_ble_eq_true rfl) rfl dX5_become_37 (fun H locs hw => ?_)
  have hf := Option.some.inj hf
  subst hf
  exact zk_retv (pc := 40) (ww := [xTe a0 ((b_p1.1, b_p1.2.1, b_p1.2.2.1, b_p1.2.2.2.1, b_p1.2.2.2.2.1, b_this.2.2.2.2.2.1, b_this.2.2.2.2.2.2)), xTe p1_0 b_p1]) C hw hr hQ dX5_become_40
def zf_X2_become_10 (b_p1 : TSt) : Nat → Int32 → TSt → Option (TSt)
  | 0, _, _ => none
  | n + 1, v2, b_this => (if (8 : Int32) ≤ v2 then some (b_this) else (if ix v2 8 then (if ix v2 8 then (if ix v2 8 then (if ix v2 8 then (if ix v2 8 then (if ix v2 8 then (if ix v2 8 then (if ix v2 8 then zf_X2_become_10 b_p1 n ((v2 + 1)) ((b_this.1, (upd b_this.2.1 v2.toNatClampNeg ((b_p1.2.1 v2.toNatClampNeg))), (upd b_this.2.2.1 v2.toNatClampNeg ((b_p1.2.2.1 v2.toNatClampNeg))), (upd b_this.2.2.2.1 v2.toNatClampNeg ((b_p1.2.2.2.1 v2.toNatClampNeg))), (upd b_this.2.2.2.2 v2.toNatClampNeg ((b_p1.2.2.2.2 v2.toNatClampNeg))))) else none) else none) else none) else none) else none) else none) else none) else none))
def zf_X2_become  (b_this : TSt) (b_p1 : TSt) : Option (TSt) := zf_X2_become_10 b_p1 FU ((0 : Int32)) ((b_p1.1, b_this.2.1, b_this.2.2.1, b_this.2.2.2.1, b_this.2.2.2.2))
abbrev zr_X2_become : Room := { frames := 0, cells := 0, slots := 0, locals := 0 }
set_option maxHeartbeats 4000000 in
set_option maxRecDepth 100000 in
theorem c_X2_become (l : Launch) (G : va_G) (cy : Nat → ClassId) (tt : Nat → Nat) (a0 a1 a2 a3 a4 : Nat) (p1_0 p1_1 p1_2 p1_3 p1_4 : Nat)  (b_this : TSt) (b_p1 : TSt) (res : TSt) (hf : zf_X2_become b_this b_p1 = some res) : zCT l yX2_become cX2_become 3 none zr_X2_become G cy tt [.ref a0, .ref p1_0] [xSt a0 a1 a2 a3 a4 b_this.1, xI cy a1 8 b_this.2.1, xI cy a2 8 b_this.2.2.1, xI cy a3 8 b_this.2.2.2.1, xI cy a4 8 b_this.2.2.2.2, xSt p1_0 p1_1 p1_2 p1_3 p1_4 b_p1.1, xI cy p1_1 8 b_p1.2.1, xI cy p1_2 8 b_p1.2.2.1, xI cy p1_3 8 b_p1.2.2.2.1, xI cy p1_4 8 b_p1.2.2.2.2] none [xSt a0 a1 a2 a3 a4 res.1, xI cy a1 8 res.2.1, xI cy a2 8 res.2.2.1, xI cy a3 8 res.2.2.2.1, xI cy a4 8 res.2.2.2.2, xSt p1_0 p1_1 p1_2 p1_3 p1_4 b_p1.1, xI cy p1_1 8 b_p1.2.1, xI cy p1_2 8 b_p1.2.2.1, xI cy p1_3 8 b_p1.2.2.2.1, xI cy p1_4 8 b_p1.2.2.2.2] := by
  refine zk_start zn_X2 (Nat.le_of_ble_eq_true rfl) ?_
  intro p e s m args below meth c A ls Q C hr hQ hw hl
  have C : zCx p m c s args meth cX2_become 3 RX2 G cy tt A := C
  have hx := C.1.1
  have hb := C.1.2.1
  have hl : lv_has ls 3 [(0, .ref a0), (1, .ref p1_0)] := hl
  have J10 : ∀ (n : Nat), ∀ (v2 : Int32) (b_this : TSt) (H : Heap) (locs : List Loc) (ls : Array Slot), zf_X2_become_10 b_p1 n v2 b_this = some res → zWd G A s.heap H locs [xSt a0 a1 a2 a3 a4 b_this.1, xI cy a1 8 b_this.2.1, xI cy a2 8 b_this.2.2.1, xI cy a3 8 b_this.2.2.2.1, xI cy a4 8 b_this.2.2.2.2, xSt p1_0 p1_1 p1_2 p1_3 p1_4 b_p1.1, xI cy p1_1 8 b_p1.2.1, xI cy p1_2 8 b_p1.2.2.1, xI cy p1_3 8 b_p1.2.2.2.1, xI cy p1_4 8 b_p1.2.2.2.2] → lv_has ls 3 [(0, .ref a0), (1, .ref p1_0), (2, .int v2)] → W p l e zr_X2_become s m args below meth c H locs 0 0 Q (F0 m 10 ls []) := by
    intro n
    induction n with
    | zero =>
      intro v2 b_this H locs ls hf hw hl
      rw [zf_X2_become_10] at hf
      cases hf
    | succ n ih =>
      intro v2 b_this H locs ls hf hw hl
      rw [zf_X2_become_10] at hf
      refine lv_iload_n (pc := 10) hx hb dX2_become_10 rfl (lv_at hl 2 rfl) ?_
      refine lv_bipush (pc := 11) (v := 8) hx hb dX2_become_11 (by decide) ?_
      refine lv_icmp_ge (pc := 13) (tgt := 70) hx hb dX2_become_13 (by decide) (fun q1 => ?_) (fun q1 => ?_)
      · replace hf := if_t q1 hf
        have hf := Option.some.inj hf
        subst hf
        exact zk_retv (pc := 70) (ww := [xSt a0 a1 a2 a3 a4 b_this.1, xI cy a1 8 b_this.2.1, xI cy a2 8 b_this.2.2.1, xI cy a3 8 b_this.2.2.2.1, xI cy a4 8 b_this.2.2.2.2, xSt p1_0 p1_1 p1_2 p1_3 p1_4 b_p1.1, xI cy p1_1 8 b_p1.2.1, xI cy p1_2 8 b_p1.2.2.1, xI cy p1_3 8 b_p1.2.2.2.1, xI cy p1_4 8 b_p1.2.2.2.2]) C hw hr hQ dX2_become_70
      · replace hf := if_f q1 hf
        refine lv_aload_n (pc := 16) hx hb dX2_become_16 rfl (lv_at hl 0 rfl) ?_
        refine zk_gt (pc := 17) C hw zl_X2_15 0 rfl rfl dX2_become_17 ?_
        refine lv_iload_n (pc := 20) hx hb dX2_become_20 rfl (lv_at hl 2 rfl) ?_
        refine lv_aload_n (pc := 21) hx hb dX2_become_21 rfl (lv_at hl 1 rfl) ?_
        refine zk_gt (pc := 22) C hw zl_X2_15 5 rfl rfl dX2_become_22 ?_
        refine lv_iload_n (pc := 25) hx hb dX2_become_25 rfl (lv_at hl 2 rfl) ?_
        obtain ⟨q2, hf⟩ := ck hf
        refine zk_iald (pc := 26) C hw 6 rfl q2 dX2_become_26 ?_
        obtain ⟨q3, hf⟩ := ck hf
        refine zk_iast (pc := 27) (w' := [xSt a0 a1 a2 a3 a4 b_this.1, xI cy a1 8 ((upd b_this.2.1 v2.toNatClampNeg ((b_p1.2.1 v2.toNatClampNeg)))), xI cy a2 8 b_this.2.2.1, xI cy a3 8 b_this.2.2.2.1, xI cy a4 8 b_this.2.2.2.2, xSt p1_0 p1_1 p1_2 p1_3 p1_4 b_p1.1, xI cy p1_1 8 b_p1.2.1, xI cy p1_2 8 b_p1.2.2.1, xI cy p1_3 8 b_p1.2.2.2.1, xI cy p1_4 8 b_p1.2.2.2.2]) C hw 1 rfl q3 rfl dX2_become_27 (fun H locs hw => ?_)
        refine lv_aload_n (pc := 28) hx hb dX2_become_28 rfl (lv_at hl 0 rfl) ?_
        refine zk_gt (pc := 29) C hw zl_X2_19 0 rfl rfl dX2_become_29 ?_
        refine lv_iload_n (pc := 32) hx hb dX2_become_32 rfl (lv_at hl 2 rfl) ?_
        refine lv_aload_n (pc := 33) hx hb dX2_become_33 rfl (lv_at hl 1 rfl) ?_
        refine zk_gt (pc := 34) C hw zl_X2_19 5 rfl rfl dX2_become_34 ?_
        refine lv_iload_n (pc := 37) hx hb dX2_become_37 rfl (lv_at hl 2 rfl) ?_
        obtain ⟨q4, hf⟩ := ck hf
        refine zk_iald (pc := 38) C hw 7 rfl q4 dX2_become_38 ?_
        obtain ⟨q5, hf⟩ := ck hf
        refine zk_iast (pc := 39) (w' := [xSt a0 a1 a2 a3 a4 b_this.1, xI cy a1 8 ((upd b_this.2.1 v2.toNatClampNeg ((b_p1.2.1 v2.toNatClampNeg)))), xI cy a2 8 ((upd b_this.2.2.1 v2.toNatClampNeg ((b_p1.2.2.1 v2.toNatClampNeg)))), xI cy a3 8 b_this.2.2.2.1, xI cy a4 8 b_this.2.2.2.2, xSt p1_0 p1_1 p1_2 p1_3 p1_4 b_p1.1, xI cy p1_1 8 b_p1.2.1, xI cy p1_2 8 b_p1.2.2.1, xI cy p1_3 8 b_p1.2.2.2.1, xI cy p1_4 8 b_p1.2.2.2.2]) C hw 2 rfl q5 rfl dX2_become_39 (fun H locs hw => ?_)
        refine lv_aload_n (pc := 40) hx hb dX2_become_40 rfl (lv_at hl 0 rfl) ?_
        refine zk_gt (pc := 41) C hw zl_X2_22 0 rfl rfl dX2_become_41 ?_
        refine lv_iload_n (pc := 44) hx hb dX2_become_44 rfl (lv_at hl 2 rfl) ?_
        refine lv_aload_n (pc := 45) hx hb dX2_become_45 rfl (lv_at hl 1 rfl) ?_
        refine zk_gt (pc := 46) C hw zl_X2_22 5 rfl rfl dX2_become_46 ?_
        refine lv_iload_n (pc := 49) hx hb dX2_become_49 rfl (lv_at hl 2 rfl) ?_
        obtain ⟨q6, hf⟩ := ck hf
        refine zk_iald (pc := 50) C hw 8 rfl q6 dX2_become_50 ?_
        obtain ⟨q7, hf⟩ := ck hf
        refine zk_iast (pc := 51) (w' := [xSt a0 a1 a2 a3 a4 b_this.1, xI cy a1 8 ((upd b_this.2.1 v2.toNatClampNeg ((b_p1.2.1 v2.toNatClampNeg)))), xI cy a2 8 ((upd b_this.2.2.1 v2.toNatClampNeg ((b_p1.2.2.1 v2.toNatClampNeg)))), xI cy a3 8 ((upd b_this.2.2.2.1 v2.toNatClampNeg ((b_p1.2.2.2.1 v2.toNatClampNeg)))), xI cy a4 8 b_this.2.2.2.2, xSt p1_0 p1_1 p1_2 p1_3 p1_4 b_p1.1, xI cy p1_1 8 b_p1.2.1, xI cy p1_2 8 b_p1.2.2.1, xI cy p1_3 8 b_p1.2.2.2.1, xI cy p1_4 8 b_p1.2.2.2.2]) C hw 3 rfl q7 rfl dX2_become_51 (fun H locs hw => ?_)
        refine lv_aload_n (pc := 52) hx hb dX2_become_52 rfl (lv_at hl 0 rfl) ?_
        refine zk_gt (pc := 53) C hw zl_X2_25 0 rfl rfl dX2_become_53 ?_
        refine lv_iload_n (pc := 56) hx hb dX2_become_56 rfl (lv_at hl 2 rfl) ?_
        refine lv_aload_n (pc := 57) hx hb dX2_become_57 rfl (lv_at hl 1 rfl) ?_
        refine zk_gt (pc := 58) C hw zl_X2_25 5 rfl rfl dX2_become_58 ?_
        refine lv_iload_n (pc := 61) hx hb dX2_become_61 rfl (lv_at hl 2 rfl) ?_
        obtain ⟨q8, hf⟩ := ck hf
        refine zk_iald (pc := 62) C hw 9 rfl q8 dX2_become_62 ?_
        obtain ⟨q9, hf⟩ := ck hf
        refine zk_iast (pc := 63) (w' := [xSt a0 a1 a2 a3 a4 b_this.1, xI cy a1 8 ((upd b_this.2.1 v2.toNatClampNeg ((b_p1.2.1 v2.toNatClampNeg)))), xI cy a2 8 ((upd b_this.2.2.1 v2.toNatClampNeg ((b_p1.2.2.1 v2.toNatClampNeg)))), xI cy a3 8 ((upd b_this.2.2.2.1 v2.toNatClampNeg ((b_p1.2.2.2.1 v2.toNatClampNeg)))), xI cy a4 8 ((upd b_this.2.2.2.2 v2.toNatClampNeg ((b_p1.2.2.2.2 v2.toNatClampNeg)))), xSt p1_0 p1_1 p1_2 p1_3 p1_4 b_p1.1, xI cy p1_1 8 b_p1.2.1, xI cy p1_2 8 b_p1.2.2.1, xI cy p1_3 8 b_p1.2.2.2.1, xI cy p1_4 8 b_p1.2.2.2.2]) C hw 4 rfl q9 rfl dX2_become_63 (fun H locs hw => ?_)
        refine lv_iinc (pc := 64) (v := (v2 + 1)) (lv' := [(2, .int ((v2 + 1))), (0, .ref a0), (1, .ref p1_0)]) hx hb dX2_become_64 hl (k := 2) rfl rfl (by decide) rfl (fun ls hl => ?_)
        refine lv_goto (pc := 67) (tgt := 10) hx hb dX2_become_67 (by decide) ?_
        exact ih ((v2 + 1)) ((b_this.1, (upd b_this.2.1 v2.toNatClampNeg ((b_p1.2.1 v2.toNatClampNeg))), (upd b_this.2.2.1 v2.toNatClampNeg ((b_p1.2.2.1 v2.toNatClampNeg))), (upd b_this.2.2.2.1 v2.toNatClampNeg ((b_p1.2.2.2.1 v2.toNatClampNeg))), (upd b_this.2.2.2.2 v2.toNatClampNeg ((b_p1.2.2.2.2 v2.toNatClampNeg))))) _ _ _ hf hw (lv_sub hl [1, 2, 0] rfl)
  rw [zf_X2_become] at hf
  refine lv_aload_n (pc := 0) hx hb dX2_become_0 rfl (lv_at hl 0 rfl) ?_
  refine lv_aload_n (pc := 1) hx hb dX2_become_1 rfl (lv_at hl 1 rfl) ?_
  refine zk_gt (pc := 2) C hw zl_X2_9 5 rfl rfl dX2_become_2 ?_
  refine zk_put (pc := 5) (w' := [xSt a0 a1 a2 a3 a4 b_p1.1, xI cy a1 8 b_this.2.1, xI cy a2 8 b_this.2.2.1, xI cy a3 8 b_this.2.2.2.1, xI cy a4 8 b_this.2.2.2.2, xSt p1_0 p1_1 p1_2 p1_3 p1_4 b_p1.1, xI cy p1_1 8 b_p1.2.1, xI cy p1_2 8 b_p1.2.2.1, xI cy p1_3 8 b_p1.2.2.2.1, xI cy p1_4 8 b_p1.2.2.2.2]) C hw zp_X2_9 0 rfl rfl rfl (Nat.le_of_ble_eq_true rfl) rfl dX2_become_5 (fun H locs hw => ?_)
  refine lv_iconst (pc := 8) (v := 0) hx hb dX2_become_8 (by decide) ?_
  refine lv_istore_n (pc := 9) (lv' := [(2, .int ((0 : Int32))), (0, .ref a0), (1, .ref p1_0)]) hx hb dX2_become_9 rfl hl (by decide) rfl (fun ls hl => ?_)
  exact J10 FU ((0 : Int32)) ((b_p1.1, b_this.2.1, b_this.2.2.1, b_this.2.2.2.1, b_this.2.2.2.2)) _ _ _ hf hw (lv_sub hl [1, 2, 0] rfl)
def zf_X4_letterAt (x1 : Int32) (b_this : TTa) : Option (Int32) := (if x1 < 0 then some ((-1 : Int32)) else (if b_this.1 ≤ x1 then some ((-1 : Int32)) else (if (250 : Int32) ≤ x1 then some ((-1 : Int32)) else (if ix x1 250 then some ((b_this.2.1 x1.toNatClampNeg)) else none))))
abbrev zr_X4_letterAt : Room := { frames := 0, cells := 0, slots := 0, locals := 0 }
set_option maxHeartbeats 4000000 in
set_option maxRecDepth 100000 in
theorem c_X4_letterAt (l : Launch) (G : va_G) (cy : Nat → ClassId) (tt : Nat → Nat) (a0 a1 : Nat) (x1 : Int32) (b_this : TTa) (res : Int32) (hf : zf_X4_letterAt x1 b_this = some res) : zCT l yX4_letterAt cX4_letterAt 2 (some .int) zr_X4_letterAt G cy tt [.ref a0, .int x1] [xTa a0 a1 b_this.1 b_this.2.2.1 b_this.2.2.2.1 b_this.2.2.2.2.1 b_this.2.2.2.2.2, xI cy a1 250 b_this.2.1] (some (.int res)) [xTa a0 a1 b_this.1 b_this.2.2.1 b_this.2.2.2.1 b_this.2.2.2.2.1 b_this.2.2.2.2.2, xI cy a1 250 b_this.2.1] := by
  refine zk_start zn_X4 (Nat.le_of_ble_eq_true rfl) ?_
  intro p e s m args below meth c A ls Q C hr hQ hw hl
  have C : zCx p m c s args meth cX4_letterAt 2 RX4 G cy tt A := C
  have hx := C.1.1
  have hb := C.1.2.1
  have hl : lv_has ls 2 [(0, .ref a0), (1, .int x1)] := hl
  rw [zf_X4_letterAt] at hf
  refine lv_iload_n (pc := 0) hx hb dX4_letterAt_0 rfl (lv_at hl 1 rfl) ?_
  refine lv_if_lt (pc := 1) (tgt := 28) hx hb dX4_letterAt_1 (by decide) (fun q1 => ?_) (fun q1 => ?_)
  · replace hf := if_t q1 hf
    refine lv_iconst (pc := 28) (v := -1) hx hb dX4_letterAt_28 (by decide) ?_
    have hf := Option.some.inj hf
    subst hf
    exact zk_reti (pc := 29) (ww := [xTa a0 a1 b_this.1 b_this.2.2.1 b_this.2.2.2.1 b_this.2.2.2.2.1 b_this.2.2.2.2.2, xI cy a1 250 b_this.2.1]) C hw hr hQ dX4_letterAt_29
  · replace hf := if_f q1 hf
    refine lv_iload_n (pc := 4) hx hb dX4_letterAt_4 rfl (lv_at hl 1 rfl) ?_
    refine lv_aload_n (pc := 5) hx hb dX4_letterAt_5 rfl (lv_at hl 0 rfl) ?_
    refine zk_gt (pc := 6) C hw zl_X4_9 0 rfl rfl dX4_letterAt_6 ?_
    refine lv_icmp_ge (pc := 9) (tgt := 28) hx hb dX4_letterAt_9 (by decide) (fun q2 => ?_) (fun q2 => ?_)
    · replace hf := if_t q2 hf
      refine lv_iconst (pc := 28) (v := -1) hx hb dX4_letterAt_28 (by decide) ?_
      have hf := Option.some.inj hf
      subst hf
      exact zk_reti (pc := 29) (ww := [xTa a0 a1 b_this.1 b_this.2.2.1 b_this.2.2.2.1 b_this.2.2.2.2.1 b_this.2.2.2.2.2, xI cy a1 250 b_this.2.1]) C hw hr hQ dX4_letterAt_29
    · replace hf := if_f q2 hf
      refine lv_iload_n (pc := 12) hx hb dX4_letterAt_12 rfl (lv_at hl 1 rfl) ?_
      refine lv_sipush (pc := 13) (v := 250) hx hb dX4_letterAt_13 (by decide) ?_
      refine lv_icmp_ge (pc := 16) (tgt := 28) hx hb dX4_letterAt_16 (by decide) (fun q3 => ?_) (fun q3 => ?_)
      · replace hf := if_t q3 hf
        refine lv_iconst (pc := 28) (v := -1) hx hb dX4_letterAt_28 (by decide) ?_
        have hf := Option.some.inj hf
        subst hf
        exact zk_reti (pc := 29) (ww := [xTa a0 a1 b_this.1 b_this.2.2.1 b_this.2.2.2.1 b_this.2.2.2.2.1 b_this.2.2.2.2.2, xI cy a1 250 b_this.2.1]) C hw hr hQ dX4_letterAt_29
      · replace hf := if_f q3 hf
        refine lv_aload_n (pc := 19) hx hb dX4_letterAt_19 rfl (lv_at hl 0 rfl) ?_
        refine zk_gt (pc := 20) C hw zl_X4_15 0 rfl rfl dX4_letterAt_20 ?_
        refine lv_iload_n (pc := 23) hx hb dX4_letterAt_23 rfl (lv_at hl 1 rfl) ?_
        obtain ⟨q4, hf⟩ := ck hf
        refine zk_iald (pc := 24) C hw 1 rfl q4 dX4_letterAt_24 ?_
        refine lv_goto (pc := 25) (tgt := 29) hx hb dX4_letterAt_25 (by decide) ?_
        have hf := Option.some.inj hf
        subst hf
        exact zk_reti (pc := 29) (ww := [xTa a0 a1 b_this.1 b_this.2.2.1 b_this.2.2.2.1 b_this.2.2.2.2.1 b_this.2.2.2.2.2, xI cy a1 250 b_this.2.1]) C hw hr hQ dX4_letterAt_29
def zf_X4_sortOf_35 (v0 : Int32) : Option (Int32) := (if v0 = (59 : Int32) then some ((3 : Int32)) else some ((4 : Int32)))
def zf_X4_sortOf_21 (v0 : Int32) : Option (Int32) := (if v0 < (48 : Int32) then zf_X4_sortOf_35 v0 else (if (57 : Int32) < v0 then zf_X4_sortOf_35 v0 else some ((2 : Int32))))
def zf_X4_sortOf (x0 : Int32) : Option (Int32) := (if x0 = (-1 : Int32) then some ((0 : Int32)) else (if x0 < (97 : Int32) then zf_X4_sortOf_21 x0 else (if (122 : Int32) < x0 then zf_X4_sortOf_21 x0 else some ((1 : Int32)))))
abbrev zr_X4_sortOf : Room := { frames := 0, cells := 0, slots := 0, locals := 0 }
set_option maxHeartbeats 4000000 in
set_option maxRecDepth 100000 in
theorem c_X4_sortOf (l : Launch) (G : va_G) (cy : Nat → ClassId) (tt : Nat → Nat)  (x0 : Int32) (res : Int32) (hf : zf_X4_sortOf x0 = some res) : zCT l yX4_sortOf cX4_sortOf 1 (some .int) zr_X4_sortOf G cy tt [.int x0] [] (some (.int res)) [] := by
  refine zk_start zn_X4 (Nat.le_of_ble_eq_true rfl) ?_
  intro p e s m args below meth c A ls Q C hr hQ hw hl
  have C : zCx p m c s args meth cX4_sortOf 1 RX4 G cy tt A := C
  have hx := C.1.1
  have hb := C.1.2.1
  have hl : lv_has ls 1 [(0, .int x0)] := hl
  have J35 : ∀ (v0 : Int32) (H : Heap) (locs : List Loc) (ls : Array Slot), zf_X4_sortOf_35 v0 = some res → zWd G A s.heap H locs [] → lv_has ls 1 [(0, .int v0)] → W p l e zr_X4_sortOf s m args below meth c H locs 0 0 Q (F0 m 35 ls []) := by
    intro v0 H locs ls hf hw hl
    rw [zf_X4_sortOf_35] at hf
    refine lv_iload_n (pc := 35) hx hb dX4_sortOf_35 rfl (lv_at hl 0 rfl) ?_
    refine lv_bipush (pc := 36) (v := 59) hx hb dX4_sortOf_36 (by decide) ?_
    refine lv_icmp_ne (pc := 38) (tgt := 45) hx hb dX4_sortOf_38 (by decide) (fun q6 => ?_) (fun q6 => ?_)
    · replace hf := if_f q6 hf
      refine lv_iconst (pc := 45) (v := 4) hx hb dX4_sortOf_45 (by decide) ?_
      have hf := Option.some.inj hf
      subst hf
      exact zk_reti (pc := 46) (ww := []) C hw hr hQ dX4_sortOf_46
    · replace hf := if_t q6 hf
      refine lv_iconst (pc := 41) (v := 3) hx hb dX4_sortOf_41 (by decide) ?_
      refine lv_goto (pc := 42) (tgt := 46) hx hb dX4_sortOf_42 (by decide) ?_
      have hf := Option.some.inj hf
      subst hf
      exact zk_reti (pc := 46) (ww := []) C hw hr hQ dX4_sortOf_46
  have J21 : ∀ (v0 : Int32) (H : Heap) (locs : List Loc) (ls : Array Slot), zf_X4_sortOf_21 v0 = some res → zWd G A s.heap H locs [] → lv_has ls 1 [(0, .int v0)] → W p l e zr_X4_sortOf s m args below meth c H locs 0 0 Q (F0 m 21 ls []) := by
    intro v0 H locs ls hf hw hl
    rw [zf_X4_sortOf_21] at hf
    refine lv_iload_n (pc := 21) hx hb dX4_sortOf_21 rfl (lv_at hl 0 rfl) ?_
    refine lv_bipush (pc := 22) (v := 48) hx hb dX4_sortOf_22 (by decide) ?_
    refine lv_icmp_lt (pc := 24) (tgt := 35) hx hb dX4_sortOf_24 (by decide) (fun q4 => ?_) (fun q4 => ?_)
    · replace hf := if_t q4 hf
      exact J35 v0 _ _ _ hf hw (lv_sub hl [0] rfl)
    · replace hf := if_f q4 hf
      refine lv_iload_n (pc := 27) hx hb dX4_sortOf_27 rfl (lv_at hl 0 rfl) ?_
      refine lv_bipush (pc := 28) (v := 57) hx hb dX4_sortOf_28 (by decide) ?_
      refine lv_icmp_gt (pc := 30) (tgt := 35) hx hb dX4_sortOf_30 (by decide) (fun q5 => ?_) (fun q5 => ?_)
      · replace hf := if_t q5 hf
        exact J35 v0 _ _ _ hf hw (lv_sub hl [0] rfl)
      · replace hf := if_f q5 hf
        refine lv_iconst (pc := 33) (v := 2) hx hb dX4_sortOf_33 (by decide) ?_
        have hf := Option.some.inj hf
        subst hf
        exact zk_reti (pc := 34) (ww := []) C hw hr hQ dX4_sortOf_34
  rw [zf_X4_sortOf] at hf
  refine lv_iload_n (pc := 0) hx hb dX4_sortOf_0 rfl (lv_at hl 0 rfl) ?_
  refine lv_iconst (pc := 1) (v := -1) hx hb dX4_sortOf_1 (by decide) ?_
  refine lv_icmp_ne (pc := 2) (tgt := 7) hx hb dX4_sortOf_2 (by decide) (fun q1 => ?_) (fun q1 => ?_)
  · replace hf := if_f q1 hf
    refine lv_iload_n (pc := 7) hx hb dX4_sortOf_7 rfl (lv_at hl 0 rfl) ?_
    refine lv_bipush (pc := 8) (v := 97) hx hb dX4_sortOf_8 (by decide) ?_
    refine lv_icmp_lt (pc := 10) (tgt := 21) hx hb dX4_sortOf_10 (by decide) (fun q2 => ?_) (fun q2 => ?_)
    · replace hf := if_t q2 hf
      exact J21 x0 _ _ _ hf hw (lv_sub hl [0] rfl)
    · replace hf := if_f q2 hf
      refine lv_iload_n (pc := 13) hx hb dX4_sortOf_13 rfl (lv_at hl 0 rfl) ?_
      refine lv_bipush (pc := 14) (v := 122) hx hb dX4_sortOf_14 (by decide) ?_
      refine lv_icmp_gt (pc := 16) (tgt := 21) hx hb dX4_sortOf_16 (by decide) (fun q3 => ?_) (fun q3 => ?_)
      · replace hf := if_t q3 hf
        exact J21 x0 _ _ _ hf hw (lv_sub hl [0] rfl)
      · replace hf := if_f q3 hf
        refine lv_iconst (pc := 19) (v := 1) hx hb dX4_sortOf_19 (by decide) ?_
        have hf := Option.some.inj hf
        subst hf
        exact zk_reti (pc := 20) (ww := []) C hw hr hQ dX4_sortOf_20
  · replace hf := if_t q1 hf
    refine lv_iconst (pc := 5) (v := 0) hx hb dX4_sortOf_5 (by decide) ?_
    have hf := Option.some.inj hf
    subst hf
    exact zk_reti (pc := 6) (ww := []) C hw hr hQ dX4_sortOf_6
def zf_X4_takeToken_100 : Nat → TTa → Option (TTa)
  | 0, _ => none
  | n + 1, b_this => (if b_this.1 ≤ b_this.2.2.2.2.1 then some (b_this) else (Option.bind (zf_X4_letterAt b_this.2.2.2.2.1 b_this) (fun u10 => (Option.bind (zf_X4_sortOf u10) (fun u11 => (if u11 = b_this.2.2.1 then zf_X4_takeToken_100 n ((b_this.1, b_this.2.1, b_this.2.2.1, b_this.2.2.2.1, (b_this.2.2.2.2.1 + (1 : Int32)), b_this.2.2.2.2.2)) else some (b_this)))))))
def zf_X4_takeToken_81 (t0 : Int32) (b_this : TTa) : Option (TTa) := (if b_this.2.2.1 = (1 : Int32) then zf_X4_takeToken_100 FU ((b_this.1, b_this.2.1, b_this.2.2.1, b_this.2.2.2.1, t0, b_this.2.2.2.2.2)) else (if b_this.2.2.1 = (2 : Int32) then zf_X4_takeToken_100 FU ((b_this.1, b_this.2.1, b_this.2.2.1, b_this.2.2.2.1, t0, b_this.2.2.2.2.2)) else some ((b_this.1, b_this.2.1, b_this.2.2.1, b_this.2.2.2.1, t0, b_this.2.2.2.2.2))))
def zf_X4_takeToken_45 (b_this : TTa) : Option (TTa) := (Option.bind (zf_X4_letterAt b_this.2.2.2.1 b_this) (fun u4 => (Option.bind (zf_X4_sortOf u4) (fun u5 => (if u5 = 0 then zf_X4_takeToken_81 b_this.2.2.2.1 ((b_this.1, b_this.2.1, u5, b_this.2.2.2.1, b_this.2.2.2.2.1, b_this.2.2.2.2.2)) else zf_X4_takeToken_81 ((b_this.2.2.2.1 + (1 : Int32))) ((b_this.1, b_this.2.1, u5, b_this.2.2.2.1, b_this.2.2.2.2.1, b_this.2.2.2.2.2)))))))
def zf_X4_takeToken_8 : Nat → TTa → Option (TTa)
  | 0, _ => none
  | n + 1, b_this => (if b_this.1 ≤ b_this.2.2.2.1 then zf_X4_takeToken_45 b_this else (Option.bind (zf_X4_letterAt b_this.2.2.2.1 b_this) (fun u2 => (if u2 = (32 : Int32) then zf_X4_takeToken_8 n ((b_this.1, b_this.2.1, b_this.2.2.1, (b_this.2.2.2.1 + (1 : Int32)), b_this.2.2.2.2.1, b_this.2.2.2.2.2)) else zf_X4_takeToken_45 b_this))))
def zf_X4_takeToken  (b_this : TTa) : Option (TTa) := zf_X4_takeToken_8 FU ((b_this.1, b_this.2.1, b_this.2.2.1, b_this.2.2.2.2.1, b_this.2.2.2.2.1, b_this.2.2.2.2.2))
abbrev zr_X4_takeToken : Room := { frames := 1, cells := 0, slots := 0, locals := 21 }
set_option maxHeartbeats 4000000 in
set_option maxRecDepth 100000 in
theorem c_X4_takeToken (l : Launch) (G : va_G) (cy : Nat → ClassId) (tt : Nat → Nat) (a0 a1 : Nat)  (b_this : TTa) (res : TTa) (hf : zf_X4_takeToken b_this = some res) : zCT l yX4_takeToken cX4_takeToken 1 none zr_X4_takeToken G cy tt [.ref a0] [xTa a0 a1 b_this.1 b_this.2.2.1 b_this.2.2.2.1 b_this.2.2.2.2.1 b_this.2.2.2.2.2, xI cy a1 250 b_this.2.1] none [xTa a0 a1 res.1 res.2.2.1 res.2.2.2.1 res.2.2.2.2.1 res.2.2.2.2.2, xI cy a1 250 res.2.1] := by
  refine zk_start zn_X4 (Nat.le_of_ble_eq_true rfl) ?_
  intro p e s m args below meth c A ls Q C hr hQ hw hl
  have C : zCx p m c s args meth cX4_takeToken 1 RX4 G cy tt A := C
  have hx := C.1.1
  have hb := C.1.2.1
  have hl : lv_has ls 1 [(0, .ref a0)] := hl
  have J100 : ∀ (n : Nat), ∀ (b_this : TTa) (H : Heap) (locs : List Loc) (ls : Array Slot), zf_X4_takeToken_100 n b_this = some res → zWd G A s.heap H locs [xTa a0 a1 b_this.1 b_this.2.2.1 b_this.2.2.2.1 b_this.2.2.2.2.1 b_this.2.2.2.2.2, xI cy a1 250 b_this.2.1] → lv_has ls 1 [(0, .ref a0)] → W p l e zr_X4_takeToken s m args below meth c H locs 0 0 Q (F0 m 100 ls []) := by
    intro n
    induction n with
    | zero =>
      intro b_this H locs ls hf hw hl
      rw [zf_X4_takeToken_100] at hf
      cases hf
    | succ n ih =>
      intro b_this H locs ls hf hw hl
      rw [zf_X4_takeToken_100] at hf
      refine lv_aload_n (pc := 100) hx hb dX4_takeToken_100 rfl (lv_at hl 0 rfl) ?_
      refine zk_gt (pc := 101) C hw zl_X4_25 0 rfl rfl dX4_takeToken_101 ?_
      refine lv_aload_n (pc := 104) hx hb dX4_takeToken_104 rfl (lv_at hl 0 rfl) ?_
      refine zk_gt (pc := 105) C hw zl_X4_9 0 rfl rfl dX4_takeToken_105 ?_
      refine lv_icmp_ge (pc := 108) (tgt := 142) hx hb dX4_takeToken_108 (by decide) (fun q9 => ?_) (fun q9 => ?_)
      · replace hf := if_t q9 hf
        have hf := Option.some.inj hf
        subst hf
        exact zk_retv (pc := 142) (ww := [xTa a0 a1 b_this.1 b_this.2.2.1 b_this.2.2.2.1 b_this.2.2.2.2.1 b_this.2.2.2.2.2, xI cy a1 250 b_this.2.1]) C hw hr hQ dX4_takeToken_142
      · replace hf := if_f q9 hf
        refine lv_aload_n (pc := 111) hx hb dX4_takeToken_111 rfl (lv_at hl 0 rfl) ?_
        refine lv_aload_n (pc := 112) hx hb dX4_takeToken_112 rfl (lv_at hl 0 rfl) ?_
        refine zk_gt (pc := 113) C hw zl_X4_25 0 rfl rfl dX4_takeToken_113 ?_
        obtain ⟨u10, u10e, hf⟩ := bd hf
        refine zk_cV (pc := 116) (ci := 4) (q0 := 0) (rest := []) (st1 := [.int u10]) (w' := [xTa a0 a1 b_this.1 b_this.2.2.1 b_this.2.2.2.1 b_this.2.2.2.2.1 b_this.2.2.2.2.2, xI cy a1 250 b_this.2.1]) (mk := [none, none]) C hw (c_X4_letterAt l G cy tt a0 a1 b_this.2.2.2.2.1 b_this _ u10e) zy_X4_letterAt zm_X4_112 rfl rfl rfl [0, 1] rfl rfl rfl rfl rfl rfl rfl rfl hl.1 ⟨rfl, rfl⟩ ⟨Nat.le_of_ble_eq_true rfl, Nat.le_of_ble_eq_true rfl⟩ rfl (Nat.le_of_ble_eq_true rfl) ⟨Nat.zero_le _, Nat.zero_le _⟩ dX4_takeToken_116 (fun H locs hw => ?_)
        obtain ⟨u11, u11e, hf⟩ := bd hf
        refine zk_cS (pc := 119) (rest := []) (st1 := [.int u11]) (w' := [xTa a0 a1 b_this.1 b_this.2.2.1 b_this.2.2.2.1 b_this.2.2.2.2.1 b_this.2.2.2.2.2, xI cy a1 250 b_this.2.1]) (mk := [none, none]) C hw (c_X4_sortOf l G cy tt u10 _ u11e) zy_X4_sortOf zm_X4_120 [] rfl rfl rfl rfl rfl rfl rfl rfl hl.1 ⟨rfl, rfl⟩ ⟨Nat.le_of_ble_eq_true rfl, Nat.le_of_ble_eq_true rfl⟩ rfl (Nat.le_of_ble_eq_true rfl) ⟨Nat.zero_le _, Nat.zero_le _⟩ dX4_takeToken_119 (fun H locs hw => ?_)
        refine lv_aload_n (pc := 122) hx hb dX4_takeToken_122 rfl (lv_at hl 0 rfl) ?_
        refine zk_gt (pc := 123) C hw zl_X4_19 0 rfl rfl dX4_takeToken_123 ?_
        refine lv_icmp_ne (pc := 126) (tgt := 142) hx hb dX4_takeToken_126 (by decide) (fun q12 => ?_) (fun q12 => ?_)
        · replace hf := if_f q12 hf
          have hf := Option.some.inj hf
          subst hf
          exact zk_retv (pc := 142) (ww := [xTa a0 a1 b_this.1 b_this.2.2.1 b_this.2.2.2.1 b_this.2.2.2.2.1 b_this.2.2.2.2.2, xI cy a1 250 b_this.2.1]) C hw hr hQ dX4_takeToken_142
        · replace hf := if_t q12 hf
          refine lv_aload_n (pc := 129) hx hb dX4_takeToken_129 rfl (lv_at hl 0 rfl) ?_
          refine lv_dup (pc := 130) hx hb dX4_takeToken_130 rfl ?_
          refine zk_gt (pc := 131) C hw zl_X4_25 0 rfl rfl dX4_takeToken_131 ?_
          refine lv_iconst (pc := 134) (v := 1) hx hb dX4_takeToken_134 (by decide) ?_
          refine lv_iadd (pc := 135) hx hb dX4_takeToken_135 ?_
          refine zk_put (pc := 136) (w' := [xTa a0 a1 b_this.1 b_this.2.2.1 b_this.2.2.2.1 ((b_this.2.2.2.2.1 + (1 : Int32))) b_this.2.2.2.2.2, xI cy a1 250 b_this.2.1]) C hw zp_X4_25 0 rfl rfl rfl (Nat.le_of_ble_eq_true rfl) rfl dX4_takeToken_136 (fun H locs hw => ?_)
          refine lv_goto (pc := 139) (tgt := 100) hx hb dX4_takeToken_139 (by decide) ?_
          exact ih ((b_this.1, b_this.2.1, b_this.2.2.1, b_this.2.2.2.1, (b_this.2.2.2.2.1 + (1 : Int32)), b_this.2.2.2.2.2)) _ _ _ hf hw (lv_sub hl [0] rfl)
  have J81 : ∀ (t0 : Int32) (b_this : TTa) (H : Heap) (locs : List Loc) (ls : Array Slot), zf_X4_takeToken_81 t0 b_this = some res → zWd G A s.heap H locs [xTa a0 a1 b_this.1 b_this.2.2.1 b_this.2.2.2.1 b_this.2.2.2.2.1 b_this.2.2.2.2.2, xI cy a1 250 b_this.2.1] → lv_has ls 1 [(0, .ref a0)] → W p l e zr_X4_takeToken s m args below meth c H locs 0 0 Q (F0 m 81 ls [.int t0, .ref a0]) := by
    intro t0 b_this H locs ls hf hw hl
    rw [zf_X4_takeToken_81] at hf
    refine zk_put (pc := 81) (w' := [xTa a0 a1 b_this.1 b_this.2.2.1 b_this.2.2.2.1 t0 b_this.2.2.2.2.2, xI cy a1 250 b_this.2.1]) C hw zp_X4_25 0 rfl rfl rfl (Nat.le_of_ble_eq_true rfl) rfl dX4_takeToken_81 (fun H locs hw => ?_)
    refine lv_aload_n (pc := 84) hx hb dX4_takeToken_84 rfl (lv_at hl 0 rfl) ?_
    refine zk_gt (pc := 85) C hw zl_X4_19 0 rfl rfl dX4_takeToken_85 ?_
    refine lv_iconst (pc := 88) (v := 1) hx hb dX4_takeToken_88 (by decide) ?_
    refine lv_icmp_eq (pc := 89) (tgt := 100) hx hb dX4_takeToken_89 (by decide) (fun q7 => ?_) (fun q7 => ?_)
    · replace hf := if_t q7 hf
      exact J100 FU ((b_this.1, b_this.2.1, b_this.2.2.1, b_this.2.2.2.1, t0, b_this.2.2.2.2.2)) _ _ _ hf hw (lv_sub hl [0] rfl)
    · replace hf := if_f q7 hf
      refine lv_aload_n (pc := 92) hx hb dX4_takeToken_92 rfl (lv_at hl 0 rfl) ?_
      refine zk_gt (pc := 93) C hw zl_X4_19 0 rfl rfl dX4_takeToken_93 ?_
      refine lv_iconst (pc := 96) (v := 2) hx hb dX4_takeToken_96 (by decide) ?_
      refine lv_icmp_ne (pc := 97) (tgt := 142) hx hb dX4_takeToken_97 (by decide) (fun q8 => ?_) (fun q8 => ?_)
      · replace hf := if_f q8 hf
        have hf := Option.some.inj hf
        subst hf
        exact zk_retv (pc := 142) (ww := [xTa a0 a1 b_this.1 b_this.2.2.1 b_this.2.2.2.1 t0 b_this.2.2.2.2.2, xI cy a1 250 b_this.2.1]) C hw hr hQ dX4_takeToken_142
      · replace hf := if_t q8 hf
        exact J100 FU ((b_this.1, b_this.2.1, b_this.2.2.1, b_this.2.2.2.1, t0, b_this.2.2.2.2.2)) _ _ _ hf hw (lv_sub hl [0] rfl)
  have J45 : ∀ (b_this : TTa) (H : Heap) (locs : List Loc) (ls : Array Slot), zf_X4_takeToken_45 b_this = some res → zWd G A s.heap H locs [xTa a0 a1 b_this.1 b_this.2.2.1 b_this.2.2.2.1 b_this.2.2.2.2.1 b_this.2.2.2.2.2, xI cy a1 250 b_this.2.1] → lv_has ls 1 [(0, .ref a0)] → W p l e zr_X4_takeToken s m args below meth c H locs 0 0 Q (F0 m 45 ls []) := by
    intro b_this H locs ls hf hw hl
    rw [zf_X4_takeToken_45] at hf
    refine lv_aload_n (pc := 45) hx hb dX4_takeToken_45 rfl (lv_at hl 0 rfl) ?_
    refine lv_aload_n (pc := 46) hx hb dX4_takeToken_46 rfl (lv_at hl 0 rfl) ?_
    refine lv_aload_n (pc := 47) hx hb dX4_takeToken_47 rfl (lv_at hl 0 rfl) ?_
    refine zk_gt (pc := 48) C hw zl_X4_22 0 rfl rfl dX4_takeToken_48 ?_
    obtain ⟨u4, u4e, hf⟩ := bd hf
    refine zk_cV (pc := 51) (ci := 4) (q0 := 0) (rest := [.ref a0]) (st1 := [.int u4, .ref a0]) (w' := [xTa a0 a1 b_this.1 b_this.2.2.1 b_this.2.2.2.1 b_this.2.2.2.2.1 b_this.2.2.2.2.2, xI cy a1 250 b_this.2.1]) (mk := [none, none]) C hw (c_X4_letterAt l G cy tt a0 a1 b_this.2.2.2.1 b_this _ u4e) zy_X4_letterAt zm_X4_112 rfl rfl rfl [0, 1] rfl rfl rfl rfl rfl rfl rfl rfl hl.1 ⟨rfl, rfl⟩ ⟨Nat.le_of_ble_eq_true rfl, Nat.le_of_ble_eq_true rfl⟩ rfl (Nat.le_of_ble_eq_true rfl) ⟨Nat.zero_le _, Nat.zero_le _⟩ dX4_takeToken_51 (fun H locs hw => ?_)
    obtain ⟨u5, u5e, hf⟩ := bd hf
    refine zk_cS (pc := 54) (rest := [.ref a0]) (st1 := [.int u5, .ref a0]) (w' := [xTa a0 a1 b_this.1 b_this.2.2.1 b_this.2.2.2.1 b_this.2.2.2.2.1 b_this.2.2.2.2.2, xI cy a1 250 b_this.2.1]) (mk := [none, none]) C hw (c_X4_sortOf l G cy tt u4 _ u5e) zy_X4_sortOf zm_X4_120 [] rfl rfl rfl rfl rfl rfl rfl rfl hl.1 ⟨rfl, rfl⟩ ⟨Nat.le_of_ble_eq_true rfl, Nat.le_of_ble_eq_true rfl⟩ rfl (Nat.le_of_ble_eq_true rfl) ⟨Nat.zero_le _, Nat.zero_le _⟩ dX4_takeToken_54 (fun H locs hw => ?_)
    refine zk_put (pc := 57) (w' := [xTa a0 a1 b_this.1 u5 b_this.2.2.2.1 b_this.2.2.2.2.1 b_this.2.2.2.2.2, xI cy a1 250 b_this.2.1]) C hw zp_X4_19 0 rfl rfl rfl (Nat.le_of_ble_eq_true rfl) rfl dX4_takeToken_57 (fun H locs hw => ?_)
    refine lv_aload_n (pc := 60) hx hb dX4_takeToken_60 rfl (lv_at hl 0 rfl) ?_
    refine lv_aload_n (pc := 61) hx hb dX4_takeToken_61 rfl (lv_at hl 0 rfl) ?_
    refine zk_gt (pc := 62) C hw zl_X4_19 0 rfl rfl dX4_takeToken_62 ?_
    refine lv_if_ne (pc := 65) (tgt := 75) hx hb dX4_takeToken_65 (by decide) (fun q6 => ?_) (fun q6 => ?_)
    · replace hf := if_f q6 hf
      refine lv_aload_n (pc := 75) hx hb dX4_takeToken_75 rfl (lv_at hl 0 rfl) ?_
      refine zk_gt (pc := 76) C hw zl_X4_22 0 rfl rfl dX4_takeToken_76 ?_
      refine lv_iconst (pc := 79) (v := 1) hx hb dX4_takeToken_79 (by decide) ?_
      refine lv_iadd (pc := 80) hx hb dX4_takeToken_80 ?_
      exact J81 ((b_this.2.2.2.1 + (1 : Int32))) ((b_this.1, b_this.2.1, u5, b_this.2.2.2.1, b_this.2.2.2.2.1, b_this.2.2.2.2.2)) _ _ _ hf hw (lv_sub hl [0] rfl)
    · replace hf := if_t q6 hf
      refine lv_aload_n (pc := 68) hx hb dX4_takeToken_68 rfl (lv_at hl 0 rfl) ?_
      refine zk_gt (pc := 69) C hw zl_X4_22 0 rfl rfl dX4_takeToken_69 ?_
      refine lv_goto (pc := 72) (tgt := 81) hx hb dX4_takeToken_72 (by decide) ?_
      exact J81 b_this.2.2.2.1 ((b_this.1, b_this.2.1, u5, b_this.2.2.2.1, b_this.2.2.2.2.1, b_this.2.2.2.2.2)) _ _ _ hf hw (lv_sub hl [0] rfl)
  have J8 : ∀ (n : Nat), ∀ (b_this : TTa) (H : Heap) (locs : List Loc) (ls : Array Slot), zf_X4_takeToken_8 n b_this = some res → zWd G A s.heap H locs [xTa a0 a1 b_this.1 b_this.2.2.1 b_this.2.2.2.1 b_this.2.2.2.2.1 b_this.2.2.2.2.2, xI cy a1 250 b_this.2.1] → lv_has ls 1 [(0, .ref a0)] → W p l e zr_X4_takeToken s m args below meth c H locs 0 0 Q (F0 m 8 ls []) := by
    intro n
    induction n with
    | zero =>
      intro b_this H locs ls hf hw hl
      rw [zf_X4_takeToken_8] at hf
      cases hf
    | succ n ih =>
      intro b_this H locs ls hf hw hl
      rw [zf_X4_takeToken_8] at hf
      refine lv_aload_n (pc := 8) hx hb dX4_takeToken_8 rfl (lv_at hl 0 rfl) ?_
      refine zk_gt (pc := 9) C hw zl_X4_22 0 rfl rfl dX4_takeToken_9 ?_
      refine lv_aload_n (pc := 12) hx hb dX4_takeToken_12 rfl (lv_at hl 0 rfl) ?_
      refine zk_gt (pc := 13) C hw zl_X4_9 0 rfl rfl dX4_takeToken_13 ?_
      refine lv_icmp_ge (pc := 16) (tgt := 45) hx hb dX4_takeToken_16 (by decide) (fun q1 => ?_) (fun q1 => ?_)
      · replace hf := if_t q1 hf
        exact J45 b_this _ _ _ hf hw (lv_sub hl [0] rfl)
      · replace hf := if_f q1 hf
        refine lv_aload_n (pc := 19) hx hb dX4_takeToken_19 rfl (lv_at hl 0 rfl) ?_
        refine lv_aload_n (pc := 20) hx hb dX4_takeToken_20 rfl (lv_at hl 0 rfl) ?_
        refine zk_gt (pc := 21) C hw zl_X4_22 0 rfl rfl dX4_takeToken_21 ?_
        obtain ⟨u2, u2e, hf⟩ := bd hf
        refine zk_cV (pc := 24) (ci := 4) (q0 := 0) (rest := []) (st1 := [.int u2]) (w' := [xTa a0 a1 b_this.1 b_this.2.2.1 b_this.2.2.2.1 b_this.2.2.2.2.1 b_this.2.2.2.2.2, xI cy a1 250 b_this.2.1]) (mk := [none, none]) C hw (c_X4_letterAt l G cy tt a0 a1 b_this.2.2.2.1 b_this _ u2e) zy_X4_letterAt zm_X4_112 rfl rfl rfl [0, 1] rfl rfl rfl rfl rfl rfl rfl rfl hl.1 ⟨rfl, rfl⟩ ⟨Nat.le_of_ble_eq_true rfl, Nat.le_of_ble_eq_true rfl⟩ rfl (Nat.le_of_ble_eq_true rfl) ⟨Nat.zero_le _, Nat.zero_le _⟩ dX4_takeToken_24 (fun H locs hw => ?_)
        refine lv_bipush (pc := 27) (v := 32) hx hb dX4_takeToken_27 (by decide) ?_
        refine lv_icmp_ne (pc := 29) (tgt := 45) hx hb dX4_takeToken_29 (by decide) (fun q3 => ?_) (fun q3 => ?_)
        · replace hf := if_f q3 hf
          exact J45 b_this _ _ _ hf hw (lv_sub hl [0] rfl)
        · replace hf := if_t q3 hf
          refine lv_aload_n (pc := 32) hx hb dX4_takeToken_32 rfl (lv_at hl 0 rfl) ?_
          refine lv_dup (pc := 33) hx hb dX4_takeToken_33 rfl ?_
          refine zk_gt (pc := 34) C hw zl_X4_22 0 rfl rfl dX4_takeToken_34 ?_
          refine lv_iconst (pc := 37) (v := 1) hx hb dX4_takeToken_37 (by decide) ?_
          refine lv_iadd (pc := 38) hx hb dX4_takeToken_38 ?_
          refine zk_put (pc := 39) (w' := [xTa a0 a1 b_this.1 b_this.2.2.1 ((b_this.2.2.2.1 + (1 : Int32))) b_this.2.2.2.2.1 b_this.2.2.2.2.2, xI cy a1 250 b_this.2.1]) C hw zp_X4_22 0 rfl rfl rfl (Nat.le_of_ble_eq_true rfl) rfl dX4_takeToken_39 (fun H locs hw => ?_)
          refine lv_goto (pc := 42) (tgt := 8) hx hb dX4_takeToken_42 (by decide) ?_
          exact ih ((b_this.1, b_this.2.1, b_this.2.2.1, (b_this.2.2.2.1 + (1 : Int32)), b_this.2.2.2.2.1, b_this.2.2.2.2.2)) _ _ _ hf hw (lv_sub hl [0] rfl)
  rw [zf_X4_takeToken] at hf
  refine lv_aload_n (pc := 0) hx hb dX4_takeToken_0 rfl (lv_at hl 0 rfl) ?_
  refine lv_aload_n (pc := 1) hx hb dX4_takeToken_1 rfl (lv_at hl 0 rfl) ?_
  refine zk_gt (pc := 2) C hw zl_X4_25 0 rfl rfl dX4_takeToken_2 ?_
  refine zk_put (pc := 5) (w' := [xTa a0 a1 b_this.1 b_this.2.2.1 b_this.2.2.2.2.1 b_this.2.2.2.2.1 b_this.2.2.2.2.2, xI cy a1 250 b_this.2.1]) C hw zp_X4_22 0 rfl rfl rfl (Nat.le_of_ble_eq_true rfl) rfl dX4_takeToken_5 (fun H locs hw => ?_)
  exact J8 FU ((b_this.1, b_this.2.1, b_this.2.2.1, b_this.2.2.2.2.1, b_this.2.2.2.2.1, b_this.2.2.2.2.2)) _ _ _ hf hw (lv_sub hl [0] rfl)
def zf_X4_spells_l0_20 (b_this : TTa) : Nat → Int32 → Option (Bool)
  | 0, _ => none
  | n + 1, v2 => (if (6 : Int32) ≤ v2 then some (true) else (Option.bind (zf_X4_letterAt (((b_this.2.2.2.1 + v2))) b_this) (fun u3 => (if ix v2 6 then (if u3 = (zCH 0 v2.toNatClampNeg) then zf_X4_spells_l0_20 b_this n ((v2 + 1)) else some (false)) else none))))
def zf_X4_spells_l0  (b_this : TTa) : Option (Bool) := (if (b_this.2.2.2.2.1 - b_this.2.2.2.1) = (6 : Int32) then zf_X4_spells_l0_20 b_this FU ((0 : Int32)) else some (false))
abbrev zr_X4_spells_l0 : Room := { frames := 8, cells := 0, slots := 0, locals := 300 }
set_option maxHeartbeats 4000000 in
set_option maxRecDepth 100000 in
theorem c_X4_spells_l0 (l : Launch) (G : va_G) (cy : Nat → ClassId) (tt : Nat → Nat) (a0 a1 : Nat)  (b_this : TTa) (res : Bool) (hf : zf_X4_spells_l0 b_this = some res) : zCT l yX4_spells cX4_spells 3 (some .boolean) zr_X4_spells_l0 G cy tt [.ref a0, .ref (tt 10)] [xTa a0 a1 b_this.1 b_this.2.2.1 b_this.2.2.2.1 b_this.2.2.2.2.1 b_this.2.2.2.2.2, xI cy a1 250 b_this.2.1] (some (.int (bI res))) [xTa a0 a1 b_this.1 b_this.2.2.1 b_this.2.2.2.1 b_this.2.2.2.2.1 b_this.2.2.2.2.2, xI cy a1 250 b_this.2.1] := by
  refine zk_start zn_X4 (Nat.le_of_ble_eq_true rfl) ?_
  intro p e s m args below meth c A ls Q C hr hQ hw hl
  have C : zCx p m c s args meth cX4_spells 3 RX4 G cy tt A := C
  have hx := C.1.1
  have hb := C.1.2.1
  have hl : lv_has ls 3 [(0, .ref a0), (1, .ref (tt 10))] := hl
  have J20 : ∀ (n : Nat), ∀ (v2 : Int32) (H : Heap) (locs : List Loc) (ls : Array Slot), zf_X4_spells_l0_20 b_this n v2 = some res → zWd G A s.heap H locs [xTa a0 a1 b_this.1 b_this.2.2.1 b_this.2.2.2.1 b_this.2.2.2.2.1 b_this.2.2.2.2.2, xI cy a1 250 b_this.2.1] → lv_has ls 3 [(0, .ref a0), (1, .ref (tt 10)), (2, .int v2)] → W p l e zr_X4_spells_l0 s m args below meth c H locs 0 0 Q (F0 m 20 ls []) := by
    intro n
    induction n with
    | zero =>
      intro v2 H locs ls hf hw hl
      rw [zf_X4_spells_l0_20] at hf
      cases hf
    | succ n ih =>
      intro v2 H locs ls hf hw hl
      rw [zf_X4_spells_l0_20] at hf
      refine lv_iload_n (pc := 20) hx hb dX4_spells_20 rfl (lv_at hl 2 rfl) ?_
      refine lv_aload_n (pc := 21) hx hb dX4_spells_21 rfl (lv_at hl 1 rfl) ?_
      refine zk_slen (pc := 22) (i := 0) (v := 6) (by decide) (by decide) C hw hl.1 ⟨Nat.le_of_ble_eq_true rfl, Nat.le_of_ble_eq_true rfl⟩ (Nat.le_of_ble_eq_true rfl) ⟨Nat.zero_le _, Nat.zero_le _⟩ zm_X4_107 dX4_spells_22 (fun H locs hw => ?_)
      refine lv_icmp_ge (pc := 25) (tgt := 54) hx hb dX4_spells_25 (by decide) (fun q2 => ?_) (fun q2 => ?_)
      · replace hf := if_t q2 hf
        refine lv_iconst (pc := 54) (v := 1) hx hb dX4_spells_54 (by decide) ?_
        have hf := Option.some.inj hf
        subst hf
        exact zk_retz (pc := 55) (b := true) (ww := [xTa a0 a1 b_this.1 b_this.2.2.1 b_this.2.2.2.1 b_this.2.2.2.2.1 b_this.2.2.2.2.2, xI cy a1 250 b_this.2.1]) C hw hr hQ dX4_spells_55
      · replace hf := if_f q2 hf
        refine lv_aload_n (pc := 28) hx hb dX4_spells_28 rfl (lv_at hl 0 rfl) ?_
        refine lv_aload_n (pc := 29) hx hb dX4_spells_29 rfl (lv_at hl 0 rfl) ?_
        refine zk_gt (pc := 30) C hw zl_X4_22 0 rfl rfl dX4_spells_30 ?_
        refine lv_iload_n (pc := 33) hx hb dX4_spells_33 rfl (lv_at hl 2 rfl) ?_
        refine lv_iadd (pc := 34) hx hb dX4_spells_34 ?_
        obtain ⟨u3, u3e, hf⟩ := bd hf
        refine zk_cV (pc := 35) (ci := 4) (q0 := 0) (rest := []) (st1 := [.int u3]) (w' := [xTa a0 a1 b_this.1 b_this.2.2.1 b_this.2.2.2.1 b_this.2.2.2.2.1 b_this.2.2.2.2.2, xI cy a1 250 b_this.2.1]) (mk := [none, none]) C hw (c_X4_letterAt l G cy tt a0 a1 (((b_this.2.2.2.1 + v2))) b_this _ u3e) zy_X4_letterAt zm_X4_112 rfl rfl rfl [0, 1] rfl rfl rfl rfl rfl rfl rfl rfl hl.1 ⟨rfl, rfl⟩ ⟨Nat.le_of_ble_eq_true rfl, Nat.le_of_ble_eq_true rfl⟩ rfl (Nat.le_of_ble_eq_true rfl) ⟨Nat.zero_le _, Nat.zero_le _⟩ dX4_spells_35 (fun H locs hw => ?_)
        refine lv_aload_n (pc := 38) hx hb dX4_spells_38 rfl (lv_at hl 1 rfl) ?_
        refine lv_iload_n (pc := 39) hx hb dX4_spells_39 rfl (lv_at hl 2 rfl) ?_
        obtain ⟨q4, hf⟩ := ck hf
        refine zk_schr (pc := 40) (i := 0) (by decide) q4 C hw hl.1 ⟨Nat.le_of_ble_eq_true rfl, Nat.le_of_ble_eq_true rfl⟩ (Nat.le_of_ble_eq_true rfl) ⟨Nat.zero_le _, Nat.zero_le _⟩ zm_X4_116 dX4_spells_40 (fun H locs hw => ?_)
        refine lv_icmp_eq (pc := 43) (tgt := 48) hx hb dX4_spells_43 (by decide) (fun q5 => ?_) (fun q5 => ?_)
        · replace hf := if_t q5 hf
          refine lv_iinc (pc := 48) (v := (v2 + 1)) (lv' := [(2, .int ((v2 + 1))), (0, .ref a0), (1, .ref (tt 10))]) hx hb dX4_spells_48 hl (k := 2) rfl rfl (by decide) rfl (fun ls hl => ?_)
          refine lv_goto (pc := 51) (tgt := 20) hx hb dX4_spells_51 (by decide) ?_
          exact ih ((v2 + 1)) _ _ _ hf hw (lv_sub hl [1, 2, 0] rfl)
        · replace hf := if_f q5 hf
          refine lv_iconst (pc := 46) (v := 0) hx hb dX4_spells_46 (by decide) ?_
          have hf := Option.some.inj hf
          subst hf
          exact zk_retz (pc := 47) (b := false) (ww := [xTa a0 a1 b_this.1 b_this.2.2.1 b_this.2.2.2.1 b_this.2.2.2.2.1 b_this.2.2.2.2.2, xI cy a1 250 b_this.2.1]) C hw hr hQ dX4_spells_47
  rw [zf_X4_spells_l0] at hf
  refine lv_aload_n (pc := 0) hx hb dX4_spells_0 rfl (lv_at hl 0 rfl) ?_
  refine zk_gt (pc := 1) C hw zl_X4_25 0 rfl rfl dX4_spells_1 ?_
  refine lv_aload_n (pc := 4) hx hb dX4_spells_4 rfl (lv_at hl 0 rfl) ?_
  refine zk_gt (pc := 5) C hw zl_X4_22 0 rfl rfl dX4_spells_5 ?_
  refine lv_isub (pc := 8) hx hb dX4_spells_8 ?_
  refine lv_aload_n (pc := 9) hx hb dX4_spells_9 rfl (lv_at hl 1 rfl) ?_
  refine zk_slen (pc := 10) (i := 0) (v := 6) (by decide) (by decide) C hw hl.1 ⟨Nat.le_of_ble_eq_true rfl, Nat.le_of_ble_eq_true rfl⟩ (Nat.le_of_ble_eq_true rfl) ⟨Nat.zero_le _, Nat.zero_le _⟩ zm_X4_107 dX4_spells_10 (fun H locs hw => ?_)
  refine lv_icmp_eq (pc := 13) (tgt := 18) hx hb dX4_spells_13 (by decide) (fun q1 => ?_) (fun q1 => ?_)
  · replace hf := if_t q1 hf
    refine lv_iconst (pc := 18) (v := 0) hx hb dX4_spells_18 (by decide) ?_
    refine lv_istore_n (pc := 19) (lv' := [(2, .int ((0 : Int32))), (0, .ref a0), (1, .ref (tt 10))]) hx hb dX4_spells_19 rfl hl (by decide) rfl (fun ls hl => ?_)
    exact J20 FU ((0 : Int32)) _ _ _ hf hw (lv_sub hl [1, 2, 0] rfl)
  · replace hf := if_f q1 hf
    refine lv_iconst (pc := 16) (v := 0) hx hb dX4_spells_16 (by decide) ?_
    have hf := Option.some.inj hf
    subst hf
    exact zk_retz (pc := 17) (b := false) (ww := [xTa a0 a1 b_this.1 b_this.2.2.1 b_this.2.2.2.1 b_this.2.2.2.2.1 b_this.2.2.2.2.2, xI cy a1 250 b_this.2.1]) C hw hr hQ dX4_spells_17
def zf_X4_spells_l1_20 (b_this : TTa) : Nat → Int32 → Option (Bool)
  | 0, _ => none
  | n + 1, v2 => (if (5 : Int32) ≤ v2 then some (true) else (Option.bind (zf_X4_letterAt (((b_this.2.2.2.1 + v2))) b_this) (fun u3 => (if ix v2 5 then (if u3 = (zCH 1 v2.toNatClampNeg) then zf_X4_spells_l1_20 b_this n ((v2 + 1)) else some (false)) else none))))
def zf_X4_spells_l1  (b_this : TTa) : Option (Bool) := (if (b_this.2.2.2.2.1 - b_this.2.2.2.1) = (5 : Int32) then zf_X4_spells_l1_20 b_this FU ((0 : Int32)) else some (false))
abbrev zr_X4_spells_l1 : Room := { frames := 8, cells := 0, slots := 0, locals := 300 }
set_option maxHeartbeats 4000000 in
set_option maxRecDepth 100000 in
theorem c_X4_spells_l1 (l : Launch) (G : va_G) (cy : Nat → ClassId) (tt : Nat → Nat) (a0 a1 : Nat)  (b_this : TTa) (res : Bool) (hf : zf_X4_spells_l1 b_this = some res) : zCT l yX4_spells cX4_spells 3 (some .boolean) zr_X4_spells_l1 G cy tt [.ref a0, .ref (tt 11)] [xTa a0 a1 b_this.1 b_this.2.2.1 b_this.2.2.2.1 b_this.2.2.2.2.1 b_this.2.2.2.2.2, xI cy a1 250 b_this.2.1] (some (.int (bI res))) [xTa a0 a1 b_this.1 b_this.2.2.1 b_this.2.2.2.1 b_this.2.2.2.2.1 b_this.2.2.2.2.2, xI cy a1 250 b_this.2.1] := by
  refine zk_start zn_X4 (Nat.le_of_ble_eq_true rfl) ?_
  intro p e s m args below meth c A ls Q C hr hQ hw hl
  have C : zCx p m c s args meth cX4_spells 3 RX4 G cy tt A := C
  have hx := C.1.1
  have hb := C.1.2.1
  have hl : lv_has ls 3 [(0, .ref a0), (1, .ref (tt 11))] := hl
  have J20 : ∀ (n : Nat), ∀ (v2 : Int32) (H : Heap) (locs : List Loc) (ls : Array Slot), zf_X4_spells_l1_20 b_this n v2 = some res → zWd G A s.heap H locs [xTa a0 a1 b_this.1 b_this.2.2.1 b_this.2.2.2.1 b_this.2.2.2.2.1 b_this.2.2.2.2.2, xI cy a1 250 b_this.2.1] → lv_has ls 3 [(0, .ref a0), (1, .ref (tt 11)), (2, .int v2)] → W p l e zr_X4_spells_l1 s m args below meth c H locs 0 0 Q (F0 m 20 ls []) := by
    intro n
    induction n with
    | zero =>
      intro v2 H locs ls hf hw hl
      rw [zf_X4_spells_l1_20] at hf
      cases hf
    | succ n ih =>
      intro v2 H locs ls hf hw hl
      rw [zf_X4_spells_l1_20] at hf
      refine lv_iload_n (pc := 20) hx hb dX4_spells_20 rfl (lv_at hl 2 rfl) ?_
      refine lv_aload_n (pc := 21) hx hb dX4_spells_21 rfl (lv_at hl 1 rfl) ?_
      refine zk_slen (pc := 22) (i := 1) (v := 5) (by decide) (by decide) C hw hl.1 ⟨Nat.le_of_ble_eq_true rfl, Nat.le_of_ble_eq_true rfl⟩ (Nat.le_of_ble_eq_true rfl) ⟨Nat.zero_le _, Nat.zero_le _⟩ zm_X4_107 dX4_spells_22 (fun H locs hw => ?_)
      refine lv_icmp_ge (pc := 25) (tgt := 54) hx hb dX4_spells_25 (by decide) (fun q2 => ?_) (fun q2 => ?_)
      · replace hf := if_t q2 hf
        refine lv_iconst (pc := 54) (v := 1) hx hb dX4_spells_54 (by decide) ?_
        have hf := Option.some.inj hf
        subst hf
        exact zk_retz (pc := 55) (b := true) (ww := [xTa a0 a1 b_this.1 b_this.2.2.1 b_this.2.2.2.1 b_this.2.2.2.2.1 b_this.2.2.2.2.2, xI cy a1 250 b_this.2.1]) C hw hr hQ dX4_spells_55
      · replace hf := if_f q2 hf
        refine lv_aload_n (pc := 28) hx hb dX4_spells_28 rfl (lv_at hl 0 rfl) ?_
        refine lv_aload_n (pc := 29) hx hb dX4_spells_29 rfl (lv_at hl 0 rfl) ?_
        refine zk_gt (pc := 30) C hw zl_X4_22 0 rfl rfl dX4_spells_30 ?_
        refine lv_iload_n (pc := 33) hx hb dX4_spells_33 rfl (lv_at hl 2 rfl) ?_
        refine lv_iadd (pc := 34) hx hb dX4_spells_34 ?_
        obtain ⟨u3, u3e, hf⟩ := bd hf
        refine zk_cV (pc := 35) (ci := 4) (q0 := 0) (rest := []) (st1 := [.int u3]) (w' := [xTa a0 a1 b_this.1 b_this.2.2.1 b_this.2.2.2.1 b_this.2.2.2.2.1 b_this.2.2.2.2.2, xI cy a1 250 b_this.2.1]) (mk := [none, none]) C hw (c_X4_letterAt l G cy tt a0 a1 (((b_this.2.2.2.1 + v2))) b_this _ u3e) zy_X4_letterAt zm_X4_112 rfl rfl rfl [0, 1] rfl rfl rfl rfl rfl rfl rfl rfl hl.1 ⟨rfl, rfl⟩ ⟨Nat.le_of_ble_eq_true rfl, Nat.le_of_ble_eq_true rfl⟩ rfl (Nat.le_of_ble_eq_true rfl) ⟨Nat.zero_le _, Nat.zero_le _⟩ dX4_spells_35 (fun H locs hw => ?_)
        refine lv_aload_n (pc := 38) hx hb dX4_spells_38 rfl (lv_at hl 1 rfl) ?_
        refine lv_iload_n (pc := 39) hx hb dX4_spells_39 rfl (lv_at hl 2 rfl) ?_
        obtain ⟨q4, hf⟩ := ck hf
        refine zk_schr (pc := 40) (i := 1) (by decide) q4 C hw hl.1 ⟨Nat.le_of_ble_eq_true rfl, Nat.le_of_ble_eq_true rfl⟩ (Nat.le_of_ble_eq_true rfl) ⟨Nat.zero_le _, Nat.zero_le _⟩ zm_X4_116 dX4_spells_40 (fun H locs hw => ?_)
        refine lv_icmp_eq (pc := 43) (tgt := 48) hx hb dX4_spells_43 (by decide) (fun q5 => ?_) (fun q5 => ?_)
        · replace hf := if_t q5 hf
          refine lv_iinc (pc := 48) (v := (v2 + 1)) (lv' := [(2, .int ((v2 + 1))), (0, .ref a0), (1, .ref (tt 11))]) hx hb dX4_spells_48 hl (k := 2) rfl rfl (by decide) rfl (fun ls hl => ?_)
          refine lv_goto (pc := 51) (tgt := 20) hx hb dX4_spells_51 (by decide) ?_
          exact ih ((v2 + 1)) _ _ _ hf hw (lv_sub hl [1, 2, 0] rfl)
        · replace hf := if_f q5 hf
          refine lv_iconst (pc := 46) (v := 0) hx hb dX4_spells_46 (by decide) ?_
          have hf := Option.some.inj hf
          subst hf
          exact zk_retz (pc := 47) (b := false) (ww := [xTa a0 a1 b_this.1 b_this.2.2.1 b_this.2.2.2.1 b_this.2.2.2.2.1 b_this.2.2.2.2.2, xI cy a1 250 b_this.2.1]) C hw hr hQ dX4_spells_47
  rw [zf_X4_spells_l1] at hf
  refine lv_aload_n (pc := 0) hx hb dX4_spells_0 rfl (lv_at hl 0 rfl) ?_
  refine zk_gt (pc := 1) C hw zl_X4_25 0 rfl rfl dX4_spells_1 ?_
  refine lv_aload_n (pc := 4) hx hb dX4_spells_4 rfl (lv_at hl 0 rfl) ?_
  refine zk_gt (pc := 5) C hw zl_X4_22 0 rfl rfl dX4_spells_5 ?_
  refine lv_isub (pc := 8) hx hb dX4_spells_8 ?_
  refine lv_aload_n (pc := 9) hx hb dX4_spells_9 rfl (lv_at hl 1 rfl) ?_
  refine zk_slen (pc := 10) (i := 1) (v := 5) (by decide) (by decide) C hw hl.1 ⟨Nat.le_of_ble_eq_true rfl, Nat.le_of_ble_eq_true rfl⟩ (Nat.le_of_ble_eq_true rfl) ⟨Nat.zero_le _, Nat.zero_le _⟩ zm_X4_107 dX4_spells_10 (fun H locs hw => ?_)
  refine lv_icmp_eq (pc := 13) (tgt := 18) hx hb dX4_spells_13 (by decide) (fun q1 => ?_) (fun q1 => ?_)
  · replace hf := if_t q1 hf
    refine lv_iconst (pc := 18) (v := 0) hx hb dX4_spells_18 (by decide) ?_
    refine lv_istore_n (pc := 19) (lv' := [(2, .int ((0 : Int32))), (0, .ref a0), (1, .ref (tt 11))]) hx hb dX4_spells_19 rfl hl (by decide) rfl (fun ls hl => ?_)
    exact J20 FU ((0 : Int32)) _ _ _ hf hw (lv_sub hl [1, 2, 0] rfl)
  · replace hf := if_f q1 hf
    refine lv_iconst (pc := 16) (v := 0) hx hb dX4_spells_16 (by decide) ?_
    have hf := Option.some.inj hf
    subst hf
    exact zk_retz (pc := 17) (b := false) (ww := [xTa a0 a1 b_this.1 b_this.2.2.1 b_this.2.2.2.1 b_this.2.2.2.2.1 b_this.2.2.2.2.2, xI cy a1 250 b_this.2.1]) C hw hr hQ dX4_spells_17
def zf_X4_spells_l2_20 (b_this : TTa) : Nat → Int32 → Option (Bool)
  | 0, _ => none
  | n + 1, v2 => (if (4 : Int32) ≤ v2 then some (true) else (Option.bind (zf_X4_letterAt (((b_this.2.2.2.1 + v2))) b_this) (fun u3 => (if ix v2 4 then (if u3 = (zCH 2 v2.toNatClampNeg) then zf_X4_spells_l2_20 b_this n ((v2 + 1)) else some (false)) else none))))
def zf_X4_spells_l2  (b_this : TTa) : Option (Bool) := (if (b_this.2.2.2.2.1 - b_this.2.2.2.1) = (4 : Int32) then zf_X4_spells_l2_20 b_this FU ((0 : Int32)) else some (false))
abbrev zr_X4_spells_l2 : Room := { frames := 8, cells := 0, slots := 0, locals := 300 }
set_option maxHeartbeats 4000000 in
set_option maxRecDepth 100000 in
theorem c_X4_spells_l2 (l : Launch) (G : va_G) (cy : Nat → ClassId) (tt : Nat → Nat) (a0 a1 : Nat)  (b_this : TTa) (res : Bool) (hf : zf_X4_spells_l2 b_this = some res) : zCT l yX4_spells cX4_spells 3 (some .boolean) zr_X4_spells_l2 G cy tt [.ref a0, .ref (tt 12)] [xTa a0 a1 b_this.1 b_this.2.2.1 b_this.2.2.2.1 b_this.2.2.2.2.1 b_this.2.2.2.2.2, xI cy a1 250 b_this.2.1] (some (.int (bI res))) [xTa a0 a1 b_this.1 b_this.2.2.1 b_this.2.2.2.1 b_this.2.2.2.2.1 b_this.2.2.2.2.2, xI cy a1 250 b_this.2.1] := by
  refine zk_start zn_X4 (Nat.le_of_ble_eq_true rfl) ?_
  intro p e s m args below meth c A ls Q C hr hQ hw hl
  have C : zCx p m c s args meth cX4_spells 3 RX4 G cy tt A := C
  have hx := C.1.1
  have hb := C.1.2.1
  have hl : lv_has ls 3 [(0, .ref a0), (1, .ref (tt 12))] := hl
  have J20 : ∀ (n : Nat), ∀ (v2 : Int32) (H : Heap) (locs : List Loc) (ls : Array Slot), zf_X4_spells_l2_20 b_this n v2 = some res → zWd G A s.heap H locs [xTa a0 a1 b_this.1 b_this.2.2.1 b_this.2.2.2.1 b_this.2.2.2.2.1 b_this.2.2.2.2.2, xI cy a1 250 b_this.2.1] → lv_has ls 3 [(0, .ref a0), (1, .ref (tt 12)), (2, .int v2)] → W p l e zr_X4_spells_l2 s m args below meth c H locs 0 0 Q (F0 m 20 ls []) := by
    intro n
    induction n with
    | zero =>
      intro v2 H locs ls hf hw hl
      rw [zf_X4_spells_l2_20] at hf
      cases hf
    | succ n ih =>
      intro v2 H locs ls hf hw hl
      rw [zf_X4_spells_l2_20] at hf
      refine lv_iload_n (pc := 20) hx hb dX4_spells_20 rfl (lv_at hl 2 rfl) ?_
      refine lv_aload_n (pc := 21) hx hb dX4_spells_21 rfl (lv_at hl 1 rfl) ?_
      refine zk_slen (pc := 22) (i := 2) (v := 4) (by decide) (by decide) C hw hl.1 ⟨Nat.le_of_ble_eq_true rfl, Nat.le_of_ble_eq_true rfl⟩ (Nat.le_of_ble_eq_true rfl) ⟨Nat.zero_le _, Nat.zero_le _⟩ zm_X4_107 dX4_spells_22 (fun H locs hw => ?_)
      refine lv_icmp_ge (pc := 25) (tgt := 54) hx hb dX4_spells_25 (by decide) (fun q2 => ?_) (fun q2 => ?_)
      · replace hf := if_t q2 hf
        refine lv_iconst (pc := 54) (v := 1) hx hb dX4_spells_54 (by decide) ?_
        have hf := Option.some.inj hf
        subst hf
        exact zk_retz (pc := 55) (b := true) (ww := [xTa a0 a1 b_this.1 b_this.2.2.1 b_this.2.2.2.1 b_this.2.2.2.2.1 b_this.2.2.2.2.2, xI cy a1 250 b_this.2.1]) C hw hr hQ dX4_spells_55
      · replace hf := if_f q2 hf
        refine lv_aload_n (pc := 28) hx hb dX4_spells_28 rfl (lv_at hl 0 rfl) ?_
        refine lv_aload_n (pc := 29) hx hb dX4_spells_29 rfl (lv_at hl 0 rfl) ?_
        refine zk_gt (pc := 30) C hw zl_X4_22 0 rfl rfl dX4_spells_30 ?_
        refine lv_iload_n (pc := 33) hx hb dX4_spells_33 rfl (lv_at hl 2 rfl) ?_
        refine lv_iadd (pc := 34) hx hb dX4_spells_34 ?_
        obtain ⟨u3, u3e, hf⟩ := bd hf
        refine zk_cV (pc := 35) (ci := 4) (q0 := 0) (rest := []) (st1 := [.int u3]) (w' := [xTa a0 a1 b_this.1 b_this.2.2.1 b_this.2.2.2.1 b_this.2.2.2.2.1 b_this.2.2.2.2.2, xI cy a1 250 b_this.2.1]) (mk := [none, none]) C hw (c_X4_letterAt l G cy tt a0 a1 (((b_this.2.2.2.1 + v2))) b_this _ u3e) zy_X4_letterAt zm_X4_112 rfl rfl rfl [0, 1] rfl rfl rfl rfl rfl rfl rfl rfl hl.1 ⟨rfl, rfl⟩ ⟨Nat.le_of_ble_eq_true rfl, Nat.le_of_ble_eq_true rfl⟩ rfl (Nat.le_of_ble_eq_true rfl) ⟨Nat.zero_le _, Nat.zero_le _⟩ dX4_spells_35 (fun H locs hw => ?_)
        refine lv_aload_n (pc := 38) hx hb dX4_spells_38 rfl (lv_at hl 1 rfl) ?_
        refine lv_iload_n (pc := 39) hx hb dX4_spells_39 rfl (lv_at hl 2 rfl) ?_
        obtain ⟨q4, hf⟩ := ck hf
        refine zk_schr (pc := 40) (i := 2) (by decide) q4 C hw hl.1 ⟨Nat.le_of_ble_eq_true rfl, Nat.le_of_ble_eq_true rfl⟩ (Nat.le_of_ble_eq_true rfl) ⟨Nat.zero_le _, Nat.zero_le _⟩ zm_X4_116 dX4_spells_40 (fun H locs hw => ?_)
        refine lv_icmp_eq (pc := 43) (tgt := 48) hx hb dX4_spells_43 (by decide) (fun q5 => ?_) (fun q5 => ?_)
        · replace hf := if_t q5 hf
          refine lv_iinc (pc := 48) (v := (v2 + 1)) (lv' := [(2, .int ((v2 + 1))), (0, .ref a0), (1, .ref (tt 12))]) hx hb dX4_spells_48 hl (k := 2) rfl rfl (by decide) rfl (fun ls hl => ?_)
          refine lv_goto (pc := 51) (tgt := 20) hx hb dX4_spells_51 (by decide) ?_
          exact ih ((v2 + 1)) _ _ _ hf hw (lv_sub hl [1, 2, 0] rfl)
        · replace hf := if_f q5 hf
          refine lv_iconst (pc := 46) (v := 0) hx hb dX4_spells_46 (by decide) ?_
          have hf := Option.some.inj hf
          subst hf
          exact zk_retz (pc := 47) (b := false) (ww := [xTa a0 a1 b_this.1 b_this.2.2.1 b_this.2.2.2.1 b_this.2.2.2.2.1 b_this.2.2.2.2.2, xI cy a1 250 b_this.2.1]) C hw hr hQ dX4_spells_47
  rw [zf_X4_spells_l2] at hf
  refine lv_aload_n (pc := 0) hx hb dX4_spells_0 rfl (lv_at hl 0 rfl) ?_
  refine zk_gt (pc := 1) C hw zl_X4_25 0 rfl rfl dX4_spells_1 ?_
  refine lv_aload_n (pc := 4) hx hb dX4_spells_4 rfl (lv_at hl 0 rfl) ?_
  refine zk_gt (pc := 5) C hw zl_X4_22 0 rfl rfl dX4_spells_5 ?_
  refine lv_isub (pc := 8) hx hb dX4_spells_8 ?_
  refine lv_aload_n (pc := 9) hx hb dX4_spells_9 rfl (lv_at hl 1 rfl) ?_
  refine zk_slen (pc := 10) (i := 2) (v := 4) (by decide) (by decide) C hw hl.1 ⟨Nat.le_of_ble_eq_true rfl, Nat.le_of_ble_eq_true rfl⟩ (Nat.le_of_ble_eq_true rfl) ⟨Nat.zero_le _, Nat.zero_le _⟩ zm_X4_107 dX4_spells_10 (fun H locs hw => ?_)
  refine lv_icmp_eq (pc := 13) (tgt := 18) hx hb dX4_spells_13 (by decide) (fun q1 => ?_) (fun q1 => ?_)
  · replace hf := if_t q1 hf
    refine lv_iconst (pc := 18) (v := 0) hx hb dX4_spells_18 (by decide) ?_
    refine lv_istore_n (pc := 19) (lv' := [(2, .int ((0 : Int32))), (0, .ref a0), (1, .ref (tt 12))]) hx hb dX4_spells_19 rfl hl (by decide) rfl (fun ls hl => ?_)
    exact J20 FU ((0 : Int32)) _ _ _ hf hw (lv_sub hl [1, 2, 0] rfl)
  · replace hf := if_f q1 hf
    refine lv_iconst (pc := 16) (v := 0) hx hb dX4_spells_16 (by decide) ?_
    have hf := Option.some.inj hf
    subst hf
    exact zk_retz (pc := 17) (b := false) (ww := [xTa a0 a1 b_this.1 b_this.2.2.1 b_this.2.2.2.1 b_this.2.2.2.2.1 b_this.2.2.2.2.2, xI cy a1 250 b_this.2.1]) C hw hr hQ dX4_spells_17
def zf_X4_spells_l3_20 (b_this : TTa) : Nat → Int32 → Option (Bool)
  | 0, _ => none
  | n + 1, v2 => (if (4 : Int32) ≤ v2 then some (true) else (Option.bind (zf_X4_letterAt (((b_this.2.2.2.1 + v2))) b_this) (fun u3 => (if ix v2 4 then (if u3 = (zCH 3 v2.toNatClampNeg) then zf_X4_spells_l3_20 b_this n ((v2 + 1)) else some (false)) else none))))
def zf_X4_spells_l3  (b_this : TTa) : Option (Bool) := (if (b_this.2.2.2.2.1 - b_this.2.2.2.1) = (4 : Int32) then zf_X4_spells_l3_20 b_this FU ((0 : Int32)) else some (false))
abbrev zr_X4_spells_l3 : Room := { frames := 8, cells := 0, slots := 0, locals := 300 }
set_option maxHeartbeats 4000000 in
set_option maxRecDepth 100000 in
theorem c_X4_spells_l3 (l : Launch) (G : va_G) (cy : Nat → ClassId) (tt : Nat → Nat) (a0 a1 : Nat)  (b_this : TTa) (res : Bool) (hf : zf_X4_spells_l3 b_this = some res) : zCT l yX4_spells cX4_spells 3 (some .boolean) zr_X4_spells_l3 G cy tt [.ref a0, .ref (tt 13)] [xTa a0 a1 b_this.1 b_this.2.2.1 b_this.2.2.2.1 b_this.2.2.2.2.1 b_this.2.2.2.2.2, xI cy a1 250 b_this.2.1] (some (.int (bI res))) [xTa a0 a1 b_this.1 b_this.2.2.1 b_this.2.2.2.1 b_this.2.2.2.2.1 b_this.2.2.2.2.2, xI cy a1 250 b_this.2.1] := by
  refine zk_start zn_X4 (Nat.le_of_ble_eq_true rfl) ?_
  intro p e s m args below meth c A ls Q C hr hQ hw hl
  have C : zCx p m c s args meth cX4_spells 3 RX4 G cy tt A := C
  have hx := C.1.1
  have hb := C.1.2.1
  have hl : lv_has ls 3 [(0, .ref a0), (1, .ref (tt 13))] := hl
  have J20 : ∀ (n : Nat), ∀ (v2 : Int32) (H : Heap) (locs : List Loc) (ls : Array Slot), zf_X4_spells_l3_20 b_this n v2 = some res → zWd G A s.heap H locs [xTa a0 a1 b_this.1 b_this.2.2.1 b_this.2.2.2.1 b_this.2.2.2.2.1 b_this.2.2.2.2.2, xI cy a1 250 b_this.2.1] → lv_has ls 3 [(0, .ref a0), (1, .ref (tt 13)), (2, .int v2)] → W p l e zr_X4_spells_l3 s m args below meth c H locs 0 0 Q (F0 m 20 ls []) := by
    intro n
    induction n with
    | zero =>
      intro v2 H locs ls hf hw hl
      rw [zf_X4_spells_l3_20] at hf
      cases hf
    | succ n ih =>
      intro v2 H locs ls hf hw hl
      rw [zf_X4_spells_l3_20] at hf
      refine lv_iload_n (pc := 20) hx hb dX4_spells_20 rfl (lv_at hl 2 rfl) ?_
      refine lv_aload_n (pc := 21) hx hb dX4_spells_21 rfl (lv_at hl 1 rfl) ?_
      refine zk_slen (pc := 22) (i := 3) (v := 4) (by decide) (by decide) C hw hl.1 ⟨Nat.le_of_ble_eq_true rfl, Nat.le_of_ble_eq_true rfl⟩ (Nat.le_of_ble_eq_true rfl) ⟨Nat.zero_le _, Nat.zero_le _⟩ zm_X4_107 dX4_spells_22 (fun H locs hw => ?_)
      refine lv_icmp_ge (pc := 25) (tgt := 54) hx hb dX4_spells_25 (by decide) (fun q2 => ?_) (fun q2 => ?_)
      · replace hf := if_t q2 hf
        refine lv_iconst (pc := 54) (v := 1) hx hb dX4_spells_54 (by decide) ?_
        have hf := Option.some.inj hf
        subst hf
        exact zk_retz (pc := 55) (b := true) (ww := [xTa a0 a1 b_this.1 b_this.2.2.1 b_this.2.2.2.1 b_this.2.2.2.2.1 b_this.2.2.2.2.2, xI cy a1 250 b_this.2.1]) C hw hr hQ dX4_spells_55
      · replace hf := if_f q2 hf
        refine lv_aload_n (pc := 28) hx hb dX4_spells_28 rfl (lv_at hl 0 rfl) ?_
        refine lv_aload_n (pc := 29) hx hb dX4_spells_29 rfl (lv_at hl 0 rfl) ?_
        refine zk_gt (pc := 30) C hw zl_X4_22 0 rfl rfl dX4_spells_30 ?_
        refine lv_iload_n (pc := 33) hx hb dX4_spells_33 rfl (lv_at hl 2 rfl) ?_
        refine lv_iadd (pc := 34) hx hb dX4_spells_34 ?_
        obtain ⟨u3, u3e, hf⟩ := bd hf
        refine zk_cV (pc := 35) (ci := 4) (q0 := 0) (rest := []) (st1 := [.int u3]) (w' := [xTa a0 a1 b_this.1 b_this.2.2.1 b_this.2.2.2.1 b_this.2.2.2.2.1 b_this.2.2.2.2.2, xI cy a1 250 b_this.2.1]) (mk := [none, none]) C hw (c_X4_letterAt l G cy tt a0 a1 (((b_this.2.2.2.1 + v2))) b_this _ u3e) zy_X4_letterAt zm_X4_112 rfl rfl rfl [0, 1] rfl rfl rfl rfl rfl rfl rfl rfl hl.1 ⟨rfl, rfl⟩ ⟨Nat.le_of_ble_eq_true rfl, Nat.le_of_ble_eq_true rfl⟩ rfl (Nat.le_of_ble_eq_true rfl) ⟨Nat.zero_le _, Nat.zero_le _⟩ dX4_spells_35 (fun H locs hw => ?_)
        refine lv_aload_n (pc := 38) hx hb dX4_spells_38 rfl (lv_at hl 1 rfl) ?_
        refine lv_iload_n (pc := 39) hx hb dX4_spells_39 rfl (lv_at hl 2 rfl) ?_
        obtain ⟨q4, hf⟩ := ck hf
        refine zk_schr (pc := 40) (i := 3) (by decide) q4 C hw hl.1 ⟨Nat.le_of_ble_eq_true rfl, Nat.le_of_ble_eq_true rfl⟩ (Nat.le_of_ble_eq_true rfl) ⟨Nat.zero_le _, Nat.zero_le _⟩ zm_X4_116 dX4_spells_40 (fun H locs hw => ?_)
        refine lv_icmp_eq (pc := 43) (tgt := 48) hx hb dX4_spells_43 (by decide) (fun q5 => ?_) (fun q5 => ?_)
        · replace hf := if_t q5 hf
          refine lv_iinc (pc := 48) (v := (v2 + 1)) (lv' := [(2, .int ((v2 + 1))), (0, .ref a0), (1, .ref (tt 13))]) hx hb dX4_spells_48 hl (k := 2) rfl rfl (by decide) rfl (fun ls hl => ?_)
          refine lv_goto (pc := 51) (tgt := 20) hx hb dX4_spells_51 (by decide) ?_
          exact ih ((v2 + 1)) _ _ _ hf hw (lv_sub hl [1, 2, 0] rfl)
        · replace hf := if_f q5 hf
          refine lv_iconst (pc := 46) (v := 0) hx hb dX4_spells_46 (by decide) ?_
          have hf := Option.some.inj hf
          subst hf
          exact zk_retz (pc := 47) (b := false) (ww := [xTa a0 a1 b_this.1 b_this.2.2.1 b_this.2.2.2.1 b_this.2.2.2.2.1 b_this.2.2.2.2.2, xI cy a1 250 b_this.2.1]) C hw hr hQ dX4_spells_47
  rw [zf_X4_spells_l3] at hf
  refine lv_aload_n (pc := 0) hx hb dX4_spells_0 rfl (lv_at hl 0 rfl) ?_
  refine zk_gt (pc := 1) C hw zl_X4_25 0 rfl rfl dX4_spells_1 ?_
  refine lv_aload_n (pc := 4) hx hb dX4_spells_4 rfl (lv_at hl 0 rfl) ?_
  refine zk_gt (pc := 5) C hw zl_X4_22 0 rfl rfl dX4_spells_5 ?_
  refine lv_isub (pc := 8) hx hb dX4_spells_8 ?_
  refine lv_aload_n (pc := 9) hx hb dX4_spells_9 rfl (lv_at hl 1 rfl) ?_
  refine zk_slen (pc := 10) (i := 3) (v := 4) (by decide) (by decide) C hw hl.1 ⟨Nat.le_of_ble_eq_true rfl, Nat.le_of_ble_eq_true rfl⟩ (Nat.le_of_ble_eq_true rfl) ⟨Nat.zero_le _, Nat.zero_le _⟩ zm_X4_107 dX4_spells_10 (fun H locs hw => ?_)
  refine lv_icmp_eq (pc := 13) (tgt := 18) hx hb dX4_spells_13 (by decide) (fun q1 => ?_) (fun q1 => ?_)
  · replace hf := if_t q1 hf
    refine lv_iconst (pc := 18) (v := 0) hx hb dX4_spells_18 (by decide) ?_
    refine lv_istore_n (pc := 19) (lv' := [(2, .int ((0 : Int32))), (0, .ref a0), (1, .ref (tt 13))]) hx hb dX4_spells_19 rfl hl (by decide) rfl (fun ls hl => ?_)
    exact J20 FU ((0 : Int32)) _ _ _ hf hw (lv_sub hl [1, 2, 0] rfl)
  · replace hf := if_f q1 hf
    refine lv_iconst (pc := 16) (v := 0) hx hb dX4_spells_16 (by decide) ?_
    have hf := Option.some.inj hf
    subst hf
    exact zk_retz (pc := 17) (b := false) (ww := [xTa a0 a1 b_this.1 b_this.2.2.1 b_this.2.2.2.1 b_this.2.2.2.2.1 b_this.2.2.2.2.2, xI cy a1 250 b_this.2.1]) C hw hr hQ dX4_spells_17
def zf_X4_spells_l4_20 (b_this : TTa) : Nat → Int32 → Option (Bool)
  | 0, _ => none
  | n + 1, v2 => (if (5 : Int32) ≤ v2 then some (true) else (Option.bind (zf_X4_letterAt (((b_this.2.2.2.1 + v2))) b_this) (fun u3 => (if ix v2 5 then (if u3 = (zCH 4 v2.toNatClampNeg) then zf_X4_spells_l4_20 b_this n ((v2 + 1)) else some (false)) else none))))
def zf_X4_spells_l4  (b_this : TTa) : Option (Bool) := (if (b_this.2.2.2.2.1 - b_this.2.2.2.1) = (5 : Int32) then zf_X4_spells_l4_20 b_this FU ((0 : Int32)) else some (false))
abbrev zr_X4_spells_l4 : Room := { frames := 8, cells := 0, slots := 0, locals := 300 }
set_option maxHeartbeats 4000000 in
set_option maxRecDepth 100000 in
theorem c_X4_spells_l4 (l : Launch) (G : va_G) (cy : Nat → ClassId) (tt : Nat → Nat) (a0 a1 : Nat)  (b_this : TTa) (res : Bool) (hf : zf_X4_spells_l4 b_this = some res) : zCT l yX4_spells cX4_spells 3 (some .boolean) zr_X4_spells_l4 G cy tt [.ref a0, .ref (tt 14)] [xTa a0 a1 b_this.1 b_this.2.2.1 b_this.2.2.2.1 b_this.2.2.2.2.1 b_this.2.2.2.2.2, xI cy a1 250 b_this.2.1] (some (.int (bI res))) [xTa a0 a1 b_this.1 b_this.2.2.1 b_this.2.2.2.1 b_this.2.2.2.2.1 b_this.2.2.2.2.2, xI cy a1 250 b_this.2.1] := by
  refine zk_start zn_X4 (Nat.le_of_ble_eq_true rfl) ?_
  intro p e s m args below meth c A ls Q C hr hQ hw hl
  have C : zCx p m c s args meth cX4_spells 3 RX4 G cy tt A := C
  have hx := C.1.1
  have hb := C.1.2.1
  have hl : lv_has ls 3 [(0, .ref a0), (1, .ref (tt 14))] := hl
  have J20 : ∀ (n : Nat), ∀ (v2 : Int32) (H : Heap) (locs : List Loc) (ls : Array Slot), zf_X4_spells_l4_20 b_this n v2 = some res → zWd G A s.heap H locs [xTa a0 a1 b_this.1 b_this.2.2.1 b_this.2.2.2.1 b_this.2.2.2.2.1 b_this.2.2.2.2.2, xI cy a1 250 b_this.2.1] → lv_has ls 3 [(0, .ref a0), (1, .ref (tt 14)), (2, .int v2)] → W p l e zr_X4_spells_l4 s m args below meth c H locs 0 0 Q (F0 m 20 ls []) := by
    intro n
    induction n with
    | zero =>
      intro v2 H locs ls hf hw hl
      rw [zf_X4_spells_l4_20] at hf
      cases hf
    | succ n ih =>
      intro v2 H locs ls hf hw hl
      rw [zf_X4_spells_l4_20] at hf
      refine lv_iload_n (pc := 20) hx hb dX4_spells_20 rfl (lv_at hl 2 rfl) ?_
      refine lv_aload_n (pc := 21) hx hb dX4_spells_21 rfl (lv_at hl 1 rfl) ?_
      refine zk_slen (pc := 22) (i := 4) (v := 5) (by decide) (by decide) C hw hl.1 ⟨Nat.le_of_ble_eq_true rfl, Nat.le_of_ble_eq_true rfl⟩ (Nat.le_of_ble_eq_true rfl) ⟨Nat.zero_le _, Nat.zero_le _⟩ zm_X4_107 dX4_spells_22 (fun H locs hw => ?_)
      refine lv_icmp_ge (pc := 25) (tgt := 54) hx hb dX4_spells_25 (by decide) (fun q2 => ?_) (fun q2 => ?_)
      · replace hf := if_t q2 hf
        refine lv_iconst (pc := 54) (v := 1) hx hb dX4_spells_54 (by decide) ?_
        have hf := Option.some.inj hf
        subst hf
        exact zk_retz (pc := 55) (b := true) (ww := [xTa a0 a1 b_this.1 b_this.2.2.1 b_this.2.2.2.1 b_this.2.2.2.2.1 b_this.2.2.2.2.2, xI cy a1 250 b_this.2.1]) C hw hr hQ dX4_spells_55
      · replace hf := if_f q2 hf
        refine lv_aload_n (pc := 28) hx hb dX4_spells_28 rfl (lv_at hl 0 rfl) ?_
        refine lv_aload_n (pc := 29) hx hb dX4_spells_29 rfl (lv_at hl 0 rfl) ?_
        refine zk_gt (pc := 30) C hw zl_X4_22 0 rfl rfl dX4_spells_30 ?_
        refine lv_iload_n (pc := 33) hx hb dX4_spells_33 rfl (lv_at hl 2 rfl) ?_
        refine lv_iadd (pc := 34) hx hb dX4_spells_34 ?_
        obtain ⟨u3, u3e, hf⟩ := bd hf
        refine zk_cV (pc := 35) (ci := 4) (q0 := 0) (rest := []) (st1 := [.int u3]) (w' := [xTa a0 a1 b_this.1 b_this.2.2.1 b_this.2.2.2.1 b_this.2.2.2.2.1 b_this.2.2.2.2.2, xI cy a1 250 b_this.2.1]) (mk := [none, none]) C hw (c_X4_letterAt l G cy tt a0 a1 (((b_this.2.2.2.1 + v2))) b_this _ u3e) zy_X4_letterAt zm_X4_112 rfl rfl rfl [0, 1] rfl rfl rfl rfl rfl rfl rfl rfl hl.1 ⟨rfl, rfl⟩ ⟨Nat.le_of_ble_eq_true rfl, Nat.le_of_ble_eq_true rfl⟩ rfl (Nat.le_of_ble_eq_true rfl) ⟨Nat.zero_le _, Nat.zero_le _⟩ dX4_spells_35 (fun H locs hw => ?_)
        refine lv_aload_n (pc := 38) hx hb dX4_spells_38 rfl (lv_at hl 1 rfl) ?_
        refine lv_iload_n (pc := 39) hx hb dX4_spells_39 rfl (lv_at hl 2 rfl) ?_
        obtain ⟨q4, hf⟩ := ck hf
        refine zk_schr (pc := 40) (i := 4) (by decide) q4 C hw hl.1 ⟨Nat.le_of_ble_eq_true rfl, Nat.le_of_ble_eq_true rfl⟩ (Nat.le_of_ble_eq_true rfl) ⟨Nat.zero_le _, Nat.zero_le _⟩ zm_X4_116 dX4_spells_40 (fun H locs hw => ?_)
        refine lv_icmp_eq (pc := 43) (tgt := 48) hx hb dX4_spells_43 (by decide) (fun q5 => ?_) (fun q5 => ?_)
        · replace hf := if_t q5 hf
          refine lv_iinc (pc := 48) (v := (v2 + 1)) (lv' := [(2, .int ((v2 + 1))), (0, .ref a0), (1, .ref (tt 14))]) hx hb dX4_spells_48 hl (k := 2) rfl rfl (by decide) rfl (fun ls hl => ?_)
          refine lv_goto (pc := 51) (tgt := 20) hx hb dX4_spells_51 (by decide) ?_
          exact ih ((v2 + 1)) _ _ _ hf hw (lv_sub hl [1, 2, 0] rfl)
        · replace hf := if_f q5 hf
          refine lv_iconst (pc := 46) (v := 0) hx hb dX4_spells_46 (by decide) ?_
          have hf := Option.some.inj hf
          subst hf
          exact zk_retz (pc := 47) (b := false) (ww := [xTa a0 a1 b_this.1 b_this.2.2.1 b_this.2.2.2.1 b_this.2.2.2.2.1 b_this.2.2.2.2.2, xI cy a1 250 b_this.2.1]) C hw hr hQ dX4_spells_47
  rw [zf_X4_spells_l4] at hf
  refine lv_aload_n (pc := 0) hx hb dX4_spells_0 rfl (lv_at hl 0 rfl) ?_
  refine zk_gt (pc := 1) C hw zl_X4_25 0 rfl rfl dX4_spells_1 ?_
  refine lv_aload_n (pc := 4) hx hb dX4_spells_4 rfl (lv_at hl 0 rfl) ?_
  refine zk_gt (pc := 5) C hw zl_X4_22 0 rfl rfl dX4_spells_5 ?_
  refine lv_isub (pc := 8) hx hb dX4_spells_8 ?_
  refine lv_aload_n (pc := 9) hx hb dX4_spells_9 rfl (lv_at hl 1 rfl) ?_
  refine zk_slen (pc := 10) (i := 4) (v := 5) (by decide) (by decide) C hw hl.1 ⟨Nat.le_of_ble_eq_true rfl, Nat.le_of_ble_eq_true rfl⟩ (Nat.le_of_ble_eq_true rfl) ⟨Nat.zero_le _, Nat.zero_le _⟩ zm_X4_107 dX4_spells_10 (fun H locs hw => ?_)
  refine lv_icmp_eq (pc := 13) (tgt := 18) hx hb dX4_spells_13 (by decide) (fun q1 => ?_) (fun q1 => ?_)
  · replace hf := if_t q1 hf
    refine lv_iconst (pc := 18) (v := 0) hx hb dX4_spells_18 (by decide) ?_
    refine lv_istore_n (pc := 19) (lv' := [(2, .int ((0 : Int32))), (0, .ref a0), (1, .ref (tt 14))]) hx hb dX4_spells_19 rfl hl (by decide) rfl (fun ls hl => ?_)
    exact J20 FU ((0 : Int32)) _ _ _ hf hw (lv_sub hl [1, 2, 0] rfl)
  · replace hf := if_f q1 hf
    refine lv_iconst (pc := 16) (v := 0) hx hb dX4_spells_16 (by decide) ?_
    have hf := Option.some.inj hf
    subst hf
    exact zk_retz (pc := 17) (b := false) (ww := [xTa a0 a1 b_this.1 b_this.2.2.1 b_this.2.2.2.1 b_this.2.2.2.2.1 b_this.2.2.2.2.2, xI cy a1 250 b_this.2.1]) C hw hr hQ dX4_spells_17
def zf_X4_spells_l5_20 (b_this : TTa) : Nat → Int32 → Option (Bool)
  | 0, _ => none
  | n + 1, v2 => (if (3 : Int32) ≤ v2 then some (true) else (Option.bind (zf_X4_letterAt (((b_this.2.2.2.1 + v2))) b_this) (fun u3 => (if ix v2 3 then (if u3 = (zCH 5 v2.toNatClampNeg) then zf_X4_spells_l5_20 b_this n ((v2 + 1)) else some (false)) else none))))
def zf_X4_spells_l5  (b_this : TTa) : Option (Bool) := (if (b_this.2.2.2.2.1 - b_this.2.2.2.1) = (3 : Int32) then zf_X4_spells_l5_20 b_this FU ((0 : Int32)) else some (false))
abbrev zr_X4_spells_l5 : Room := { frames := 8, cells := 0, slots := 0, locals := 300 }
set_option maxHeartbeats 4000000 in
set_option maxRecDepth 100000 in
theorem c_X4_spells_l5 (l : Launch) (G : va_G) (cy : Nat → ClassId) (tt : Nat → Nat) (a0 a1 : Nat)  (b_this : TTa) (res : Bool) (hf : zf_X4_spells_l5 b_this = some res) : zCT l yX4_spells cX4_spells 3 (some .boolean) zr_X4_spells_l5 G cy tt [.ref a0, .ref (tt 15)] [xTa a0 a1 b_this.1 b_this.2.2.1 b_this.2.2.2.1 b_this.2.2.2.2.1 b_this.2.2.2.2.2, xI cy a1 250 b_this.2.1] (some (.int (bI res))) [xTa a0 a1 b_this.1 b_this.2.2.1 b_this.2.2.2.1 b_this.2.2.2.2.1 b_this.2.2.2.2.2, xI cy a1 250 b_this.2.1] := by
  refine zk_start zn_X4 (Nat.le_of_ble_eq_true rfl) ?_
  intro p e s m args below meth c A ls Q C hr hQ hw hl
  have C : zCx p m c s args meth cX4_spells 3 RX4 G cy tt A := C
  have hx := C.1.1
  have hb := C.1.2.1
  have hl : lv_has ls 3 [(0, .ref a0), (1, .ref (tt 15))] := hl
  have J20 : ∀ (n : Nat), ∀ (v2 : Int32) (H : Heap) (locs : List Loc) (ls : Array Slot), zf_X4_spells_l5_20 b_this n v2 = some res → zWd G A s.heap H locs [xTa a0 a1 b_this.1 b_this.2.2.1 b_this.2.2.2.1 b_this.2.2.2.2.1 b_this.2.2.2.2.2, xI cy a1 250 b_this.2.1] → lv_has ls 3 [(0, .ref a0), (1, .ref (tt 15)), (2, .int v2)] → W p l e zr_X4_spells_l5 s m args below meth c H locs 0 0 Q (F0 m 20 ls []) := by
    intro n
    induction n with
    | zero =>
      intro v2 H locs ls hf hw hl
      rw [zf_X4_spells_l5_20] at hf
      cases hf
    | succ n ih =>
      intro v2 H locs ls hf hw hl
      rw [zf_X4_spells_l5_20] at hf
      refine lv_iload_n (pc := 20) hx hb dX4_spells_20 rfl (lv_at hl 2 rfl) ?_
      refine lv_aload_n (pc := 21) hx hb dX4_spells_21 rfl (lv_at hl 1 rfl) ?_
      refine zk_slen (pc := 22) (i := 5) (v := 3) (by decide) (by decide) C hw hl.1 ⟨Nat.le_of_ble_eq_true rfl, Nat.le_of_ble_eq_true rfl⟩ (Nat.le_of_ble_eq_true rfl) ⟨Nat.zero_le _, Nat.zero_le _⟩ zm_X4_107 dX4_spells_22 (fun H locs hw => ?_)
      refine lv_icmp_ge (pc := 25) (tgt := 54) hx hb dX4_spells_25 (by decide) (fun q2 => ?_) (fun q2 => ?_)
      · replace hf := if_t q2 hf
        refine lv_iconst (pc := 54) (v := 1) hx hb dX4_spells_54 (by decide) ?_
        have hf := Option.some.inj hf
        subst hf
        exact zk_retz (pc := 55) (b := true) (ww := [xTa a0 a1 b_this.1 b_this.2.2.1 b_this.2.2.2.1 b_this.2.2.2.2.1 b_this.2.2.2.2.2, xI cy a1 250 b_this.2.1]) C hw hr hQ dX4_spells_55
      · replace hf := if_f q2 hf
        refine lv_aload_n (pc := 28) hx hb dX4_spells_28 rfl (lv_at hl 0 rfl) ?_
        refine lv_aload_n (pc := 29) hx hb dX4_spells_29 rfl (lv_at hl 0 rfl) ?_
        refine zk_gt (pc := 30) C hw zl_X4_22 0 rfl rfl dX4_spells_30 ?_
        refine lv_iload_n (pc := 33) hx hb dX4_spells_33 rfl (lv_at hl 2 rfl) ?_
        refine lv_iadd (pc := 34) hx hb dX4_spells_34 ?_
        obtain ⟨u3, u3e, hf⟩ := bd hf
        refine zk_cV (pc := 35) (ci := 4) (q0 := 0) (rest := []) (st1 := [.int u3]) (w' := [xTa a0 a1 b_this.1 b_this.2.2.1 b_this.2.2.2.1 b_this.2.2.2.2.1 b_this.2.2.2.2.2, xI cy a1 250 b_this.2.1]) (mk := [none, none]) C hw (c_X4_letterAt l G cy tt a0 a1 (((b_this.2.2.2.1 + v2))) b_this _ u3e) zy_X4_letterAt zm_X4_112 rfl rfl rfl [0, 1] rfl rfl rfl rfl rfl rfl rfl rfl hl.1 ⟨rfl, rfl⟩ ⟨Nat.le_of_ble_eq_true rfl, Nat.le_of_ble_eq_true rfl⟩ rfl (Nat.le_of_ble_eq_true rfl) ⟨Nat.zero_le _, Nat.zero_le _⟩ dX4_spells_35 (fun H locs hw => ?_)
        refine lv_aload_n (pc := 38) hx hb dX4_spells_38 rfl (lv_at hl 1 rfl) ?_
        refine lv_iload_n (pc := 39) hx hb dX4_spells_39 rfl (lv_at hl 2 rfl) ?_
        obtain ⟨q4, hf⟩ := ck hf
        refine zk_schr (pc := 40) (i := 5) (by decide) q4 C hw hl.1 ⟨Nat.le_of_ble_eq_true rfl, Nat.le_of_ble_eq_true rfl⟩ (Nat.le_of_ble_eq_true rfl) ⟨Nat.zero_le _, Nat.zero_le _⟩ zm_X4_116 dX4_spells_40 (fun H locs hw => ?_)
        refine lv_icmp_eq (pc := 43) (tgt := 48) hx hb dX4_spells_43 (by decide) (fun q5 => ?_) (fun q5 => ?_)
        · replace hf := if_t q5 hf
          refine lv_iinc (pc := 48) (v := (v2 + 1)) (lv' := [(2, .int ((v2 + 1))), (0, .ref a0), (1, .ref (tt 15))]) hx hb dX4_spells_48 hl (k := 2) rfl rfl (by decide) rfl (fun ls hl => ?_)
          refine lv_goto (pc := 51) (tgt := 20) hx hb dX4_spells_51 (by decide) ?_
          exact ih ((v2 + 1)) _ _ _ hf hw (lv_sub hl [1, 2, 0] rfl)
        · replace hf := if_f q5 hf
          refine lv_iconst (pc := 46) (v := 0) hx hb dX4_spells_46 (by decide) ?_
          have hf := Option.some.inj hf
          subst hf
          exact zk_retz (pc := 47) (b := false) (ww := [xTa a0 a1 b_this.1 b_this.2.2.1 b_this.2.2.2.1 b_this.2.2.2.2.1 b_this.2.2.2.2.2, xI cy a1 250 b_this.2.1]) C hw hr hQ dX4_spells_47
  rw [zf_X4_spells_l5] at hf
  refine lv_aload_n (pc := 0) hx hb dX4_spells_0 rfl (lv_at hl 0 rfl) ?_
  refine zk_gt (pc := 1) C hw zl_X4_25 0 rfl rfl dX4_spells_1 ?_
  refine lv_aload_n (pc := 4) hx hb dX4_spells_4 rfl (lv_at hl 0 rfl) ?_
  refine zk_gt (pc := 5) C hw zl_X4_22 0 rfl rfl dX4_spells_5 ?_
  refine lv_isub (pc := 8) hx hb dX4_spells_8 ?_
  refine lv_aload_n (pc := 9) hx hb dX4_spells_9 rfl (lv_at hl 1 rfl) ?_
  refine zk_slen (pc := 10) (i := 5) (v := 3) (by decide) (by decide) C hw hl.1 ⟨Nat.le_of_ble_eq_true rfl, Nat.le_of_ble_eq_true rfl⟩ (Nat.le_of_ble_eq_true rfl) ⟨Nat.zero_le _, Nat.zero_le _⟩ zm_X4_107 dX4_spells_10 (fun H locs hw => ?_)
  refine lv_icmp_eq (pc := 13) (tgt := 18) hx hb dX4_spells_13 (by decide) (fun q1 => ?_) (fun q1 => ?_)
  · replace hf := if_t q1 hf
    refine lv_iconst (pc := 18) (v := 0) hx hb dX4_spells_18 (by decide) ?_
    refine lv_istore_n (pc := 19) (lv' := [(2, .int ((0 : Int32))), (0, .ref a0), (1, .ref (tt 15))]) hx hb dX4_spells_19 rfl hl (by decide) rfl (fun ls hl => ?_)
    exact J20 FU ((0 : Int32)) _ _ _ hf hw (lv_sub hl [1, 2, 0] rfl)
  · replace hf := if_f q1 hf
    refine lv_iconst (pc := 16) (v := 0) hx hb dX4_spells_16 (by decide) ?_
    have hf := Option.some.inj hf
    subst hf
    exact zk_retz (pc := 17) (b := false) (ww := [xTa a0 a1 b_this.1 b_this.2.2.1 b_this.2.2.2.1 b_this.2.2.2.2.1 b_this.2.2.2.2.2, xI cy a1 250 b_this.2.1]) C hw hr hQ dX4_spells_17
def zf_X4_spells_l6_20 (b_this : TTa) : Nat → Int32 → Option (Bool)
  | 0, _ => none
  | n + 1, v2 => (if (4 : Int32) ≤ v2 then some (true) else (Option.bind (zf_X4_letterAt (((b_this.2.2.2.1 + v2))) b_this) (fun u3 => (if ix v2 4 then (if u3 = (zCH 6 v2.toNatClampNeg) then zf_X4_spells_l6_20 b_this n ((v2 + 1)) else some (false)) else none))))
def zf_X4_spells_l6  (b_this : TTa) : Option (Bool) := (if (b_this.2.2.2.2.1 - b_this.2.2.2.1) = (4 : Int32) then zf_X4_spells_l6_20 b_this FU ((0 : Int32)) else some (false))
abbrev zr_X4_spells_l6 : Room := { frames := 8, cells := 0, slots := 0, locals := 300 }
set_option maxHeartbeats 4000000 in
set_option maxRecDepth 100000 in
theorem c_X4_spells_l6 (l : Launch) (G : va_G) (cy : Nat → ClassId) (tt : Nat → Nat) (a0 a1 : Nat)  (b_this : TTa) (res : Bool) (hf : zf_X4_spells_l6 b_this = some res) : zCT l yX4_spells cX4_spells 3 (some .boolean) zr_X4_spells_l6 G cy tt [.ref a0, .ref (tt 16)] [xTa a0 a1 b_this.1 b_this.2.2.1 b_this.2.2.2.1 b_this.2.2.2.2.1 b_this.2.2.2.2.2, xI cy a1 250 b_this.2.1] (some (.int (bI res))) [xTa a0 a1 b_this.1 b_this.2.2.1 b_this.2.2.2.1 b_this.2.2.2.2.1 b_this.2.2.2.2.2, xI cy a1 250 b_this.2.1] := by
  refine zk_start zn_X4 (Nat.le_of_ble_eq_true rfl) ?_
  intro p e s m args below meth c A ls Q C hr hQ hw hl
  have C : zCx p m c s args meth cX4_spells 3 RX4 G cy tt A := C
  have hx := C.1.1
  have hb := C.1.2.1
  have hl : lv_has ls 3 [(0, .ref a0), (1, .ref (tt 16))] := hl
  have J20 : ∀ (n : Nat), ∀ (v2 : Int32) (H : Heap) (locs : List Loc) (ls : Array Slot), zf_X4_spells_l6_20 b_this n v2 = some res → zWd G A s.heap H locs [xTa a0 a1 b_this.1 b_this.2.2.1 b_this.2.2.2.1 b_this.2.2.2.2.1 b_this.2.2.2.2.2, xI cy a1 250 b_this.2.1] → lv_has ls 3 [(0, .ref a0), (1, .ref (tt 16)), (2, .int v2)] → W p l e zr_X4_spells_l6 s m args below meth c H locs 0 0 Q (F0 m 20 ls []) := by
    intro n
    induction n with
    | zero =>
      intro v2 H locs ls hf hw hl
      rw [zf_X4_spells_l6_20] at hf
      cases hf
    | succ n ih =>
      intro v2 H locs ls hf hw hl
      rw [zf_X4_spells_l6_20] at hf
      refine lv_iload_n (pc := 20) hx hb dX4_spells_20 rfl (lv_at hl 2 rfl) ?_
      refine lv_aload_n (pc := 21) hx hb dX4_spells_21 rfl (lv_at hl 1 rfl) ?_
      refine zk_slen (pc := 22) (i := 6) (v := 4) (by decide) (by decide) C hw hl.1 ⟨Nat.le_of_ble_eq_true rfl, Nat.le_of_ble_eq_true rfl⟩ (Nat.le_of_ble_eq_true rfl) ⟨Nat.zero_le _, Nat.zero_le _⟩ zm_X4_107 dX4_spells_22 (fun H locs hw => ?_)
      refine lv_icmp_ge (pc := 25) (tgt := 54) hx hb dX4_spells_25 (by decide) (fun q2 => ?_) (fun q2 => ?_)
      · replace hf := if_t q2 hf
        refine lv_iconst (pc := 54) (v := 1) hx hb dX4_spells_54 (by decide) ?_
        have hf := Option.some.inj hf
        subst hf
        exact zk_retz (pc := 55) (b := true) (ww := [xTa a0 a1 b_this.1 b_this.2.2.1 b_this.2.2.2.1 b_this.2.2.2.2.1 b_this.2.2.2.2.2, xI cy a1 250 b_this.2.1]) C hw hr hQ dX4_spells_55
      · replace hf := if_f q2 hf
        refine lv_aload_n (pc := 28) hx hb dX4_spells_28 rfl (lv_at hl 0 rfl) ?_
        refine lv_aload_n (pc := 29) hx hb dX4_spells_29 rfl (lv_at hl 0 rfl) ?_
        refine zk_gt (pc := 30) C hw zl_X4_22 0 rfl rfl dX4_spells_30 ?_
        refine lv_iload_n (pc := 33) hx hb dX4_spells_33 rfl (lv_at hl 2 rfl) ?_
        refine lv_iadd (pc := 34) hx hb dX4_spells_34 ?_
        obtain ⟨u3, u3e, hf⟩ := bd hf
        refine zk_cV (pc := 35) (ci := 4) (q0 := 0) (rest := []) (st1 := [.int u3]) (w' := [xTa a0 a1 b_this.1 b_this.2.2.1 b_this.2.2.2.1 b_this.2.2.2.2.1 b_this.2.2.2.2.2, xI cy a1 250 b_this.2.1]) (mk := [none, none]) C hw (c_X4_letterAt l G cy tt a0 a1 (((b_this.2.2.2.1 + v2))) b_this _ u3e) zy_X4_letterAt zm_X4_112 rfl rfl rfl [0, 1] rfl rfl rfl rfl rfl rfl rfl rfl hl.1 ⟨rfl, rfl⟩ ⟨Nat.le_of_ble_eq_true rfl, Nat.le_of_ble_eq_true rfl⟩ rfl (Nat.le_of_ble_eq_true rfl) ⟨Nat.zero_le _, Nat.zero_le _⟩ dX4_spells_35 (fun H locs hw => ?_)
        refine lv_aload_n (pc := 38) hx hb dX4_spells_38 rfl (lv_at hl 1 rfl) ?_
        refine lv_iload_n (pc := 39) hx hb dX4_spells_39 rfl (lv_at hl 2 rfl) ?_
        obtain ⟨q4, hf⟩ := ck hf
        refine zk_schr (pc := 40) (i := 6) (by decide) q4 C hw hl.1 ⟨Nat.le_of_ble_eq_true rfl, Nat.le_of_ble_eq_true rfl⟩ (Nat.le_of_ble_eq_true rfl) ⟨Nat.zero_le _, Nat.zero_le _⟩ zm_X4_116 dX4_spells_40 (fun H locs hw => ?_)
        refine lv_icmp_eq (pc := 43) (tgt := 48) hx hb dX4_spells_43 (by decide) (fun q5 => ?_) (fun q5 => ?_)
        · replace hf := if_t q5 hf
          refine lv_iinc (pc := 48) (v := (v2 + 1)) (lv' := [(2, .int ((v2 + 1))), (0, .ref a0), (1, .ref (tt 16))]) hx hb dX4_spells_48 hl (k := 2) rfl rfl (by decide) rfl (fun ls hl => ?_)
          refine lv_goto (pc := 51) (tgt := 20) hx hb dX4_spells_51 (by decide) ?_
          exact ih ((v2 + 1)) _ _ _ hf hw (lv_sub hl [1, 2, 0] rfl)
        · replace hf := if_f q5 hf
          refine lv_iconst (pc := 46) (v := 0) hx hb dX4_spells_46 (by decide) ?_
          have hf := Option.some.inj hf
          subst hf
          exact zk_retz (pc := 47) (b := false) (ww := [xTa a0 a1 b_this.1 b_this.2.2.1 b_this.2.2.2.1 b_this.2.2.2.2.1 b_this.2.2.2.2.2, xI cy a1 250 b_this.2.1]) C hw hr hQ dX4_spells_47
  rw [zf_X4_spells_l6] at hf
  refine lv_aload_n (pc := 0) hx hb dX4_spells_0 rfl (lv_at hl 0 rfl) ?_
  refine zk_gt (pc := 1) C hw zl_X4_25 0 rfl rfl dX4_spells_1 ?_
  refine lv_aload_n (pc := 4) hx hb dX4_spells_4 rfl (lv_at hl 0 rfl) ?_
  refine zk_gt (pc := 5) C hw zl_X4_22 0 rfl rfl dX4_spells_5 ?_
  refine lv_isub (pc := 8) hx hb dX4_spells_8 ?_
  refine lv_aload_n (pc := 9) hx hb dX4_spells_9 rfl (lv_at hl 1 rfl) ?_
  refine zk_slen (pc := 10) (i := 6) (v := 4) (by decide) (by decide) C hw hl.1 ⟨Nat.le_of_ble_eq_true rfl, Nat.le_of_ble_eq_true rfl⟩ (Nat.le_of_ble_eq_true rfl) ⟨Nat.zero_le _, Nat.zero_le _⟩ zm_X4_107 dX4_spells_10 (fun H locs hw => ?_)
  refine lv_icmp_eq (pc := 13) (tgt := 18) hx hb dX4_spells_13 (by decide) (fun q1 => ?_) (fun q1 => ?_)
  · replace hf := if_t q1 hf
    refine lv_iconst (pc := 18) (v := 0) hx hb dX4_spells_18 (by decide) ?_
    refine lv_istore_n (pc := 19) (lv' := [(2, .int ((0 : Int32))), (0, .ref a0), (1, .ref (tt 16))]) hx hb dX4_spells_19 rfl hl (by decide) rfl (fun ls hl => ?_)
    exact J20 FU ((0 : Int32)) _ _ _ hf hw (lv_sub hl [1, 2, 0] rfl)
  · replace hf := if_f q1 hf
    refine lv_iconst (pc := 16) (v := 0) hx hb dX4_spells_16 (by decide) ?_
    have hf := Option.some.inj hf
    subst hf
    exact zk_retz (pc := 17) (b := false) (ww := [xTa a0 a1 b_this.1 b_this.2.2.1 b_this.2.2.2.1 b_this.2.2.2.2.1 b_this.2.2.2.2.2, xI cy a1 250 b_this.2.1]) C hw hr hQ dX4_spells_17
def zf_X4_spelledMeasure  (b_this : TTa) : Option (Int32) := (Option.bind (zf_X4_spells_l2 b_this) (fun u1 => (if u1 then some ((0 : Int32)) else (Option.bind (zf_X4_spells_l3 b_this) (fun u3 => (if u3 then some ((1 : Int32)) else (Option.bind (zf_X4_spells_l4 b_this) (fun u5 => (if u5 then some ((2 : Int32)) else (Option.bind (zf_X4_spells_l5 b_this) (fun u7 => (if u7 then some ((3 : Int32)) else (Option.bind (zf_X4_spells_l6 b_this) (fun u9 => (if u9 then some ((4 : Int32)) else some ((-1 : Int32)))))))))))))))))
abbrev zr_X4_spelledMeasure : Room := { frames := 9, cells := 0, slots := 0, locals := 322 }
set_option maxHeartbeats 4000000 in
set_option maxRecDepth 100000 in
theorem c_X4_spelledMeasure (l : Launch) (G : va_G) (cy : Nat → ClassId) (tt : Nat → Nat) (a0 a1 : Nat)  (b_this : TTa) (res : Int32) (hf : zf_X4_spelledMeasure b_this = some res) : zCT l yX4_spelledMeasure cX4_spelledMeasure 1 (some .int) zr_X4_spelledMeasure G cy tt [.ref a0] [xTa a0 a1 b_this.1 b_this.2.2.1 b_this.2.2.2.1 b_this.2.2.2.2.1 b_this.2.2.2.2.2, xI cy a1 250 b_this.2.1] (some (.int res)) [xTa a0 a1 b_this.1 b_this.2.2.1 b_this.2.2.2.1 b_this.2.2.2.2.1 b_this.2.2.2.2.2, xI cy a1 250 b_this.2.1] := by
  refine zk_start zn_X4 (Nat.le_of_ble_eq_true rfl) ?_
  intro p e s m args below meth c A ls Q C hr hQ hw hl
  have C : zCx p m c s args meth cX4_spelledMeasure 1 RX4 G cy tt A := C
  have hx := C.1.1
  have hb := C.1.2.1
  have hl : lv_has ls 1 [(0, .ref a0)] := hl
  rw [zf_X4_spelledMeasure] at hf
  refine lv_aload_n (pc := 0) hx hb dX4_spelledMeasure_0 rfl (lv_at hl 0 rfl) ?_
  refine va_ldcS (pc := 1) hx hb C.1.2.2.2.1 (C.2.2.2.2.1.2.2.2.2.1 2 (by decide)) dX4_spelledMeasure_1 ?_
  obtain ⟨u1, u1e, hf⟩ := bd hf
  refine zk_cV (pc := 3) (ci := 4) (q0 := 0) (rest := []) (st1 := [.int (bI u1)]) (w' := [xTa a0 a1 b_this.1 b_this.2.2.1 b_this.2.2.2.1 b_this.2.2.2.2.1 b_this.2.2.2.2.2, xI cy a1 250 b_this.2.1]) (mk := [none, none]) C hw (c_X4_spells_l2 l G cy tt a0 a1 b_this _ u1e) zy_X4_spells zm_X4_40 rfl rfl rfl [0, 1] rfl rfl rfl rfl rfl rfl rfl rfl hl.1 ⟨rfl, rfl⟩ ⟨Nat.le_of_ble_eq_true rfl, Nat.le_of_ble_eq_true rfl⟩ rfl (Nat.le_of_ble_eq_true rfl) ⟨Nat.zero_le _, Nat.zero_le _⟩ dX4_spelledMeasure_3 (fun H locs hw => ?_)
  refine zk_ifz (pc := 6) (tgt := 11) hx hb dX4_spelledMeasure_6 (by decide) (fun q2 => ?_) (fun q2 => ?_)
  · replace hf := if_f q2 hf
    refine lv_aload_n (pc := 11) hx hb dX4_spelledMeasure_11 rfl (lv_at hl 0 rfl) ?_
    refine va_ldcS (pc := 12) hx hb C.1.2.2.2.1 (C.2.2.2.2.1.2.2.2.2.1 3 (by decide)) dX4_spelledMeasure_12 ?_
    obtain ⟨u3, u3e, hf⟩ := bd hf
    refine zk_cV (pc := 14) (ci := 4) (q0 := 0) (rest := []) (st1 := [.int (bI u3)]) (w' := [xTa a0 a1 b_this.1 b_this.2.2.1 b_this.2.2.2.1 b_this.2.2.2.2.1 b_this.2.2.2.2.2, xI cy a1 250 b_this.2.1]) (mk := [none, none]) C hw (c_X4_spells_l3 l G cy tt a0 a1 b_this _ u3e) zy_X4_spells zm_X4_40 rfl rfl rfl [0, 1] rfl rfl rfl rfl rfl rfl rfl rfl hl.1 ⟨rfl, rfl⟩ ⟨Nat.le_of_ble_eq_true rfl, Nat.le_of_ble_eq_true rfl⟩ rfl (Nat.le_of_ble_eq_true rfl) ⟨Nat.zero_le _, Nat.zero_le _⟩ dX4_spelledMeasure_14 (fun H locs hw => ?_)
    refine zk_ifz (pc := 17) (tgt := 22) hx hb dX4_spelledMeasure_17 (by decide) (fun q4 => ?_) (fun q4 => ?_)
    · replace hf := if_f q4 hf
      refine lv_aload_n (pc := 22) hx hb dX4_spelledMeasure_22 rfl (lv_at hl 0 rfl) ?_
      refine va_ldcS (pc := 23) hx hb C.1.2.2.2.1 (C.2.2.2.2.1.2.2.2.2.1 4 (by decide)) dX4_spelledMeasure_23 ?_
      obtain ⟨u5, u5e, hf⟩ := bd hf
      refine zk_cV (pc := 25) (ci := 4) (q0 := 0) (rest := []) (st1 := [.int (bI u5)]) (w' := [xTa a0 a1 b_this.1 b_this.2.2.1 b_this.2.2.2.1 b_this.2.2.2.2.1 b_this.2.2.2.2.2, xI cy a1 250 b_this.2.1]) (mk := [none, none]) C hw (c_X4_spells_l4 l G cy tt a0 a1 b_this _ u5e) zy_X4_spells zm_X4_40 rfl rfl rfl [0, 1] rfl rfl rfl rfl rfl rfl rfl rfl hl.1 ⟨rfl, rfl⟩ ⟨Nat.le_of_ble_eq_true rfl, Nat.le_of_ble_eq_true rfl⟩ rfl (Nat.le_of_ble_eq_true rfl) ⟨Nat.zero_le _, Nat.zero_le _⟩ dX4_spelledMeasure_25 (fun H locs hw => ?_)
      refine zk_ifz (pc := 28) (tgt := 33) hx hb dX4_spelledMeasure_28 (by decide) (fun q6 => ?_) (fun q6 => ?_)
      · replace hf := if_f q6 hf
        refine lv_aload_n (pc := 33) hx hb dX4_spelledMeasure_33 rfl (lv_at hl 0 rfl) ?_
        refine va_ldcS (pc := 34) hx hb C.1.2.2.2.1 (C.2.2.2.2.1.2.2.2.2.1 5 (by decide)) dX4_spelledMeasure_34 ?_
        obtain ⟨u7, u7e, hf⟩ := bd hf
        refine zk_cV (pc := 36) (ci := 4) (q0 := 0) (rest := []) (st1 := [.int (bI u7)]) (w' := [xTa a0 a1 b_this.1 b_this.2.2.1 b_this.2.2.2.1 b_this.2.2.2.2.1 b_this.2.2.2.2.2, xI cy a1 250 b_this.2.1]) (mk := [none, none]) C hw (c_X4_spells_l5 l G cy tt a0 a1 b_this _ u7e) zy_X4_spells zm_X4_40 rfl rfl rfl [0, 1] rfl rfl rfl rfl rfl rfl rfl rfl hl.1 ⟨rfl, rfl⟩ ⟨Nat.le_of_ble_eq_true rfl, Nat.le_of_ble_eq_true rfl⟩ rfl (Nat.le_of_ble_eq_true rfl) ⟨Nat.zero_le _, Nat.zero_le _⟩ dX4_spelledMeasure_36 (fun H locs hw => ?_)
        refine zk_ifz (pc := 39) (tgt := 44) hx hb dX4_spelledMeasure_39 (by decide) (fun q8 => ?_) (fun q8 => ?_)
        · replace hf := if_f q8 hf
          refine lv_aload_n (pc := 44) hx hb dX4_spelledMeasure_44 rfl (lv_at hl 0 rfl) ?_
          refine va_ldcS (pc := 45) hx hb C.1.2.2.2.1 (C.2.2.2.2.1.2.2.2.2.1 6 (by decide)) dX4_spelledMeasure_45 ?_
          obtain ⟨u9, u9e, hf⟩ := bd hf
          refine zk_cV (pc := 47) (ci := 4) (q0 := 0) (rest := []) (st1 := [.int (bI u9)]) (w' := [xTa a0 a1 b_this.1 b_this.2.2.1 b_this.2.2.2.1 b_this.2.2.2.2.1 b_this.2.2.2.2.2, xI cy a1 250 b_this.2.1]) (mk := [none, none]) C hw (c_X4_spells_l6 l G cy tt a0 a1 b_this _ u9e) zy_X4_spells zm_X4_40 rfl rfl rfl [0, 1] rfl rfl rfl rfl rfl rfl rfl rfl hl.1 ⟨rfl, rfl⟩ ⟨Nat.le_of_ble_eq_true rfl, Nat.le_of_ble_eq_true rfl⟩ rfl (Nat.le_of_ble_eq_true rfl) ⟨Nat.zero_le _, Nat.zero_le _⟩ dX4_spelledMeasure_47 (fun H locs hw => ?_)
          refine zk_ifz (pc := 50) (tgt := 57) hx hb dX4_spelledMeasure_50 (by decide) (fun q10 => ?_) (fun q10 => ?_)
          · replace hf := if_f q10 hf
            refine lv_iconst (pc := 57) (v := -1) hx hb dX4_spelledMeasure_57 (by decide) ?_
            have hf := Option.some.inj hf
            subst hf
            exact zk_reti (pc := 58) (ww := [xTa a0 a1 b_this.1 b_this.2.2.1 b_this.2.2.2.1 b_this.2.2.2.2.1 b_this.2.2.2.2.2, xI cy a1 250 b_this.2.1]) C hw hr hQ dX4_spelledMeasure_58
          · replace hf := if_t q10 hf
            refine lv_iconst (pc := 53) (v := 4) hx hb dX4_spelledMeasure_53 (by decide) ?_
            refine lv_goto (pc := 54) (tgt := 58) hx hb dX4_spelledMeasure_54 (by decide) ?_
            have hf := Option.some.inj hf
            subst hf
            exact zk_reti (pc := 58) (ww := [xTa a0 a1 b_this.1 b_this.2.2.1 b_this.2.2.2.1 b_this.2.2.2.2.1 b_this.2.2.2.2.2, xI cy a1 250 b_this.2.1]) C hw hr hQ dX4_spelledMeasure_58
        · replace hf := if_t q8 hf
          refine lv_iconst (pc := 42) (v := 3) hx hb dX4_spelledMeasure_42 (by decide) ?_
          have hf := Option.some.inj hf
          subst hf
          exact zk_reti (pc := 43) (ww := [xTa a0 a1 b_this.1 b_this.2.2.1 b_this.2.2.2.1 b_this.2.2.2.2.1 b_this.2.2.2.2.2, xI cy a1 250 b_this.2.1]) C hw hr hQ dX4_spelledMeasure_43
      · replace hf := if_t q6 hf
        refine lv_iconst (pc := 31) (v := 2) hx hb dX4_spelledMeasure_31 (by decide) ?_
        have hf := Option.some.inj hf
        subst hf
        exact zk_reti (pc := 32) (ww := [xTa a0 a1 b_this.1 b_this.2.2.1 b_this.2.2.2.1 b_this.2.2.2.2.1 b_this.2.2.2.2.2, xI cy a1 250 b_this.2.1]) C hw hr hQ dX4_spelledMeasure_32
    · replace hf := if_t q4 hf
      refine lv_iconst (pc := 20) (v := 1) hx hb dX4_spelledMeasure_20 (by decide) ?_
      have hf := Option.some.inj hf
      subst hf
      exact zk_reti (pc := 21) (ww := [xTa a0 a1 b_this.1 b_this.2.2.1 b_this.2.2.2.1 b_this.2.2.2.2.1 b_this.2.2.2.2.2, xI cy a1 250 b_this.2.1]) C hw hr hQ dX4_spelledMeasure_21
  · replace hf := if_t q2 hf
    refine lv_iconst (pc := 9) (v := 0) hx hb dX4_spelledMeasure_9 (by decide) ?_
    have hf := Option.some.inj hf
    subst hf
    exact zk_reti (pc := 10) (ww := [xTa a0 a1 b_this.1 b_this.2.2.1 b_this.2.2.2.1 b_this.2.2.2.2.1 b_this.2.2.2.2.2, xI cy a1 250 b_this.2.1]) C hw hr hQ dX4_spelledMeasure_10
def zf_X4_readNumber_37 : Nat → Int32 → Int32 → Int32 → TTa → Option (Bool × TTa)
  | 0, _, _, _, _ => none
  | n + 1, v1, v2, v3, b_this => (if b_this.2.2.2.2.1 ≤ v3 then (Option.bind (zf_X7_isWithin b_this.2.2.2.2.2 v1 v2) (fun u5 => some (u5, b_this))) else (Option.bind (zf_X4_letterAt v3 b_this) (fun u6 => zf_X4_readNumber_37 n v1 v2 ((v3 + 1)) ((b_this.1, b_this.2.1, b_this.2.2.1, b_this.2.2.2.1, b_this.2.2.2.2.1, (((b_this.2.2.2.2.2 * (10 : Int32)) + u6) - (48 : Int32)))))))
def zf_X4_readNumber (x1 : Int32) (x2 : Int32) (b_this : TTa) : Option (Bool × TTa) := (Option.bind (zf_X4_takeToken b_this) (fun u1 => (if u1.2.2.1 = (2 : Int32) then (if (u1.2.2.2.2.1 - u1.2.2.2.1) ≤ (3 : Int32) then zf_X4_readNumber_37 FU x1 x2 u1.2.2.2.1 ((u1.1, u1.2.1, u1.2.2.1, u1.2.2.2.1, u1.2.2.2.2.1, (0 : Int32))) else some (false, u1)) else some (false, u1))))
abbrev zr_X4_readNumber : Room := { frames := 2, cells := 0, slots := 0, locals := 41 }
set_option maxHeartbeats 4000000 in
set_option maxRecDepth 100000 in
theorem c_X4_readNumber (l : Launch) (G : va_G) (cy : Nat → ClassId) (tt : Nat → Nat) (a0 a1 : Nat) (x1 : Int32) (x2 : Int32) (b_this : TTa) (res : Bool × TTa) (hf : zf_X4_readNumber x1 x2 b_this = some res) : zCT l yX4_readNumber cX4_readNumber 4 (some .boolean) zr_X4_readNumber G cy tt [.ref a0, .int x1, .int x2] [xTa a0 a1 b_this.1 b_this.2.2.1 b_this.2.2.2.1 b_this.2.2.2.2.1 b_this.2.2.2.2.2, xI cy a1 250 b_this.2.1] (some (.int (bI res.1))) [xTa a0 a1 res.2.1 res.2.2.2.1 res.2.2.2.2.1 res.2.2.2.2.2.1 res.2.2.2.2.2.2, xI cy a1 250 res.2.2.1] := by
  refine zk_start zn_X4 (Nat.le_of_ble_eq_true rfl) ?_
  intro p e s m args below meth c A ls Q C hr hQ hw hl
  have C : zCx p m c s args meth cX4_readNumber 4 RX4 G cy tt A := C
  have hx := C.1.1
  have hb := C.1.2.1
  have hl : lv_has ls 4 [(0, .ref a0), (1, .int x1), (2, .int x2)] := hl
  have J37 : ∀ (n : Nat), ∀ (v1 : Int32) (v2 : Int32) (v3 : Int32) (b_this : TTa) (H : Heap) (locs : List Loc) (ls : Array Slot), zf_X4_readNumber_37 n v1 v2 v3 b_this = some res → zWd G A s.heap H locs [xTa a0 a1 b_this.1 b_this.2.2.1 b_this.2.2.2.1 b_this.2.2.2.2.1 b_this.2.2.2.2.2, xI cy a1 250 b_this.2.1] → lv_has ls 4 [(0, .ref a0), (1, .int v1), (2, .int v2), (3, .int v3)] → W p l e zr_X4_readNumber s m args below meth c H locs 0 0 Q (F0 m 37 ls []) := by
    intro n
    induction n with
    | zero =>
      intro v1 v2 v3 b_this H locs ls hf hw hl
      rw [zf_X4_readNumber_37] at hf
      cases hf
    | succ n ih =>
      intro v1 v2 v3 b_this H locs ls hf hw hl
      rw [zf_X4_readNumber_37] at hf
      refine lv_iload_n (pc := 37) hx hb dX4_readNumber_37 rfl (lv_at hl 3 rfl) ?_
      refine lv_aload_n (pc := 38) hx hb dX4_readNumber_38 rfl (lv_at hl 0 rfl) ?_
      refine zk_gt (pc := 39) C hw zl_X4_25 0 rfl rfl dX4_readNumber_39 ?_
      refine lv_icmp_ge (pc := 42) (tgt := 71) hx hb dX4_readNumber_42 (by decide) (fun q4 => ?_) (fun q4 => ?_)
      · replace hf := if_t q4 hf
        refine lv_aload_n (pc := 71) hx hb dX4_readNumber_71 rfl (lv_at hl 0 rfl) ?_
        refine zk_gt (pc := 72) C hw zl_X4_28 0 rfl rfl dX4_readNumber_72 ?_
        refine lv_iload_n (pc := 75) hx hb dX4_readNumber_75 rfl (lv_at hl 1 rfl) ?_
        refine lv_iload_n (pc := 76) hx hb dX4_readNumber_76 rfl (lv_at hl 2 rfl) ?_
        obtain ⟨u5, u5e, hf⟩ := bd hf
        refine zk_cSN (pc := 77) (rest := []) (st1 := [.int (bI u5)]) (w' := [xTa a0 a1 b_this.1 b_this.2.2.1 b_this.2.2.2.1 b_this.2.2.2.2.1 b_this.2.2.2.2.2, xI cy a1 250 b_this.2.1]) (mk := [none, none]) C hw (c_X7_isWithin l G cy tt b_this.2.2.2.2.2 v1 v2 _ u5e) zy_X7_isWithin zmn_X4_82 [] rfl rfl rfl rfl rfl rfl rfl rfl hl.1 ⟨rfl, rfl⟩ ⟨Nat.le_of_ble_eq_true rfl, Nat.le_of_ble_eq_true rfl⟩ rfl (Nat.le_of_ble_eq_true rfl) ⟨Nat.zero_le _, Nat.zero_le _⟩ dX4_readNumber_77 (fun H locs hw => ?_)
        have hf := Option.some.inj hf
        subst hf
        exact zk_retz (pc := 80) (b := u5) (ww := [xTa a0 a1 b_this.1 b_this.2.2.1 b_this.2.2.2.1 b_this.2.2.2.2.1 b_this.2.2.2.2.2, xI cy a1 250 b_this.2.1]) C hw hr hQ dX4_readNumber_80
      · replace hf := if_f q4 hf
        refine lv_aload_n (pc := 45) hx hb dX4_readNumber_45 rfl (lv_at hl 0 rfl) ?_
        refine lv_aload_n (pc := 46) hx hb dX4_readNumber_46 rfl (lv_at hl 0 rfl) ?_
        refine zk_gt (pc := 47) C hw zl_X4_28 0 rfl rfl dX4_readNumber_47 ?_
        refine lv_bipush (pc := 50) (v := 10) hx hb dX4_readNumber_50 (by decide) ?_
        refine lv_imul (pc := 52) hx hb dX4_readNumber_52 ?_
        refine lv_aload_n (pc := 53) hx hb dX4_readNumber_53 rfl (lv_at hl 0 rfl) ?_
        refine lv_iload_n (pc := 54) hx hb dX4_readNumber_54 rfl (lv_at hl 3 rfl) ?_
        obtain ⟨u6, u6e, hf⟩ := bd hf
        refine zk_cV (pc := 55) (ci := 4) (q0 := 0) (rest := [.int ((b_this.2.2.2.2.2 * (10 : Int32))), .ref a0]) (st1 := [.int u6, .int ((b_this.2.2.2.2.2 * (10 : Int32))), .ref a0]) (w' := [xTa a0 a1 b_this.1 b_this.2.2.1 b_this.2.2.2.1 b_this.2.2.2.2.1 b_this.2.2.2.2.2, xI cy a1 250 b_this.2.1]) (mk := [none, none]) C hw (c_X4_letterAt l G cy tt a0 a1 v3 b_this _ u6e) zy_X4_letterAt zm_X4_112 rfl rfl rfl [0, 1] rfl rfl rfl rfl rfl rfl rfl rfl hl.1 ⟨rfl, rfl⟩ ⟨Nat.le_of_ble_eq_true rfl, Nat.le_of_ble_eq_true rfl⟩ rfl (Nat.le_of_ble_eq_true rfl) ⟨Nat.zero_le _, Nat.zero_le _⟩ dX4_readNumber_55 (fun H locs hw => ?_)
        refine lv_iadd (pc := 58) hx hb dX4_readNumber_58 ?_
        refine lv_bipush (pc := 59) (v := 48) hx hb dX4_readNumber_59 (by decide) ?_
        refine lv_isub (pc := 61) hx hb dX4_readNumber_61 ?_
        refine zk_put (pc := 62) (w' := [xTa a0 a1 b_this.1 b_this.2.2.1 b_this.2.2.2.1 b_this.2.2.2.2.1 ((((b_this.2.2.2.2.2 * (10 : Int32)) + u6) - (48 : Int32))), xI cy a1 250 b_this.2.1]) C hw zp_X4_28 0 rfl rfl rfl (Nat.le_of_ble_eq_true rfl) rfl dX4_readNumber_62 (fun H locs hw => ?_)
        refine lv_iinc (pc := 65) (v := (v3 + 1)) (lv' := [(3, .int ((v3 + 1))), (0, .ref a0), (1, .int v1), (2, .int v2)]) hx hb dX4_readNumber_65 hl (k := 3) rfl rfl (by decide) rfl (fun ls hl => ?_)
        refine lv_goto (pc := 68) (tgt := 37) hx hb dX4_readNumber_68 (by decide) ?_
        exact ih v1 v2 ((v3 + 1)) ((b_this.1, b_this.2.1, b_this.2.2.1, b_this.2.2.2.1, b_this.2.2.2.2.1, (((b_this.2.2.2.2.2 * (10 : Int32)) + u6) - (48 : Int32)))) _ _ _ hf hw (lv_sub hl [1, 2, 3, 0] rfl)
  rw [zf_X4_readNumber] at hf
  refine lv_aload_n (pc := 0) hx hb dX4_readNumber_0 rfl (lv_at hl 0 rfl) ?_
  obtain ⟨u1, u1e, hf⟩ := bd hf
  refine zk_cV (pc := 1) (ci := 4) (q0 := 0) (rest := []) (st1 := []) (w' := [xTa a0 a1 u1.1 u1.2.2.1 u1.2.2.2.1 u1.2.2.2.2.1 u1.2.2.2.2.2, xI cy a1 250 u1.2.1]) (mk := [some (xTa a0 a1 u1.1 u1.2.2.1 u1.2.2.2.1 u1.2.2.2.2.1 u1.2.2.2.2.2), some (xI cy a1 250 u1.2.1)]) C hw (c_X4_takeToken l G cy tt a0 a1 b_this _ u1e) zy_X4_takeToken zm_X4_31 rfl rfl rfl [0, 1] rfl rfl rfl rfl rfl rfl rfl rfl hl.1 ⟨rfl, rfl⟩ ⟨Nat.le_of_ble_eq_true rfl, Nat.le_of_ble_eq_true rfl⟩ rfl (Nat.le_of_ble_eq_true rfl) ⟨Nat.zero_le _, Nat.zero_le _⟩ dX4_readNumber_1 (fun H locs hw => ?_)
  refine lv_aload_n (pc := 4) hx hb dX4_readNumber_4 rfl (lv_at hl 0 rfl) ?_
  refine zk_gt (pc := 5) C hw zl_X4_19 0 rfl rfl dX4_readNumber_5 ?_
  refine lv_iconst (pc := 8) (v := 2) hx hb dX4_readNumber_8 (by decide) ?_
  refine lv_icmp_ne (pc := 9) (tgt := 25) hx hb dX4_readNumber_9 (by decide) (fun q2 => ?_) (fun q2 => ?_)
  · replace hf := if_f q2 hf
    refine lv_iconst (pc := 25) (v := 0) hx hb dX4_readNumber_25 (by decide) ?_
    have hf := Option.some.inj hf
    subst hf
    exact zk_retz (pc := 26) (b := false) (ww := [xTa a0 a1 u1.1 u1.2.2.1 u1.2.2.2.1 u1.2.2.2.2.1 u1.2.2.2.2.2, xI cy a1 250 u1.2.1]) C hw hr hQ dX4_readNumber_26
  · replace hf := if_t q2 hf
    refine lv_aload_n (pc := 12) hx hb dX4_readNumber_12 rfl (lv_at hl 0 rfl) ?_
    refine zk_gt (pc := 13) C hw zl_X4_25 0 rfl rfl dX4_readNumber_13 ?_
    refine lv_aload_n (pc := 16) hx hb dX4_readNumber_16 rfl (lv_at hl 0 rfl) ?_
    refine zk_gt (pc := 17) C hw zl_X4_22 0 rfl rfl dX4_readNumber_17 ?_
    refine lv_isub (pc := 20) hx hb dX4_readNumber_20 ?_
    refine lv_iconst (pc := 21) (v := 3) hx hb dX4_readNumber_21 (by decide) ?_
    refine lv_icmp_le (pc := 22) (tgt := 27) hx hb dX4_readNumber_22 (by decide) (fun q3 => ?_) (fun q3 => ?_)
    · replace hf := if_t q3 hf
      refine lv_aload_n (pc := 27) hx hb dX4_readNumber_27 rfl (lv_at hl 0 rfl) ?_
      refine lv_iconst (pc := 28) (v := 0) hx hb dX4_readNumber_28 (by decide) ?_
      refine zk_put (pc := 29) (w' := [xTa a0 a1 u1.1 u1.2.2.1 u1.2.2.2.1 u1.2.2.2.2.1 ((0 : Int32)), xI cy a1 250 u1.2.1]) C hw zp_X4_28 0 rfl rfl rfl (Nat.le_of_ble_eq_true rfl) rfl dX4_readNumber_29 (fun H locs hw => ?_)
      refine lv_aload_n (pc := 32) hx hb dX4_readNumber_32 rfl (lv_at hl 0 rfl) ?_
      refine zk_gt (pc := 33) C hw zl_X4_22 0 rfl rfl dX4_readNumber_33 ?_
      refine lv_istore_n (pc := 36) (lv' := [(3, .int u1.2.2.2.1), (0, .ref a0), (1, .int x1), (2, .int x2)]) hx hb dX4_readNumber_36 rfl hl (by decide) rfl (fun ls hl => ?_)
      exact J37 FU x1 x2 u1.2.2.2.1 ((u1.1, u1.2.1, u1.2.2.1, u1.2.2.2.1, u1.2.2.2.2.1, (0 : Int32))) _ _ _ hf hw (lv_sub hl [1, 2, 3, 0] rfl)
    · replace hf := if_f q3 hf
      refine lv_iconst (pc := 25) (v := 0) hx hb dX4_readNumber_25 (by decide) ?_
      have hf := Option.some.inj hf
      subst hf
      exact zk_retz (pc := 26) (b := false) (ww := [xTa a0 a1 u1.1 u1.2.2.1 u1.2.2.2.1 u1.2.2.2.2.1 u1.2.2.2.2.2, xI cy a1 250 u1.2.1]) C hw hr hQ dX4_readNumber_26
def zf_X4_readMeasure_27 (v2 : Int32) (t0 : Int32) (b_this : TTa) (b_p1 : TTe) : Option (Bool × TTa × TTe) := (if ix v2 5 then (Option.bind (zf_X4_readNumber (((zLEA v2.toNatClampNeg))) t0 b_this) (fun u6 => (if u6.1 then (Option.bind (zf_X5_putMeasure v2 u6.2.2.2.2.2.2 b_p1) (fun u8 => some (true, u6.2, u8))) else some (false, u6.2, b_p1)))) else none)
def zf_X4_readMeasure (x2 : Int32) (b_this : TTa) (b_p1 : TTe) : Option (Bool × TTa × TTe) := (Option.bind (zf_X7_isWithin x2 (((0 : Int32))) (((4 : Int32)))) (fun u1 => (if u1 then (if x2 = (4 : Int32) then zf_X4_readMeasure_27 x2 ((999 : Int32)) b_this b_p1 else (if ix x2 5 then zf_X4_readMeasure_27 x2 ((zMOS x2.toNatClampNeg)) b_this b_p1 else none)) else some (false, b_this, b_p1))))
abbrev zr_X4_readMeasure : Room := { frames := 3, cells := 0, slots := 0, locals := 64 }
set_option maxHeartbeats 4000000 in
set_option maxRecDepth 100000 in
theorem c_X4_readMeasure (l : Launch) (G : va_G) (cy : Nat → ClassId) (tt : Nat → Nat) (a0 a1 : Nat) (p1_0 : Nat) (x2 : Int32) (b_this : TTa) (b_p1 : TTe) (res : Bool × TTa × TTe) (hf : zf_X4_readMeasure x2 b_this b_p1 = some res) : zCT l yX4_readMeasure cX4_readMeasure 4 (some .boolean) zr_X4_readMeasure G cy tt [.ref a0, .ref p1_0, .int x2] [xTa a0 a1 b_this.1 b_this.2.2.1 b_this.2.2.2.1 b_this.2.2.2.2.1 b_this.2.2.2.2.2, xI cy a1 250 b_this.2.1, xTe p1_0 b_p1] (some (.int (bI res.1))) [xTa a0 a1 res.2.1.1 res.2.1.2.2.1 res.2.1.2.2.2.1 res.2.1.2.2.2.2.1 res.2.1.2.2.2.2.2, xI cy a1 250 res.2.1.2.1, xTe p1_0 res.2.2] := by
  refine zk_start zn_X4 (Nat.le_of_ble_eq_true rfl) ?_
  intro p e s m args below meth c A ls Q C hr hQ hw hl
  have C : zCx p m c s args meth cX4_readMeasure 4 RX4 G cy tt A := C
  have hx := C.1.1
  have hb := C.1.2.1
  have hl : lv_has ls 4 [(0, .ref a0), (1, .ref p1_0), (2, .int x2)] := hl
  have J27 : ∀ (v2 : Int32) (t0 : Int32) (b_this : TTa) (b_p1 : TTe) (H : Heap) (locs : List Loc) (ls : Array Slot), zf_X4_readMeasure_27 v2 t0 b_this b_p1 = some res → zWd G A s.heap H locs [xTa a0 a1 b_this.1 b_this.2.2.1 b_this.2.2.2.1 b_this.2.2.2.2.1 b_this.2.2.2.2.2, xI cy a1 250 b_this.2.1, xTe p1_0 b_p1] → lv_has ls 4 [(0, .ref a0), (1, .ref p1_0), (2, .int v2)] → W p l e zr_X4_readMeasure s m args below meth c H locs 0 0 Q (F0 m 27 ls [.int t0]) := by
    intro v2 t0 b_this b_p1 H locs ls hf hw hl
    rw [zf_X4_readMeasure_27] at hf
    refine lv_istore_n (pc := 27) (lv' := [(3, .int t0), (0, .ref a0), (1, .ref p1_0), (2, .int v2)]) hx hb dX4_readMeasure_27 rfl hl (by decide) rfl (fun ls hl => ?_)
    refine lv_aload_n (pc := 28) hx hb dX4_readMeasure_28 rfl (lv_at hl 1 rfl) ?_
    refine va_getsN (pc := 29) hx hb C.2.2.2.2.1.2.1.1 hw.2.2 C.1.2.2.2.1 (va_Nw.use rfl (C.2.2.2.1 _ zfn_X4_89)) (fun _ h => h) dX4_readMeasure_29 ?_
    refine lv_iload_n (pc := 32) hx hb dX4_readMeasure_32 rfl (lv_at hl 3 rfl) ?_
    obtain ⟨q5, hf⟩ := ck hf
    refine zk_sti (pc := 33) (f := zLEA) C hw C.2.2.2.2.1.2.1.2 q5 dX4_readMeasure_33 ?_
    refine lv_iload_n (pc := 34) hx hb dX4_readMeasure_34 rfl (lv_at hl 0 rfl) ?_
    obtain ⟨u6, u6e, hf⟩ := bd hf
    refine zk_cV (pc := 35) (ci := 4) (q0 := 0) (rest := []) (st1 := [.int (bI u6.1)]) (w' := [xTa a0 a1 u6.2.1 u6.2.2.2.1 u6.2.2.2.2.1 u6.2.2.2.2.2.1 u6.2.2.2.2.2.2, xI cy a1 250 u6.2.2.1, xTe p1_0 b_p1]) (mk := [some (xTa a0 a1 u6.2.1 u6.2.2.2.1 u6.2.2.2.2.1 u6.2.2.2.2.2.1 u6.2.2.2.2.2.2), some (xI cy a1 250 u6.2.2.1), none]) C hw (c_X4_readNumber l G cy tt a0 a1 (((zLEA v2.toNatClampNeg))) t0 b_this _ u6e) zy_X4_readNumber zm_X4_67 rfl rfl rfl [0, 1] rfl rfl rfl rfl rfl rfl rfl rfl hl.1 ⟨rfl, rfl⟩ ⟨Nat.le_of_ble_eq_true rfl, Nat.le_of_ble_eq_true rfl⟩ rfl (Nat.le_of_ble_eq_true rfl) ⟨Nat.zero_le _, Nat.zero_le _⟩ dX4_readMeasure_35 (fun H locs hw => ?_)
    refine zk_ifnz (pc := 38) (tgt := 43) hx hb dX4_readMeasure_38 (by decide) (fun q7 => ?_) (fun q7 => ?_)
    · replace hf := if_t q7 hf
      refine lv_aload_n (pc := 43) hx hb dX4_readMeasure_43 rfl (lv_at hl 2 rfl) ?_
      refine lv_iload_n (pc := 44) hx hb dX4_readMeasure_44 rfl (lv_at hl 3 rfl) ?_
      refine lv_aload_n (pc := 45) hx hb dX4_readMeasure_45 rfl (lv_at hl 1 rfl) ?_
      refine zk_gt (pc := 46) C hw zl_X4_28 0 rfl rfl dX4_readMeasure_46 ?_
      obtain ⟨u8, u8e, hf⟩ := bd hf
      refine zk_cV (pc := 49) (ci := 5) (q0 := 2) (rest := []) (st1 := []) (w' := [xTa a0 a1 u6.2.1 u6.2.2.2.1 u6.2.2.2.2.1 u6.2.2.2.2.2.1 u6.2.2.2.2.2.2, xI cy a1 250 u6.2.2.1, xTe p1_0 u8]) (mk := [none, none, some (xTe p1_0 u8)]) C hw (c_X5_putMeasure l G cy tt p1_0 v2 u6.2.2.2.2.2.2 b_p1 _ u8e) zy_X5_putMeasure zm_X4_92 rfl rfl rfl [2] rfl rfl rfl rfl rfl rfl rfl rfl hl.1 ⟨rfl, rfl⟩ ⟨Nat.le_of_ble_eq_true rfl, Nat.le_of_ble_eq_true rfl⟩ rfl (Nat.le_of_ble_eq_true rfl) ⟨Nat.zero_le _, Nat.zero_le _⟩ dX4_readMeasure_49 (fun H locs hw => ?_)
      refine lv_iconst (pc := 52) (v := 1) hx hb dX4_readMeasure_52 (by decide) ?_
      have hf := Option.some.inj hf
      subst hf
      exact zk_retz (pc := 53) (b := true) (ww := [xTa a0 a1 u6.2.1 u6.2.2.2.1 u6.2.2.2.2.1 u6.2.2.2.2.2.1 u6.2.2.2.2.2.2, xI cy a1 250 u6.2.2.1, xTe p1_0 u8]) C hw hr hQ dX4_readMeasure_53
    · replace hf := if_f q7 hf
      refine lv_iconst (pc := 41) (v := 0) hx hb dX4_readMeasure_41 (by decide) ?_
      have hf := Option.some.inj hf
      subst hf
      exact zk_retz (pc := 42) (b := false) (ww := [xTa a0 a1 u6.2.1 u6.2.2.2.1 u6.2.2.2.2.1 u6.2.2.2.2.2.1 u6.2.2.2.2.2.2, xI cy a1 250 u6.2.2.1, xTe p1_0 b_p1]) C hw hr hQ dX4_readMeasure_42
  rw [zf_X4_readMeasure] at hf
  refine lv_iload_n (pc := 0) hx hb dX4_readMeasure_0 rfl (lv_at hl 2 rfl) ?_
  refine lv_iconst (pc := 1) (v := 0) hx hb dX4_readMeasure_1 (by decide) ?_
  refine lv_iconst (pc := 2) (v := 4) hx hb dX4_readMeasure_2 (by decide) ?_
  obtain ⟨u1, u1e, hf⟩ := bd hf
  refine zk_cSN (pc := 3) (rest := []) (st1 := [.int (bI u1)]) (w' := [xTa a0 a1 b_this.1 b_this.2.2.1 b_this.2.2.2.1 b_this.2.2.2.2.1 b_this.2.2.2.2.2, xI cy a1 250 b_this.2.1, xTe p1_0 b_p1]) (mk := [none, none, none]) C hw (c_X7_isWithin l G cy tt x2 (((0 : Int32))) (((4 : Int32))) _ u1e) zy_X7_isWithin zmn_X4_82 [] rfl rfl rfl rfl rfl rfl rfl rfl hl.1 ⟨rfl, rfl⟩ ⟨Nat.le_of_ble_eq_true rfl, Nat.le_of_ble_eq_true rfl⟩ rfl (Nat.le_of_ble_eq_true rfl) ⟨Nat.zero_le _, Nat.zero_le _⟩ dX4_readMeasure_3 (fun H locs hw => ?_)
  refine zk_ifnz (pc := 6) (tgt := 11) hx hb dX4_readMeasure_6 (by decide) (fun q2 => ?_) (fun q2 => ?_)
  · replace hf := if_t q2 hf
    refine lv_iload_n (pc := 11) hx hb dX4_readMeasure_11 rfl (lv_at hl 2 rfl) ?_
    refine lv_iconst (pc := 12) (v := 4) hx hb dX4_readMeasure_12 (by decide) ?_
    refine lv_icmp_ne (pc := 13) (tgt := 22) hx hb dX4_readMeasure_13 (by decide) (fun q3 => ?_) (fun q3 => ?_)
    · replace hf := if_f q3 hf
      refine va_getsN (pc := 22) hx hb C.2.2.2.2.1.2.2.1.1 hw.2.2 C.1.2.2.2.1 (va_Nw.use rfl (C.2.2.2.1 _ zfn_X4_86)) (fun _ h => h) dX4_readMeasure_22 ?_
      refine lv_iload_n (pc := 25) hx hb dX4_readMeasure_25 rfl (lv_at hl 2 rfl) ?_
      obtain ⟨q4, hf⟩ := ck hf
      refine zk_sti (pc := 26) (f := zMOS) C hw C.2.2.2.2.1.2.2.1.2 q4 dX4_readMeasure_26 ?_
      exact J27 x2 ((zMOS x2.toNatClampNeg)) b_this b_p1 _ _ _ hf hw (lv_sub hl [0, 1, 2] rfl)
    · replace hf := if_t q3 hf
      refine lv_sipush (pc := 16) (v := 999) hx hb dX4_readMeasure_16 (by decide) ?_
      refine lv_goto (pc := 19) (tgt := 27) hx hb dX4_readMeasure_19 (by decide) ?_
      exact J27 x2 ((999 : Int32)) b_this b_p1 _ _ _ hf hw (lv_sub hl [0, 1, 2] rfl)
  · replace hf := if_f q2 hf
    refine lv_iconst (pc := 9) (v := 0) hx hb dX4_readMeasure_9 (by decide) ?_
    have hf := Option.some.inj hf
    subst hf
    exact zk_retz (pc := 10) (b := false) (ww := [xTa a0 a1 b_this.1 b_this.2.2.1 b_this.2.2.2.1 b_this.2.2.2.2.1 b_this.2.2.2.2.2, xI cy a1 250 b_this.2.1, xTe p1_0 b_p1]) C hw hr hQ dX4_readMeasure_10
def zf_X4_readNerve  (b_this : TTa) (b_p1 : TSt) : Option (Bool × TTa × TSt) := (Option.bind (zf_X4_readNumber (((0 : Int32))) (((b_p1.1 - (1 : Int32)))) b_this) (fun u1 => (if u1.1 then (Option.bind (zf_X4_readNumber (((0 : Int32))) (((40 : Int32))) u1.2) (fun u3 => (if u3.1 then (Option.bind (zf_X2_putNerve u1.2.2.2.2.2.2 u3.2.2.2.2.2.2 b_p1) (fun u5 => some (true, u3.2, u5))) else some (false, u3.2, b_p1)))) else some (false, u1.2, b_p1))))
abbrev zr_X4_readNerve : Room := { frames := 3, cells := 0, slots := 0, locals := 64 }
set_option maxHeartbeats 4000000 in
set_option maxRecDepth 100000 in
theorem c_X4_readNerve (l : Launch) (G : va_G) (cy : Nat → ClassId) (tt : Nat → Nat) (a0 a1 : Nat) (p1_0 p1_1 p1_2 p1_3 p1_4 : Nat)  (b_this : TTa) (b_p1 : TSt) (res : Bool × TTa × TSt) (hf : zf_X4_readNerve b_this b_p1 = some res) : zCT l yX4_readNerve cX4_readNerve 3 (some .boolean) zr_X4_readNerve G cy tt [.ref a0, .ref p1_0] [xTa a0 a1 b_this.1 b_this.2.2.1 b_this.2.2.2.1 b_this.2.2.2.2.1 b_this.2.2.2.2.2, xI cy a1 250 b_this.2.1, xSt p1_0 p1_1 p1_2 p1_3 p1_4 b_p1.1, xI cy p1_1 8 b_p1.2.1, xI cy p1_2 8 b_p1.2.2.1, xI cy p1_3 8 b_p1.2.2.2.1, xI cy p1_4 8 b_p1.2.2.2.2] (some (.int (bI res.1))) [xTa a0 a1 res.2.1.1 res.2.1.2.2.1 res.2.1.2.2.2.1 res.2.1.2.2.2.2.1 res.2.1.2.2.2.2.2, xI cy a1 250 res.2.1.2.1, xSt p1_0 p1_1 p1_2 p1_3 p1_4 res.2.2.1, xI cy p1_1 8 res.2.2.2.1, xI cy p1_2 8 res.2.2.2.2.1, xI cy p1_3 8 res.2.2.2.2.2.1, xI cy p1_4 8 res.2.2.2.2.2.2] := by
  refine zk_start zn_X4 (Nat.le_of_ble_eq_true rfl) ?_
  intro p e s m args below meth c A ls Q C hr hQ hw hl
  have C : zCx p m c s args meth cX4_readNerve 3 RX4 G cy tt A := C
  have hx := C.1.1
  have hb := C.1.2.1
  have hl : lv_has ls 3 [(0, .ref a0), (1, .ref p1_0)] := hl
  rw [zf_X4_readNerve] at hf
  refine lv_aload_n (pc := 0) hx hb dX4_readNerve_0 rfl (lv_at hl 0 rfl) ?_
  refine lv_iconst (pc := 1) (v := 0) hx hb dX4_readNerve_1 (by decide) ?_
  refine lv_aload_n (pc := 2) hx hb dX4_readNerve_2 rfl (lv_at hl 1 rfl) ?_
  refine zk_gt (pc := 3) C hw zl_X4_75 2 rfl rfl dX4_readNerve_3 ?_
  refine lv_iconst (pc := 6) (v := 1) hx hb dX4_readNerve_6 (by decide) ?_
  refine lv_isub (pc := 7) hx hb dX4_readNerve_7 ?_
  obtain ⟨u1, u1e, hf⟩ := bd hf
  refine zk_cV (pc := 8) (ci := 4) (q0 := 0) (rest := []) (st1 := [.int (bI u1.1)]) (w' := [xTa a0 a1 u1.2.1 u1.2.2.2.1 u1.2.2.2.2.1 u1.2.2.2.2.2.1 u1.2.2.2.2.2.2, xI cy a1 250 u1.2.2.1, xSt p1_0 p1_1 p1_2 p1_3 p1_4 b_p1.1, xI cy p1_1 8 b_p1.2.1, xI cy p1_2 8 b_p1.2.2.1, xI cy p1_3 8 b_p1.2.2.2.1, xI cy p1_4 8 b_p1.2.2.2.2]) (mk := [some (xTa a0 a1 u1.2.1 u1.2.2.2.1 u1.2.2.2.2.1 u1.2.2.2.2.2.1 u1.2.2.2.2.2.2), some (xI cy a1 250 u1.2.2.1), none, none, none, none, none]) C hw (c_X4_readNumber l G cy tt a0 a1 (((0 : Int32))) (((b_p1.1 - (1 : Int32)))) b_this _ u1e) zy_X4_readNumber zm_X4_67 rfl rfl rfl [0, 1] rfl rfl rfl rfl rfl rfl rfl rfl hl.1 ⟨rfl, rfl⟩ ⟨Nat.le_of_ble_eq_true rfl, Nat.le_of_ble_eq_true rfl⟩ rfl (Nat.le_of_ble_eq_true rfl) ⟨Nat.zero_le _, Nat.zero_le _⟩ dX4_readNerve_8 (fun H locs hw => ?_)
  refine zk_ifnz (pc := 11) (tgt := 16) hx hb dX4_readNerve_11 (by decide) (fun q2 => ?_) (fun q2 => ?_)
  · replace hf := if_t q2 hf
    refine lv_aload_n (pc := 16) hx hb dX4_readNerve_16 rfl (lv_at hl 0 rfl) ?_
    refine zk_gt (pc := 17) C hw zl_X4_28 0 rfl rfl dX4_readNerve_17 ?_
    refine lv_istore_n (pc := 20) (lv' := [(2, .int u1.2.2.2.2.2.2), (0, .ref a0), (1, .ref p1_0)]) hx hb dX4_readNerve_20 rfl hl (by decide) rfl (fun ls hl => ?_)
    refine lv_aload_n (pc := 21) hx hb dX4_readNerve_21 rfl (lv_at hl 1 rfl) ?_
    refine lv_iconst (pc := 22) (v := 0) hx hb dX4_readNerve_22 (by decide) ?_
    refine lv_bipush (pc := 23) (v := 40) hx hb dX4_readNerve_23 (by decide) ?_
    obtain ⟨u3, u3e, hf⟩ := bd hf
    refine zk_cV (pc := 25) (ci := 4) (q0 := 0) (rest := []) (st1 := [.int (bI u3.1)]) (w' := [xTa a0 a1 u3.2.1 u3.2.2.2.1 u3.2.2.2.2.1 u3.2.2.2.2.2.1 u3.2.2.2.2.2.2, xI cy a1 250 u3.2.2.1, xSt p1_0 p1_1 p1_2 p1_3 p1_4 b_p1.1, xI cy p1_1 8 b_p1.2.1, xI cy p1_2 8 b_p1.2.2.1, xI cy p1_3 8 b_p1.2.2.2.1, xI cy p1_4 8 b_p1.2.2.2.2]) (mk := [some (xTa a0 a1 u3.2.1 u3.2.2.2.1 u3.2.2.2.2.1 u3.2.2.2.2.2.1 u3.2.2.2.2.2.2), some (xI cy a1 250 u3.2.2.1), none, none, none, none, none]) C hw (c_X4_readNumber l G cy tt a0 a1 (((0 : Int32))) (((40 : Int32))) u1.2 _ u3e) zy_X4_readNumber zm_X4_67 rfl rfl rfl [0, 1] rfl rfl rfl rfl rfl rfl rfl rfl hl.1 ⟨rfl, rfl⟩ ⟨Nat.le_of_ble_eq_true rfl, Nat.le_of_ble_eq_true rfl⟩ rfl (Nat.le_of_ble_eq_true rfl) ⟨Nat.zero_le _, Nat.zero_le _⟩ dX4_readNerve_25 (fun H locs hw => ?_)
    refine zk_ifnz (pc := 28) (tgt := 33) hx hb dX4_readNerve_28 (by decide) (fun q4 => ?_) (fun q4 => ?_)
    · replace hf := if_t q4 hf
      refine lv_aload_n (pc := 33) hx hb dX4_readNerve_33 rfl (lv_at hl 2 rfl) ?_
      refine lv_iload_n (pc := 34) hx hb dX4_readNerve_34 rfl (lv_at hl 0 rfl) ?_
      refine lv_aload_n (pc := 35) hx hb dX4_readNerve_35 rfl (lv_at hl 1 rfl) ?_
      refine zk_gt (pc := 36) C hw zl_X4_28 0 rfl rfl dX4_readNerve_36 ?_
      obtain ⟨u5, u5e, hf⟩ := bd hf
      refine zk_cV (pc := 39) (ci := 2) (q0 := 2) (rest := []) (st1 := []) (w' := [xTa a0 a1 u3.2.1 u3.2.2.2.1 u3.2.2.2.2.1 u3.2.2.2.2.2.1 u3.2.2.2.2.2.2, xI cy a1 250 u3.2.2.1, xSt p1_0 p1_1 p1_2 p1_3 p1_4 u5.1, xI cy p1_1 8 u5.2.1, xI cy p1_2 8 u5.2.2.1, xI cy p1_3 8 u5.2.2.2.1, xI cy p1_4 8 u5.2.2.2.2]) (mk := [none, none, some (xSt p1_0 p1_1 p1_2 p1_3 p1_4 u5.1), some (xI cy p1_1 8 u5.2.1), some (xI cy p1_2 8 u5.2.2.1), some (xI cy p1_3 8 u5.2.2.2.1), some (xI cy p1_4 8 u5.2.2.2.2)]) C hw (c_X2_putNerve l G cy tt p1_0 p1_1 p1_2 p1_3 p1_4 u1.2.2.2.2.2.2 u3.2.2.2.2.2.2 b_p1 _ u5e) zy_X2_putNerve zm_X4_78 rfl rfl rfl [2, 3, 4, 5, 6] rfl rfl rfl rfl rfl rfl rfl rfl hl.1 ⟨rfl, rfl⟩ ⟨Nat.le_of_ble_eq_true rfl, Nat.le_of_ble_eq_true rfl⟩ rfl (Nat.le_of_ble_eq_true rfl) ⟨Nat.zero_le _, Nat.zero_le _⟩ dX4_readNerve_39 (fun H locs hw => ?_)
      refine lv_iconst (pc := 42) (v := 1) hx hb dX4_readNerve_42 (by decide) ?_
      have hf := Option.some.inj hf
      subst hf
      exact zk_retz (pc := 43) (b := true) (ww := [xTa a0 a1 u3.2.1 u3.2.2.2.1 u3.2.2.2.2.1 u3.2.2.2.2.2.1 u3.2.2.2.2.2.2, xI cy a1 250 u3.2.2.1, xSt p1_0 p1_1 p1_2 p1_3 p1_4 u5.1, xI cy p1_1 8 u5.2.1, xI cy p1_2 8 u5.2.2.1, xI cy p1_3 8 u5.2.2.2.1, xI cy p1_4 8 u5.2.2.2.2]) C hw hr hQ dX4_readNerve_43
    · replace hf := if_f q4 hf
      refine lv_iconst (pc := 31) (v := 0) hx hb dX4_readNerve_31 (by decide) ?_
      have hf := Option.some.inj hf
      subst hf
      exact zk_retz (pc := 32) (b := false) (ww := [xTa a0 a1 u3.2.1 u3.2.2.2.1 u3.2.2.2.2.1 u3.2.2.2.2.2.1 u3.2.2.2.2.2.2, xI cy a1 250 u3.2.2.1, xSt p1_0 p1_1 p1_2 p1_3 p1_4 b_p1.1, xI cy p1_1 8 b_p1.2.1, xI cy p1_2 8 b_p1.2.2.1, xI cy p1_3 8 b_p1.2.2.2.1, xI cy p1_4 8 b_p1.2.2.2.2]) C hw hr hQ dX4_readNerve_32
  · replace hf := if_f q2 hf
    refine lv_iconst (pc := 14) (v := 0) hx hb dX4_readNerve_14 (by decide) ?_
    have hf := Option.some.inj hf
    subst hf
    exact zk_retz (pc := 15) (b := false) (ww := [xTa a0 a1 u1.2.1 u1.2.2.2.1 u1.2.2.2.2.1 u1.2.2.2.2.2.1 u1.2.2.2.2.2.2, xI cy a1 250 u1.2.2.1, xSt p1_0 p1_1 p1_2 p1_3 p1_4 b_p1.1, xI cy p1_1 8 b_p1.2.1, xI cy p1_2 8 b_p1.2.2.1, xI cy p1_3 8 b_p1.2.2.2.1, xI cy p1_4 8 b_p1.2.2.2.2]) C hw hr hQ dX4_readNerve_15
def zf_X4_readKeeper  (b_this : TTa) (b_p1 : TSt) : Option (Bool × TTa × TSt) := (Option.bind (zf_X2_isFull b_p1) (fun u1 => (if u1 then some (false, b_this, b_p1) else (Option.bind (zf_X4_readNumber (((0 : Int32))) (((5 : Int32))) b_this) (fun u3 => (if u3.1 then (Option.bind (zf_X4_readNumber (((0 : Int32))) (((9 : Int32))) u3.2) (fun u5 => (if u5.1 then (Option.bind (zf_X4_readNumber (((0 : Int32))) (((40 : Int32))) u5.2) (fun u7 => (if u7.1 then (Option.bind (zf_X2_add u3.2.2.2.2.2.2 u5.2.2.2.2.2.2 u7.2.2.2.2.2.2 b_p1) (fun u9 => some (true, u7.2, u9.2))) else some (false, u7.2, b_p1)))) else some (false, u5.2, b_p1)))) else some (false, u3.2, b_p1)))))))
abbrev zr_X4_readKeeper : Room := { frames := 3, cells := 0, slots := 0, locals := 64 }
set_option maxHeartbeats 4000000 in
set_option maxRecDepth 100000 in
theorem c_X4_readKeeper (l : Launch) (G : va_G) (cy : Nat → ClassId) (tt : Nat → Nat) (a0 a1 : Nat) (p1_0 p1_1 p1_2 p1_3 p1_4 : Nat)  (b_this : TTa) (b_p1 : TSt) (res : Bool × TTa × TSt) (hf : zf_X4_readKeeper b_this b_p1 = some res) : zCT l yX4_readKeeper cX4_readKeeper 4 (some .boolean) zr_X4_readKeeper G cy tt [.ref a0, .ref p1_0] [xTa a0 a1 b_this.1 b_this.2.2.1 b_this.2.2.2.1 b_this.2.2.2.2.1 b_this.2.2.2.2.2, xI cy a1 250 b_this.2.1, xSt p1_0 p1_1 p1_2 p1_3 p1_4 b_p1.1, xI cy p1_1 8 b_p1.2.1, xI cy p1_2 8 b_p1.2.2.1, xI cy p1_3 8 b_p1.2.2.2.1, xI cy p1_4 8 b_p1.2.2.2.2] (some (.int (bI res.1))) [xTa a0 a1 res.2.1.1 res.2.1.2.2.1 res.2.1.2.2.2.1 res.2.1.2.2.2.2.1 res.2.1.2.2.2.2.2, xI cy a1 250 res.2.1.2.1, xSt p1_0 p1_1 p1_2 p1_3 p1_4 res.2.2.1, xI cy p1_1 8 res.2.2.2.1, xI cy p1_2 8 res.2.2.2.2.1, xI cy p1_3 8 res.2.2.2.2.2.1, xI cy p1_4 8 res.2.2.2.2.2.2] := by
  refine zk_start zn_X4 (Nat.le_of_ble_eq_true rfl) ?_
  intro p e s m args below meth c A ls Q C hr hQ hw hl
  have C : zCx p m c s args meth cX4_readKeeper 4 RX4 G cy tt A := C
  have hx := C.1.1
  have hb := C.1.2.1
  have hl : lv_has ls 4 [(0, .ref a0), (1, .ref p1_0)] := hl
  rw [zf_X4_readKeeper] at hf
  refine lv_aload_n (pc := 0) hx hb dX4_readKeeper_0 rfl (lv_at hl 1 rfl) ?_
  obtain ⟨u1, u1e, hf⟩ := bd hf
  refine zk_cV (pc := 1) (ci := 2) (q0 := 2) (rest := []) (st1 := [.int (bI u1)]) (w' := [xTa a0 a1 b_this.1 b_this.2.2.1 b_this.2.2.2.1 b_this.2.2.2.2.1 b_this.2.2.2.2.2, xI cy a1 250 b_this.2.1, xSt p1_0 p1_1 p1_2 p1_3 p1_4 b_p1.1, xI cy p1_1 8 b_p1.2.1, xI cy p1_2 8 b_p1.2.2.1, xI cy p1_3 8 b_p1.2.2.2.1, xI cy p1_4 8 b_p1.2.2.2.2]) (mk := [none, none, none, none, none, none, none]) C hw (c_X2_isFull l G cy tt p1_0 p1_1 p1_2 p1_3 p1_4 b_p1 _ u1e) zy_X2_isFull zm_X4_61 rfl rfl rfl [2, 3, 4, 5, 6] rfl rfl rfl rfl rfl rfl rfl rfl hl.1 ⟨rfl, rfl⟩ ⟨Nat.le_of_ble_eq_true rfl, Nat.le_of_ble_eq_true rfl⟩ rfl (Nat.le_of_ble_eq_true rfl) ⟨Nat.zero_le _, Nat.zero_le _⟩ dX4_readKeeper_1 (fun H locs hw => ?_)
  refine zk_ifnz (pc := 4) (tgt := 16) hx hb dX4_readKeeper_4 (by decide) (fun q2 => ?_) (fun q2 => ?_)
  · replace hf := if_t q2 hf
    refine lv_iconst (pc := 16) (v := 0) hx hb dX4_readKeeper_16 (by decide) ?_
    have hf := Option.some.inj hf
    subst hf
    exact zk_retz (pc := 17) (b := false) (ww := [xTa a0 a1 b_this.1 b_this.2.2.1 b_this.2.2.2.1 b_this.2.2.2.2.1 b_this.2.2.2.2.2, xI cy a1 250 b_this.2.1, xSt p1_0 p1_1 p1_2 p1_3 p1_4 b_p1.1, xI cy p1_1 8 b_p1.2.1, xI cy p1_2 8 b_p1.2.2.1, xI cy p1_3 8 b_p1.2.2.2.1, xI cy p1_4 8 b_p1.2.2.2.2]) C hw hr hQ dX4_readKeeper_17
  · replace hf := if_f q2 hf
    refine lv_aload_n (pc := 7) hx hb dX4_readKeeper_7 rfl (lv_at hl 0 rfl) ?_
    refine lv_iconst (pc := 8) (v := 0) hx hb dX4_readKeeper_8 (by decide) ?_
    refine lv_iconst (pc := 9) (v := 5) hx hb dX4_readKeeper_9 (by decide) ?_
    obtain ⟨u3, u3e, hf⟩ := bd hf
    refine zk_cV (pc := 10) (ci := 4) (q0 := 0) (rest := []) (st1 := [.int (bI u3.1)]) (w' := [xTa a0 a1 u3.2.1 u3.2.2.2.1 u3.2.2.2.2.1 u3.2.2.2.2.2.1 u3.2.2.2.2.2.2, xI cy a1 250 u3.2.2.1, xSt p1_0 p1_1 p1_2 p1_3 p1_4 b_p1.1, xI cy p1_1 8 b_p1.2.1, xI cy p1_2 8 b_p1.2.2.1, xI cy p1_3 8 b_p1.2.2.2.1, xI cy p1_4 8 b_p1.2.2.2.2]) (mk := [some (xTa a0 a1 u3.2.1 u3.2.2.2.1 u3.2.2.2.2.1 u3.2.2.2.2.2.1 u3.2.2.2.2.2.2), some (xI cy a1 250 u3.2.2.1), none, none, none, none, none]) C hw (c_X4_readNumber l G cy tt a0 a1 (((0 : Int32))) (((5 : Int32))) b_this _ u3e) zy_X4_readNumber zm_X4_67 rfl rfl rfl [0, 1] rfl rfl rfl rfl rfl rfl rfl rfl hl.1 ⟨rfl, rfl⟩ ⟨Nat.le_of_ble_eq_true rfl, Nat.le_of_ble_eq_true rfl⟩ rfl (Nat.le_of_ble_eq_true rfl) ⟨Nat.zero_le _, Nat.zero_le _⟩ dX4_readKeeper_10 (fun H locs hw => ?_)
    refine zk_ifnz (pc := 13) (tgt := 18) hx hb dX4_readKeeper_13 (by decide) (fun q4 => ?_) (fun q4 => ?_)
    · replace hf := if_t q4 hf
      refine lv_aload_n (pc := 18) hx hb dX4_readKeeper_18 rfl (lv_at hl 0 rfl) ?_
      refine zk_gt (pc := 19) C hw zl_X4_28 0 rfl rfl dX4_readKeeper_19 ?_
      refine lv_istore_n (pc := 22) (lv' := [(2, .int u3.2.2.2.2.2.2), (0, .ref a0), (1, .ref p1_0)]) hx hb dX4_readKeeper_22 rfl hl (by decide) rfl (fun ls hl => ?_)
      refine lv_aload_n (pc := 23) hx hb dX4_readKeeper_23 rfl (lv_at hl 1 rfl) ?_
      refine lv_iconst (pc := 24) (v := 0) hx hb dX4_readKeeper_24 (by decide) ?_
      refine lv_bipush (pc := 25) (v := 9) hx hb dX4_readKeeper_25 (by decide) ?_
      obtain ⟨u5, u5e, hf⟩ := bd hf
      refine zk_cV (pc := 27) (ci := 4) (q0 := 0) (rest := []) (st1 := [.int (bI u5.1)]) (w' := [xTa a0 a1 u5.2.1 u5.2.2.2.1 u5.2.2.2.2.1 u5.2.2.2.2.2.1 u5.2.2.2.2.2.2, xI cy a1 250 u5.2.2.1, xSt p1_0 p1_1 p1_2 p1_3 p1_4 b_p1.1, xI cy p1_1 8 b_p1.2.1, xI cy p1_2 8 b_p1.2.2.1, xI cy p1_3 8 b_p1.2.2.2.1, xI cy p1_4 8 b_p1.2.2.2.2]) (mk := [some (xTa a0 a1 u5.2.1 u5.2.2.2.1 u5.2.2.2.2.1 u5.2.2.2.2.2.1 u5.2.2.2.2.2.2), some (xI cy a1 250 u5.2.2.1), none, none, none, none, none]) C hw (c_X4_readNumber l G cy tt a0 a1 (((0 : Int32))) (((9 : Int32))) u3.2 _ u5e) zy_X4_readNumber zm_X4_67 rfl rfl rfl [0, 1] rfl rfl rfl rfl rfl rfl rfl rfl hl.1 ⟨rfl, rfl⟩ ⟨Nat.le_of_ble_eq_true rfl, Nat.le_of_ble_eq_true rfl⟩ rfl (Nat.le_of_ble_eq_true rfl) ⟨Nat.zero_le _, Nat.zero_le _⟩ dX4_readKeeper_27 (fun H locs hw => ?_)
      refine zk_ifnz (pc := 30) (tgt := 35) hx hb dX4_readKeeper_30 (by decide) (fun q6 => ?_) (fun q6 => ?_)
      · replace hf := if_t q6 hf
        refine lv_aload_n (pc := 35) hx hb dX4_readKeeper_35 rfl (lv_at hl 1 rfl) ?_
        refine zk_gt (pc := 36) C hw zl_X4_28 0 rfl rfl dX4_readKeeper_36 ?_
        refine lv_istore_n (pc := 39) (lv' := [(3, .int u5.2.2.2.2.2.2), (2, .int u3.2.2.2.2.2.2), (0, .ref a0), (1, .ref p1_0)]) hx hb dX4_readKeeper_39 rfl hl (by decide) rfl (fun ls hl => ?_)
        refine lv_aload_n (pc := 40) hx hb dX4_readKeeper_40 rfl (lv_at hl 2 rfl) ?_
        refine lv_iconst (pc := 41) (v := 0) hx hb dX4_readKeeper_41 (by decide) ?_
        refine lv_bipush (pc := 42) (v := 40) hx hb dX4_readKeeper_42 (by decide) ?_
        obtain ⟨u7, u7e, hf⟩ := bd hf
        refine zk_cV (pc := 44) (ci := 4) (q0 := 0) (rest := []) (st1 := [.int (bI u7.1)]) (w' := [xTa a0 a1 u7.2.1 u7.2.2.2.1 u7.2.2.2.2.1 u7.2.2.2.2.2.1 u7.2.2.2.2.2.2, xI cy a1 250 u7.2.2.1, xSt p1_0 p1_1 p1_2 p1_3 p1_4 b_p1.1, xI cy p1_1 8 b_p1.2.1, xI cy p1_2 8 b_p1.2.2.1, xI cy p1_3 8 b_p1.2.2.2.1, xI cy p1_4 8 b_p1.2.2.2.2]) (mk := [some (xTa a0 a1 u7.2.1 u7.2.2.2.1 u7.2.2.2.2.1 u7.2.2.2.2.2.1 u7.2.2.2.2.2.2), some (xI cy a1 250 u7.2.2.1), none, none, none, none, none]) C hw (c_X4_readNumber l G cy tt a0 a1 (((0 : Int32))) (((40 : Int32))) u5.2 _ u7e) zy_X4_readNumber zm_X4_67 rfl rfl rfl [0, 1] rfl rfl rfl rfl rfl rfl rfl rfl hl.1 ⟨rfl, rfl⟩ ⟨Nat.le_of_ble_eq_true rfl, Nat.le_of_ble_eq_true rfl⟩ rfl (Nat.le_of_ble_eq_true rfl) ⟨Nat.zero_le _, Nat.zero_le _⟩ dX4_readKeeper_44 (fun H locs hw => ?_)
        refine zk_ifnz (pc := 47) (tgt := 52) hx hb dX4_readKeeper_47 (by decide) (fun q8 => ?_) (fun q8 => ?_)
        · replace hf := if_t q8 hf
          refine lv_aload_n (pc := 52) hx hb dX4_readKeeper_52 rfl (lv_at hl 3 rfl) ?_
          refine lv_iload_n (pc := 53) hx hb dX4_readKeeper_53 rfl (lv_at hl 1 rfl) ?_
          refine lv_iload_n (pc := 54) hx hb dX4_readKeeper_54 rfl (lv_at hl 0 rfl) ?_
          refine lv_aload_n (pc := 55) hx hb dX4_readKeeper_55 rfl (lv_at hl 2 rfl) ?_
          refine zk_gt (pc := 56) C hw zl_X4_28 0 rfl rfl dX4_readKeeper_56 ?_
          obtain ⟨u9, u9e, hf⟩ := bd hf
          refine zk_cV (pc := 59) (ci := 2) (q0 := 2) (rest := []) (st1 := [.int u9.1]) (w' := [xTa a0 a1 u7.2.1 u7.2.2.2.1 u7.2.2.2.2.1 u7.2.2.2.2.2.1 u7.2.2.2.2.2.2, xI cy a1 250 u7.2.2.1, xSt p1_0 p1_1 p1_2 p1_3 p1_4 u9.2.1, xI cy p1_1 8 u9.2.2.1, xI cy p1_2 8 u9.2.2.2.1, xI cy p1_3 8 u9.2.2.2.2.1, xI cy p1_4 8 u9.2.2.2.2.2]) (mk := [none, none, some (xSt p1_0 p1_1 p1_2 p1_3 p1_4 u9.2.1), some (xI cy p1_1 8 u9.2.2.1), some (xI cy p1_2 8 u9.2.2.2.1), some (xI cy p1_3 8 u9.2.2.2.2.1), some (xI cy p1_4 8 u9.2.2.2.2.2)]) C hw (c_X2_add l G cy tt p1_0 p1_1 p1_2 p1_3 p1_4 u3.2.2.2.2.2.2 u5.2.2.2.2.2.2 u7.2.2.2.2.2.2 b_p1 _ u9e) zy_X2_add zm_X4_71 rfl rfl rfl [2, 3, 4, 5, 6] rfl rfl rfl rfl rfl rfl rfl rfl hl.1 ⟨rfl, rfl⟩ ⟨Nat.le_of_ble_eq_true rfl, Nat.le_of_ble_eq_true rfl⟩ rfl (Nat.le_of_ble_eq_true rfl) ⟨Nat.zero_le _, Nat.zero_le _⟩ dX4_readKeeper_59 (fun H locs hw => ?_)
          refine lv_pop (pc := 62) hx hb dX4_readKeeper_62 rfl ?_
          refine lv_iconst (pc := 63) (v := 1) hx hb dX4_readKeeper_63 (by decide) ?_
          have hf := Option.some.inj hf
          subst hf
          exact zk_retz (pc := 64) (b := true) (ww := [xTa a0 a1 u7.2.1 u7.2.2.2.1 u7.2.2.2.2.1 u7.2.2.2.2.2.1 u7.2.2.2.2.2.2, xI cy a1 250 u7.2.2.1, xSt p1_0 p1_1 p1_2 p1_3 p1_4 u9.2.1, xI cy p1_1 8 u9.2.2.1, xI cy p1_2 8 u9.2.2.2.1, xI cy p1_3 8 u9.2.2.2.2.1, xI cy p1_4 8 u9.2.2.2.2.2]) C hw hr hQ dX4_readKeeper_64
        · replace hf := if_f q8 hf
          refine lv_iconst (pc := 50) (v := 0) hx hb dX4_readKeeper_50 (by decide) ?_
          have hf := Option.some.inj hf
          subst hf
          exact zk_retz (pc := 51) (b := false) (ww := [xTa a0 a1 u7.2.1 u7.2.2.2.1 u7.2.2.2.2.1 u7.2.2.2.2.2.1 u7.2.2.2.2.2.2, xI cy a1 250 u7.2.2.1, xSt p1_0 p1_1 p1_2 p1_3 p1_4 b_p1.1, xI cy p1_1 8 b_p1.2.1, xI cy p1_2 8 b_p1.2.2.1, xI cy p1_3 8 b_p1.2.2.2.1, xI cy p1_4 8 b_p1.2.2.2.2]) C hw hr hQ dX4_readKeeper_51
      · replace hf := if_f q6 hf
        refine lv_iconst (pc := 33) (v := 0) hx hb dX4_readKeeper_33 (by decide) ?_
        have hf := Option.some.inj hf
        subst hf
        exact zk_retz (pc := 34) (b := false) (ww := [xTa a0 a1 u5.2.1 u5.2.2.2.1 u5.2.2.2.2.1 u5.2.2.2.2.2.1 u5.2.2.2.2.2.2, xI cy a1 250 u5.2.2.1, xSt p1_0 p1_1 p1_2 p1_3 p1_4 b_p1.1, xI cy p1_1 8 b_p1.2.1, xI cy p1_2 8 b_p1.2.2.1, xI cy p1_3 8 b_p1.2.2.2.1, xI cy p1_4 8 b_p1.2.2.2.2]) C hw hr hQ dX4_readKeeper_34
    · replace hf := if_f q4 hf
      refine lv_iconst (pc := 16) (v := 0) hx hb dX4_readKeeper_16 (by decide) ?_
      have hf := Option.some.inj hf
      subst hf
      exact zk_retz (pc := 17) (b := false) (ww := [xTa a0 a1 u3.2.1 u3.2.2.2.1 u3.2.2.2.2.1 u3.2.2.2.2.2.1 u3.2.2.2.2.2.2, xI cy a1 250 u3.2.2.1, xSt p1_0 p1_1 p1_2 p1_3 p1_4 b_p1.1, xI cy p1_1 8 b_p1.2.1, xI cy p1_2 8 b_p1.2.2.1, xI cy p1_3 8 b_p1.2.2.2.1, xI cy p1_4 8 b_p1.2.2.2.2]) C hw hr hQ dX4_readKeeper_17
def zf_X4_readStatement  (b_this : TTa) (b_p1 : TTe) (b_p2 : TSt) : Option (Bool × TTa × TTe × TSt) := (if b_this.2.2.1 = (1 : Int32) then (Option.bind (zf_X4_spells_l0 b_this) (fun u2 => (if u2 then (Option.bind (zf_X4_readKeeper b_this b_p2) (fun u9 => some (u9.1, u9.2.1, b_p1, u9.2.2))) else (Option.bind (zf_X4_spells_l1 b_this) (fun u4 => (if u4 then (Option.bind (zf_X4_readNerve b_this b_p2) (fun u8 => some (u8.1, u8.2.1, b_p1, u8.2.2))) else (Option.bind (zf_X4_spelledMeasure b_this) (fun u6 => (Option.bind (zf_X4_readMeasure u6 b_this b_p1) (fun u7 => some (u7.1, u7.2.1, u7.2.2, b_p2))))))))))) else some (false, b_this, b_p1, b_p2))
abbrev zr_X4_readStatement : Room := { frames := 10, cells := 0, slots := 0, locals := 342 }
set_option maxHeartbeats 4000000 in
set_option maxRecDepth 100000 in
theorem c_X4_readStatement (l : Launch) (G : va_G) (cy : Nat → ClassId) (tt : Nat → Nat) (a0 a1 : Nat) (p1_0 : Nat) (p2_0 p2_1 p2_2 p2_3 p2_4 : Nat)  (b_this : TTa) (b_p1 : TTe) (b_p2 : TSt) (res : Bool × TTa × TTe × TSt) (hf : zf_X4_readStatement b_this b_p1 b_p2 = some res) : zCT l yX4_readStatement cX4_readStatement 3 (some .boolean) zr_X4_readStatement G cy tt [.ref a0, .ref p1_0, .ref p2_0] [xTa a0 a1 b_this.1 b_this.2.2.1 b_this.2.2.2.1 b_this.2.2.2.2.1 b_this.2.2.2.2.2, xI cy a1 250 b_this.2.1, xTe p1_0 b_p1, xSt p2_0 p2_1 p2_2 p2_3 p2_4 b_p2.1, xI cy p2_1 8 b_p2.2.1, xI cy p2_2 8 b_p2.2.2.1, xI cy p2_3 8 b_p2.2.2.2.1, xI cy p2_4 8 b_p2.2.2.2.2] (some (.int (bI res.1))) [xTa a0 a1 res.2.1.1 res.2.1.2.2.1 res.2.1.2.2.2.1 res.2.1.2.2.2.2.1 res.2.1.2.2.2.2.2, xI cy a1 250 res.2.1.2.1, xTe p1_0 res.2.2.1, xSt p2_0 p2_1 p2_2 p2_3 p2_4 res.2.2.2.1, xI cy p2_1 8 res.2.2.2.2.1, xI cy p2_2 8 res.2.2.2.2.2.1, xI cy p2_3 8 res.2.2.2.2.2.2.1, xI cy p2_4 8 res.2.2.2.2.2.2.2] := by
  refine zk_start zn_X4 (Nat.le_of_ble_eq_true rfl) ?_
  intro p e s m args below meth c A ls Q C hr hQ hw hl
  have C : zCx p m c s args meth cX4_readStatement 3 RX4 G cy tt A := C
  have hx := C.1.1
  have hb := C.1.2.1
  have hl : lv_has ls 3 [(0, .ref a0), (1, .ref p1_0), (2, .ref p2_0)] := hl
  rw [zf_X4_readStatement] at hf
  refine lv_aload_n (pc := 0) hx hb dX4_readStatement_0 rfl (lv_at hl 0 rfl) ?_
  refine zk_gt (pc := 1) C hw zl_X4_19 0 rfl rfl dX4_readStatement_1 ?_
  refine lv_iconst (pc := 4) (v := 1) hx hb dX4_readStatement_4 (by decide) ?_
  refine lv_icmp_eq (pc := 5) (tgt := 10) hx hb dX4_readStatement_5 (by decide) (fun q1 => ?_) (fun q1 => ?_)
  · replace hf := if_t q1 hf
    refine lv_aload_n (pc := 10) hx hb dX4_readStatement_10 rfl (lv_at hl 0 rfl) ?_
    refine va_ldcS (pc := 11) hx hb C.1.2.2.2.1 (C.2.2.2.2.1.2.2.2.2.1 0 (by decide)) dX4_readStatement_11 ?_
    obtain ⟨u2, u2e, hf⟩ := bd hf
    refine zk_cV (pc := 13) (ci := 4) (q0 := 0) (rest := []) (st1 := [.int (bI u2)]) (w' := [xTa a0 a1 b_this.1 b_this.2.2.1 b_this.2.2.2.1 b_this.2.2.2.2.1 b_this.2.2.2.2.2, xI cy a1 250 b_this.2.1, xTe p1_0 b_p1, xSt p2_0 p2_1 p2_2 p2_3 p2_4 b_p2.1, xI cy p2_1 8 b_p2.2.1, xI cy p2_2 8 b_p2.2.2.1, xI cy p2_3 8 b_p2.2.2.2.1, xI cy p2_4 8 b_p2.2.2.2.2]) (mk := [none, none, none, none, none, none, none, none]) C hw (c_X4_spells_l0 l G cy tt a0 a1 b_this _ u2e) zy_X4_spells zm_X4_40 rfl rfl rfl [0, 1] rfl rfl rfl rfl rfl rfl rfl rfl hl.1 ⟨rfl, rfl⟩ ⟨Nat.le_of_ble_eq_true rfl, Nat.le_of_ble_eq_true rfl⟩ rfl (Nat.le_of_ble_eq_true rfl) ⟨Nat.zero_le _, Nat.zero_le _⟩ dX4_readStatement_13 (fun H locs hw => ?_)
    refine zk_ifz (pc := 16) (tgt := 25) hx hb dX4_readStatement_16 (by decide) (fun q3 => ?_) (fun q3 => ?_)
    · replace hf := if_f q3 hf
      refine lv_aload_n (pc := 25) hx hb dX4_readStatement_25 rfl (lv_at hl 0 rfl) ?_
      refine va_ldcS (pc := 26) hx hb C.1.2.2.2.1 (C.2.2.2.2.1.2.2.2.2.1 1 (by decide)) dX4_readStatement_26 ?_
      obtain ⟨u4, u4e, hf⟩ := bd hf
      refine zk_cV (pc := 28) (ci := 4) (q0 := 0) (rest := []) (st1 := [.int (bI u4)]) (w' := [xTa a0 a1 b_this.1 b_this.2.2.1 b_this.2.2.2.1 b_this.2.2.2.2.1 b_this.2.2.2.2.2, xI cy a1 250 b_this.2.1, xTe p1_0 b_p1, xSt p2_0 p2_1 p2_2 p2_3 p2_4 b_p2.1, xI cy p2_1 8 b_p2.2.1, xI cy p2_2 8 b_p2.2.2.1, xI cy p2_3 8 b_p2.2.2.2.1, xI cy p2_4 8 b_p2.2.2.2.2]) (mk := [none, none, none, none, none, none, none, none]) C hw (c_X4_spells_l1 l G cy tt a0 a1 b_this _ u4e) zy_X4_spells zm_X4_40 rfl rfl rfl [0, 1] rfl rfl rfl rfl rfl rfl rfl rfl hl.1 ⟨rfl, rfl⟩ ⟨Nat.le_of_ble_eq_true rfl, Nat.le_of_ble_eq_true rfl⟩ rfl (Nat.le_of_ble_eq_true rfl) ⟨Nat.zero_le _, Nat.zero_le _⟩ dX4_readStatement_28 (fun H locs hw => ?_)
      refine zk_ifz (pc := 31) (tgt := 40) hx hb dX4_readStatement_31 (by decide) (fun q5 => ?_) (fun q5 => ?_)
      · replace hf := if_f q5 hf
        refine lv_aload_n (pc := 40) hx hb dX4_readStatement_40 rfl (lv_at hl 0 rfl) ?_
        refine lv_aload_n (pc := 41) hx hb dX4_readStatement_41 rfl (lv_at hl 1 rfl) ?_
        refine lv_aload_n (pc := 42) hx hb dX4_readStatement_42 rfl (lv_at hl 0 rfl) ?_
        obtain ⟨u6, u6e, hf⟩ := bd hf
        refine zk_cV (pc := 43) (ci := 4) (q0 := 0) (rest := [.ref p1_0, .ref a0]) (st1 := [.int u6, .ref p1_0, .ref a0]) (w' := [xTa a0 a1 b_this.1 b_this.2.2.1 b_this.2.2.2.1 b_this.2.2.2.2.1 b_this.2.2.2.2.2, xI cy a1 250 b_this.2.1, xTe p1_0 b_p1, xSt p2_0 p2_1 p2_2 p2_3 p2_4 b_p2.1, xI cy p2_1 8 b_p2.2.1, xI cy p2_2 8 b_p2.2.2.1, xI cy p2_3 8 b_p2.2.2.2.1, xI cy p2_4 8 b_p2.2.2.2.2]) (mk := [none, none, none, none, none, none, none, none]) C hw (c_X4_spelledMeasure l G cy tt a0 a1 b_this _ u6e) zy_X4_spelledMeasure zm_X4_53 rfl rfl rfl [0, 1] rfl rfl rfl rfl rfl rfl rfl rfl hl.1 ⟨rfl, rfl⟩ ⟨Nat.le_of_ble_eq_true rfl, Nat.le_of_ble_eq_true rfl⟩ rfl (Nat.le_of_ble_eq_true rfl) ⟨Nat.zero_le _, Nat.zero_le _⟩ dX4_readStatement_43 (fun H locs hw => ?_)
        obtain ⟨u7, u7e, hf⟩ := bd hf
        refine zk_cV (pc := 46) (ci := 4) (q0 := 0) (rest := []) (st1 := [.int (bI u7.1)]) (w' := [xTa a0 a1 u7.2.1.1 u7.2.1.2.2.1 u7.2.1.2.2.2.1 u7.2.1.2.2.2.2.1 u7.2.1.2.2.2.2.2, xI cy a1 250 u7.2.1.2.1, xTe p1_0 u7.2.2, xSt p2_0 p2_1 p2_2 p2_3 p2_4 b_p2.1, xI cy p2_1 8 b_p2.2.1, xI cy p2_2 8 b_p2.2.2.1, xI cy p2_3 8 b_p2.2.2.2.1, xI cy p2_4 8 b_p2.2.2.2.2]) (mk := [some (xTa a0 a1 u7.2.1.1 u7.2.1.2.2.1 u7.2.1.2.2.2.1 u7.2.1.2.2.2.2.1 u7.2.1.2.2.2.2.2), some (xI cy a1 250 u7.2.1.2.1), some (xTe p1_0 u7.2.2), none, none, none, none, none]) C hw (c_X4_readMeasure l G cy tt a0 a1 p1_0 u6 b_this b_p1 _ u7e) zy_X4_readMeasure zm_X4_57 rfl rfl rfl [0, 1, 2] rfl rfl rfl rfl rfl rfl rfl rfl hl.1 ⟨rfl, rfl⟩ ⟨Nat.le_of_ble_eq_true rfl, Nat.le_of_ble_eq_true rfl⟩ rfl (Nat.le_of_ble_eq_true rfl) ⟨Nat.zero_le _, Nat.zero_le _⟩ dX4_readStatement_46 (fun H locs hw => ?_)
        have hf := Option.some.inj hf
        subst hf
        exact zk_retz (pc := 49) (b := u7.1) (ww := [xTa a0 a1 u7.2.1.1 u7.2.1.2.2.1 u7.2.1.2.2.2.1 u7.2.1.2.2.2.2.1 u7.2.1.2.2.2.2.2, xI cy a1 250 u7.2.1.2.1, xTe p1_0 u7.2.2, xSt p2_0 p2_1 p2_2 p2_3 p2_4 b_p2.1, xI cy p2_1 8 b_p2.2.1, xI cy p2_2 8 b_p2.2.2.1, xI cy p2_3 8 b_p2.2.2.2.1, xI cy p2_4 8 b_p2.2.2.2.2]) C hw hr hQ dX4_readStatement_49
      · replace hf := if_t q5 hf
        refine lv_aload_n (pc := 34) hx hb dX4_readStatement_34 rfl (lv_at hl 0 rfl) ?_
        refine lv_aload_n (pc := 35) hx hb dX4_readStatement_35 rfl (lv_at hl 2 rfl) ?_
        obtain ⟨u8, u8e, hf⟩ := bd hf
        refine zk_cV (pc := 36) (ci := 4) (q0 := 0) (rest := []) (st1 := [.int (bI u8.1)]) (w' := [xTa a0 a1 u8.2.1.1 u8.2.1.2.2.1 u8.2.1.2.2.2.1 u8.2.1.2.2.2.2.1 u8.2.1.2.2.2.2.2, xI cy a1 250 u8.2.1.2.1, xTe p1_0 b_p1, xSt p2_0 p2_1 p2_2 p2_3 p2_4 u8.2.2.1, xI cy p2_1 8 u8.2.2.2.1, xI cy p2_2 8 u8.2.2.2.2.1, xI cy p2_3 8 u8.2.2.2.2.2.1, xI cy p2_4 8 u8.2.2.2.2.2.2]) (mk := [some (xTa a0 a1 u8.2.1.1 u8.2.1.2.2.1 u8.2.1.2.2.2.1 u8.2.1.2.2.2.2.1 u8.2.1.2.2.2.2.2), some (xI cy a1 250 u8.2.1.2.1), none, some (xSt p2_0 p2_1 p2_2 p2_3 p2_4 u8.2.2.1), some (xI cy p2_1 8 u8.2.2.2.1), some (xI cy p2_2 8 u8.2.2.2.2.1), some (xI cy p2_3 8 u8.2.2.2.2.2.1), some (xI cy p2_4 8 u8.2.2.2.2.2.2)]) C hw (c_X4_readNerve l G cy tt a0 a1 p2_0 p2_1 p2_2 p2_3 p2_4 b_this b_p2 _ u8e) zy_X4_readNerve zm_X4_50 rfl rfl rfl [0, 1, 3, 4, 5, 6, 7] rfl rfl rfl rfl rfl rfl rfl rfl hl.1 ⟨rfl, rfl⟩ ⟨Nat.le_of_ble_eq_true rfl, Nat.le_of_ble_eq_true rfl⟩ rfl (Nat.le_of_ble_eq_true rfl) ⟨Nat.zero_le _, Nat.zero_le _⟩ dX4_readStatement_36 (fun H locs hw => ?_)
        have hf := Option.some.inj hf
        subst hf
        exact zk_retz (pc := 39) (b := u8.1) (ww := [xTa a0 a1 u8.2.1.1 u8.2.1.2.2.1 u8.2.1.2.2.2.1 u8.2.1.2.2.2.2.1 u8.2.1.2.2.2.2.2, xI cy a1 250 u8.2.1.2.1, xTe p1_0 b_p1, xSt p2_0 p2_1 p2_2 p2_3 p2_4 u8.2.2.1, xI cy p2_1 8 u8.2.2.2.1, xI cy p2_2 8 u8.2.2.2.2.1, xI cy p2_3 8 u8.2.2.2.2.2.1, xI cy p2_4 8 u8.2.2.2.2.2.2]) C hw hr hQ dX4_readStatement_39
    · replace hf := if_t q3 hf
      refine lv_aload_n (pc := 19) hx hb dX4_readStatement_19 rfl (lv_at hl 0 rfl) ?_
      refine lv_aload_n (pc := 20) hx hb dX4_readStatement_20 rfl (lv_at hl 2 rfl) ?_
      obtain ⟨u9, u9e, hf⟩ := bd hf
      refine zk_cV (pc := 21) (ci := 4) (q0 := 0) (rest := []) (st1 := [.int (bI u9.1)]) (w' := [xTa a0 a1 u9.2.1.1 u9.2.1.2.2.1 u9.2.1.2.2.2.1 u9.2.1.2.2.2.2.1 u9.2.1.2.2.2.2.2, xI cy a1 250 u9.2.1.2.1, xTe p1_0 b_p1, xSt p2_0 p2_1 p2_2 p2_3 p2_4 u9.2.2.1, xI cy p2_1 8 u9.2.2.2.1, xI cy p2_2 8 u9.2.2.2.2.1, xI cy p2_3 8 u9.2.2.2.2.2.1, xI cy p2_4 8 u9.2.2.2.2.2.2]) (mk := [some (xTa a0 a1 u9.2.1.1 u9.2.1.2.2.1 u9.2.1.2.2.2.1 u9.2.1.2.2.2.2.1 u9.2.1.2.2.2.2.2), some (xI cy a1 250 u9.2.1.2.1), none, some (xSt p2_0 p2_1 p2_2 p2_3 p2_4 u9.2.2.1), some (xI cy p2_1 8 u9.2.2.2.1), some (xI cy p2_2 8 u9.2.2.2.2.1), some (xI cy p2_3 8 u9.2.2.2.2.2.1), some (xI cy p2_4 8 u9.2.2.2.2.2.2)]) C hw (c_X4_readKeeper l G cy tt a0 a1 p2_0 p2_1 p2_2 p2_3 p2_4 b_this b_p2 _ u9e) zy_X4_readKeeper zm_X4_44 rfl rfl rfl [0, 1, 3, 4, 5, 6, 7] rfl rfl rfl rfl rfl rfl rfl rfl hl.1 ⟨rfl, rfl⟩ ⟨Nat.le_of_ble_eq_true rfl, Nat.le_of_ble_eq_true rfl⟩ rfl (Nat.le_of_ble_eq_true rfl) ⟨Nat.zero_le _, Nat.zero_le _⟩ dX4_readStatement_21 (fun H locs hw => ?_)
      have hf := Option.some.inj hf
      subst hf
      exact zk_retz (pc := 24) (b := u9.1) (ww := [xTa a0 a1 u9.2.1.1 u9.2.1.2.2.1 u9.2.1.2.2.2.1 u9.2.1.2.2.2.2.1 u9.2.1.2.2.2.2.2, xI cy a1 250 u9.2.1.2.1, xTe p1_0 b_p1, xSt p2_0 p2_1 p2_2 p2_3 p2_4 u9.2.2.1, xI cy p2_1 8 u9.2.2.2.1, xI cy p2_2 8 u9.2.2.2.2.1, xI cy p2_3 8 u9.2.2.2.2.2.1, xI cy p2_4 8 u9.2.2.2.2.2.2]) C hw hr hQ dX4_readStatement_24
  · replace hf := if_f q1 hf
    refine lv_iconst (pc := 8) (v := 0) hx hb dX4_readStatement_8 (by decide) ?_
    have hf := Option.some.inj hf
    subst hf
    exact zk_retz (pc := 9) (b := false) (ww := [xTa a0 a1 b_this.1 b_this.2.2.1 b_this.2.2.2.1 b_this.2.2.2.2.1 b_this.2.2.2.2.2, xI cy a1 250 b_this.2.1, xTe p1_0 b_p1, xSt p2_0 p2_1 p2_2 p2_3 p2_4 b_p2.1, xI cy p2_1 8 b_p2.2.1, xI cy p2_2 8 b_p2.2.2.1, xI cy p2_3 8 b_p2.2.2.2.1, xI cy p2_4 8 b_p2.2.2.2.2]) C hw hr hQ dX4_readStatement_9
def zf_X4_read_7 : Nat → Int32 → TTa → TTe → TSt → Option (Int32 × TTa × TTe × TSt)
  | 0, _, _, _, _ => none
  | n + 1, v3, b_this, b_p1, b_p2 => (if (250 : Int32) < v3 then some (((-20 : Int32) - b_this.2.2.2.1), b_this, b_p1, b_p2) else (Option.bind (zf_X4_takeToken b_this) (fun u2 => (Option.bind (zf_X4_readStatement u2 b_p1 b_p2) (fun u3 => (if u3.1 then (Option.bind (zf_X4_takeToken u3.2.1) (fun u5 => (if u5.2.2.1 = 0 then some (v3, u5, u3.2.2.1, u3.2.2.2) else (if u5.2.2.1 = (3 : Int32) then zf_X4_read_7 n ((v3 + 1)) u5 u3.2.2.1 u3.2.2.2 else some (((-20 : Int32) - u5.2.2.2.1), u5, u3.2.2.1, u3.2.2.2))))) else some (((-20 : Int32) - u3.2.1.2.2.2.1), u3.2.1, u3.2.2.1, u3.2.2.2)))))))
def zf_X4_read  (b_this : TTa) (b_p1 : TTe) (b_p2 : TSt) : Option (Int32 × TTa × TTe × TSt) := zf_X4_read_7 FU ((1 : Int32)) ((b_this.1, b_this.2.1, b_this.2.2.1, b_this.2.2.2.1, (0 : Int32), b_this.2.2.2.2.2)) b_p1 b_p2
abbrev zr_X4_read : Room := { frames := 11, cells := 0, slots := 0, locals := 364 }
set_option maxHeartbeats 4000000 in
set_option maxRecDepth 100000 in
theorem c_X4_read (l : Launch) (G : va_G) (cy : Nat → ClassId) (tt : Nat → Nat) (a0 a1 : Nat) (p1_0 : Nat) (p2_0 p2_1 p2_2 p2_3 p2_4 : Nat)  (b_this : TTa) (b_p1 : TTe) (b_p2 : TSt) (res : Int32 × TTa × TTe × TSt) (hf : zf_X4_read b_this b_p1 b_p2 = some res) : zCT l yX4_read cX4_read 4 (some .int) zr_X4_read G cy tt [.ref a0, .ref p1_0, .ref p2_0] [xTa a0 a1 b_this.1 b_this.2.2.1 b_this.2.2.2.1 b_this.2.2.2.2.1 b_this.2.2.2.2.2, xI cy a1 250 b_this.2.1, xTe p1_0 b_p1, xSt p2_0 p2_1 p2_2 p2_3 p2_4 b_p2.1, xI cy p2_1 8 b_p2.2.1, xI cy p2_2 8 b_p2.2.2.1, xI cy p2_3 8 b_p2.2.2.2.1, xI cy p2_4 8 b_p2.2.2.2.2] (some (.int res.1)) [xTa a0 a1 res.2.1.1 res.2.1.2.2.1 res.2.1.2.2.2.1 res.2.1.2.2.2.2.1 res.2.1.2.2.2.2.2, xI cy a1 250 res.2.1.2.1, xTe p1_0 res.2.2.1, xSt p2_0 p2_1 p2_2 p2_3 p2_4 res.2.2.2.1, xI cy p2_1 8 res.2.2.2.2.1, xI cy p2_2 8 res.2.2.2.2.2.1, xI cy p2_3 8 res.2.2.2.2.2.2.1, xI cy p2_4 8 res.2.2.2.2.2.2.2] := by
  refine zk_start zn_X4 (Nat.le_of_ble_eq_true rfl) ?_
  intro p e s m args below meth c A ls Q C hr hQ hw hl
  have C : zCx p m c s args meth cX4_read 4 RX4 G cy tt A := C
  have hx := C.1.1
  have hb := C.1.2.1
  have hl : lv_has ls 4 [(0, .ref a0), (1, .ref p1_0), (2, .ref p2_0)] := hl
  have J7 : ∀ (n : Nat), ∀ (v3 : Int32) (b_this : TTa) (b_p1 : TTe) (b_p2 : TSt) (H : Heap) (locs : List Loc) (ls : Array Slot), zf_X4_read_7 n v3 b_this b_p1 b_p2 = some res → zWd G A s.heap H locs [xTa a0 a1 b_this.1 b_this.2.2.1 b_this.2.2.2.1 b_this.2.2.2.2.1 b_this.2.2.2.2.2, xI cy a1 250 b_this.2.1, xTe p1_0 b_p1, xSt p2_0 p2_1 p2_2 p2_3 p2_4 b_p2.1, xI cy p2_1 8 b_p2.2.1, xI cy p2_2 8 b_p2.2.2.1, xI cy p2_3 8 b_p2.2.2.2.1, xI cy p2_4 8 b_p2.2.2.2.2] → lv_has ls 4 [(0, .ref a0), (1, .ref p1_0), (2, .ref p2_0), (3, .int v3)] → W p l e zr_X4_read s m args below meth c H locs 0 0 Q (F0 m 7 ls []) := by
    intro n
    induction n with
    | zero =>
      intro v3 b_this b_p1 b_p2 H locs ls hf hw hl
      rw [zf_X4_read_7] at hf
      cases hf
    | succ n ih =>
      intro v3 b_this b_p1 b_p2 H locs ls hf hw hl
      rw [zf_X4_read_7] at hf
      refine lv_iload_n (pc := 7) hx hb dX4_read_7 rfl (lv_at hl 3 rfl) ?_
      refine lv_sipush (pc := 8) (v := 250) hx hb dX4_read_8 (by decide) ?_
      refine lv_icmp_gt (pc := 11) (tgt := 70) hx hb dX4_read_11 (by decide) (fun q1 => ?_) (fun q1 => ?_)
      · replace hf := if_t q1 hf
        refine lv_bipush (pc := 70) (v := -20) hx hb dX4_read_70 (by decide) ?_
        refine lv_aload_n (pc := 72) hx hb dX4_read_72 rfl (lv_at hl 0 rfl) ?_
        refine zk_gt (pc := 73) C hw zl_X4_22 0 rfl rfl dX4_read_73 ?_
        refine lv_isub (pc := 76) hx hb dX4_read_76 ?_
        have hf := Option.some.inj hf
        subst hf
        exact zk_reti (pc := 77) (ww := [xTa a0 a1 b_this.1 b_this.2.2.1 b_this.2.2.2.1 b_this.2.2.2.2.1 b_this.2.2.2.2.2, xI cy a1 250 b_this.2.1, xTe p1_0 b_p1, xSt p2_0 p2_1 p2_2 p2_3 p2_4 b_p2.1, xI cy p2_1 8 b_p2.2.1, xI cy p2_2 8 b_p2.2.2.1, xI cy p2_3 8 b_p2.2.2.2.1, xI cy p2_4 8 b_p2.2.2.2.2]) C hw hr hQ dX4_read_77
      · replace hf := if_f q1 hf
        refine lv_aload_n (pc := 14) hx hb dX4_read_14 rfl (lv_at hl 0 rfl) ?_
        obtain ⟨u2, u2e, hf⟩ := bd hf
        refine zk_cV (pc := 15) (ci := 4) (q0 := 0) (rest := []) (st1 := []) (w' := [xTa a0 a1 u2.1 u2.2.2.1 u2.2.2.2.1 u2.2.2.2.2.1 u2.2.2.2.2.2, xI cy a1 250 u2.2.1, xTe p1_0 b_p1, xSt p2_0 p2_1 p2_2 p2_3 p2_4 b_p2.1, xI cy p2_1 8 b_p2.2.1, xI cy p2_2 8 b_p2.2.2.1, xI cy p2_3 8 b_p2.2.2.2.1, xI cy p2_4 8 b_p2.2.2.2.2]) (mk := [some (xTa a0 a1 u2.1 u2.2.2.1 u2.2.2.2.1 u2.2.2.2.2.1 u2.2.2.2.2.2), some (xI cy a1 250 u2.2.1), none, none, none, none, none, none]) C hw (c_X4_takeToken l G cy tt a0 a1 b_this _ u2e) zy_X4_takeToken zm_X4_31 rfl rfl rfl [0, 1] rfl rfl rfl rfl rfl rfl rfl rfl hl.1 ⟨rfl, rfl⟩ ⟨Nat.le_of_ble_eq_true rfl, Nat.le_of_ble_eq_true rfl⟩ rfl (Nat.le_of_ble_eq_true rfl) ⟨Nat.zero_le _, Nat.zero_le _⟩ dX4_read_15 (fun H locs hw => ?_)
        refine lv_aload_n (pc := 18) hx hb dX4_read_18 rfl (lv_at hl 0 rfl) ?_
        refine lv_aload_n (pc := 19) hx hb dX4_read_19 rfl (lv_at hl 1 rfl) ?_
        refine lv_aload_n (pc := 20) hx hb dX4_read_20 rfl (lv_at hl 2 rfl) ?_
        obtain ⟨u3, u3e, hf⟩ := bd hf
        refine zk_cV (pc := 21) (ci := 4) (q0 := 0) (rest := []) (st1 := [.int (bI u3.1)]) (w' := [xTa a0 a1 u3.2.1.1 u3.2.1.2.2.1 u3.2.1.2.2.2.1 u3.2.1.2.2.2.2.1 u3.2.1.2.2.2.2.2, xI cy a1 250 u3.2.1.2.1, xTe p1_0 u3.2.2.1, xSt p2_0 p2_1 p2_2 p2_3 p2_4 u3.2.2.2.1, xI cy p2_1 8 u3.2.2.2.2.1, xI cy p2_2 8 u3.2.2.2.2.2.1, xI cy p2_3 8 u3.2.2.2.2.2.2.1, xI cy p2_4 8 u3.2.2.2.2.2.2.2]) (mk := [some (xTa a0 a1 u3.2.1.1 u3.2.1.2.2.1 u3.2.1.2.2.2.1 u3.2.1.2.2.2.2.1 u3.2.1.2.2.2.2.2), some (xI cy a1 250 u3.2.1.2.1), some (xTe p1_0 u3.2.2.1), some (xSt p2_0 p2_1 p2_2 p2_3 p2_4 u3.2.2.2.1), some (xI cy p2_1 8 u3.2.2.2.2.1), some (xI cy p2_2 8 u3.2.2.2.2.2.1), some (xI cy p2_3 8 u3.2.2.2.2.2.2.1), some (xI cy p2_4 8 u3.2.2.2.2.2.2.2)]) C hw (c_X4_readStatement l G cy tt a0 a1 p1_0 p2_0 p2_1 p2_2 p2_3 p2_4 u2 b_p1 b_p2 _ u3e) zy_X4_readStatement zm_X4_34 rfl rfl rfl [0, 1, 2, 3, 4, 5, 6, 7] rfl rfl rfl rfl rfl rfl rfl rfl hl.1 ⟨rfl, rfl⟩ ⟨Nat.le_of_ble_eq_true rfl, Nat.le_of_ble_eq_true rfl⟩ rfl (Nat.le_of_ble_eq_true rfl) ⟨Nat.zero_le _, Nat.zero_le _⟩ dX4_read_21 (fun H locs hw => ?_)
        refine zk_ifnz (pc := 24) (tgt := 35) hx hb dX4_read_24 (by decide) (fun q4 => ?_) (fun q4 => ?_)
        · replace hf := if_t q4 hf
          refine lv_aload_n (pc := 35) hx hb dX4_read_35 rfl (lv_at hl 0 rfl) ?_
          obtain ⟨u5, u5e, hf⟩ := bd hf
          refine zk_cV (pc := 36) (ci := 4) (q0 := 0) (rest := []) (st1 := []) (w' := [xTa a0 a1 u5.1 u5.2.2.1 u5.2.2.2.1 u5.2.2.2.2.1 u5.2.2.2.2.2, xI cy a1 250 u5.2.1, xTe p1_0 u3.2.2.1, xSt p2_0 p2_1 p2_2 p2_3 p2_4 u3.2.2.2.1, xI cy p2_1 8 u3.2.2.2.2.1, xI cy p2_2 8 u3.2.2.2.2.2.1, xI cy p2_3 8 u3.2.2.2.2.2.2.1, xI cy p2_4 8 u3.2.2.2.2.2.2.2]) (mk := [some (xTa a0 a1 u5.1 u5.2.2.1 u5.2.2.2.1 u5.2.2.2.2.1 u5.2.2.2.2.2), some (xI cy a1 250 u5.2.1), none, none, none, none, none, none]) C hw (c_X4_takeToken l G cy tt a0 a1 u3.2.1 _ u5e) zy_X4_takeToken zm_X4_31 rfl rfl rfl [0, 1] rfl rfl rfl rfl rfl rfl rfl rfl hl.1 ⟨rfl, rfl⟩ ⟨Nat.le_of_ble_eq_true rfl, Nat.le_of_ble_eq_true rfl⟩ rfl (Nat.le_of_ble_eq_true rfl) ⟨Nat.zero_le _, Nat.zero_le _⟩ dX4_read_36 (fun H locs hw => ?_)
          refine lv_aload_n (pc := 39) hx hb dX4_read_39 rfl (lv_at hl 0 rfl) ?_
          refine zk_gt (pc := 40) C hw zl_X4_19 0 rfl rfl dX4_read_40 ?_
          refine lv_if_ne (pc := 43) (tgt := 48) hx hb dX4_read_43 (by decide) (fun q6 => ?_) (fun q6 => ?_)
          · replace hf := if_f q6 hf
            refine lv_aload_n (pc := 48) hx hb dX4_read_48 rfl (lv_at hl 0 rfl) ?_
            refine zk_gt (pc := 49) C hw zl_X4_19 0 rfl rfl dX4_read_49 ?_
            refine lv_iconst (pc := 52) (v := 3) hx hb dX4_read_52 (by decide) ?_
            refine lv_icmp_eq (pc := 53) (tgt := 64) hx hb dX4_read_53 (by decide) (fun q7 => ?_) (fun q7 => ?_)
            · replace hf := if_t q7 hf
              refine lv_iinc (pc := 64) (v := (v3 + 1)) (lv' := [(3, .int ((v3 + 1))), (0, .ref a0), (1, .ref p1_0), (2, .ref p2_0)]) hx hb dX4_read_64 hl (k := 3) rfl rfl (by decide) rfl (fun ls hl => ?_)
              refine lv_goto (pc := 67) (tgt := 7) hx hb dX4_read_67 (by decide) ?_
              exact ih ((v3 + 1)) u5 u3.2.2.1 u3.2.2.2 _ _ _ hf hw (lv_sub hl [1, 2, 3, 0] rfl)
            · replace hf := if_f q7 hf
              refine lv_bipush (pc := 56) (v := -20) hx hb dX4_read_56 (by decide) ?_
              refine lv_aload_n (pc := 58) hx hb dX4_read_58 rfl (lv_at hl 0 rfl) ?_
              refine zk_gt (pc := 59) C hw zl_X4_22 0 rfl rfl dX4_read_59 ?_
              refine lv_isub (pc := 62) hx hb dX4_read_62 ?_
              have hf := Option.some.inj hf
              subst hf
              exact zk_reti (pc := 63) (ww := [xTa a0 a1 u5.1 u5.2.2.1 u5.2.2.2.1 u5.2.2.2.2.1 u5.2.2.2.2.2, xI cy a1 250 u5.2.1, xTe p1_0 u3.2.2.1, xSt p2_0 p2_1 p2_2 p2_3 p2_4 u3.2.2.2.1, xI cy p2_1 8 u3.2.2.2.2.1, xI cy p2_2 8 u3.2.2.2.2.2.1, xI cy p2_3 8 u3.2.2.2.2.2.2.1, xI cy p2_4 8 u3.2.2.2.2.2.2.2]) C hw hr hQ dX4_read_63
          · replace hf := if_t q6 hf
            refine lv_iload_n (pc := 46) hx hb dX4_read_46 rfl (lv_at hl 3 rfl) ?_
            have hf := Option.some.inj hf
            subst hf
            exact zk_reti (pc := 47) (ww := [xTa a0 a1 u5.1 u5.2.2.1 u5.2.2.2.1 u5.2.2.2.2.1 u5.2.2.2.2.2, xI cy a1 250 u5.2.1, xTe p1_0 u3.2.2.1, xSt p2_0 p2_1 p2_2 p2_3 p2_4 u3.2.2.2.1, xI cy p2_1 8 u3.2.2.2.2.1, xI cy p2_2 8 u3.2.2.2.2.2.1, xI cy p2_3 8 u3.2.2.2.2.2.2.1, xI cy p2_4 8 u3.2.2.2.2.2.2.2]) C hw hr hQ dX4_read_47
        · replace hf := if_f q4 hf
          refine lv_bipush (pc := 27) (v := -20) hx hb dX4_read_27 (by decide) ?_
          refine lv_aload_n (pc := 29) hx hb dX4_read_29 rfl (lv_at hl 0 rfl) ?_
          refine zk_gt (pc := 30) C hw zl_X4_22 0 rfl rfl dX4_read_30 ?_
          refine lv_isub (pc := 33) hx hb dX4_read_33 ?_
          have hf := Option.some.inj hf
          subst hf
          exact zk_reti (pc := 34) (ww := [xTa a0 a1 u3.2.1.1 u3.2.1.2.2.1 u3.2.1.2.2.2.1 u3.2.1.2.2.2.2.1 u3.2.1.2.2.2.2.2, xI cy a1 250 u3.2.1.2.1, xTe p1_0 u3.2.2.1, xSt p2_0 p2_1 p2_2 p2_3 p2_4 u3.2.2.2.1, xI cy p2_1 8 u3.2.2.2.2.1, xI cy p2_2 8 u3.2.2.2.2.2.1, xI cy p2_3 8 u3.2.2.2.2.2.2.1, xI cy p2_4 8 u3.2.2.2.2.2.2.2]) C hw hr hQ dX4_read_34
  rw [zf_X4_read] at hf
  refine lv_aload_n (pc := 0) hx hb dX4_read_0 rfl (lv_at hl 0 rfl) ?_
  refine lv_iconst (pc := 1) (v := 0) hx hb dX4_read_1 (by decide) ?_
  refine zk_put (pc := 2) (w' := [xTa a0 a1 b_this.1 b_this.2.2.1 b_this.2.2.2.1 ((0 : Int32)) b_this.2.2.2.2.2, xI cy a1 250 b_this.2.1, xTe p1_0 b_p1, xSt p2_0 p2_1 p2_2 p2_3 p2_4 b_p2.1, xI cy p2_1 8 b_p2.2.1, xI cy p2_2 8 b_p2.2.2.1, xI cy p2_3 8 b_p2.2.2.2.1, xI cy p2_4 8 b_p2.2.2.2.2]) C hw zp_X4_25 0 rfl rfl rfl (Nat.le_of_ble_eq_true rfl) rfl dX4_read_2 (fun H locs hw => ?_)
  refine lv_iconst (pc := 5) (v := 1) hx hb dX4_read_5 (by decide) ?_
  refine lv_istore_n (pc := 6) (lv' := [(3, .int ((1 : Int32))), (0, .ref a0), (1, .ref p1_0), (2, .ref p2_0)]) hx hb dX4_read_6 rfl hl (by decide) rfl (fun ls hl => ?_)
  exact J7 FU ((1 : Int32)) ((b_this.1, b_this.2.1, b_this.2.2.1, b_this.2.2.2.1, (0 : Int32), b_this.2.2.2.2.2)) b_p1 b_p2 _ _ _ hf hw (lv_sub hl [1, 2, 3, 0] rfl)
def zf_X7_house  (b_now : TTe) (b_trial : TTe) (b_staff : TSt) (b_trialStaff : TSt) (b_tape : TTa) (b_refusals : Nat → Int32) : Option (Int32 × TTe × TTe × TSt × TSt × TTa × (Nat → Int32)) := (Option.bind (zf_X5_become b_trial b_now) (fun u1 => (Option.bind (zf_X2_become b_trialStaff b_staff) (fun u2 => (Option.bind (zf_X4_read b_tape u1 u2) (fun u3 => (Option.bind (zf_X4_clear u3.2.1) (fun u4 => (if 0 ≤ u3.1 then (Option.bind (zf_X5_become b_now u3.2.2.1) (fun u6 => (Option.bind (zf_X2_become b_staff u3.2.2.2) (fun u7 => some (u3.1, u6, u3.2.2.1, u7, u3.2.2.2, u4.2, b_refusals))))) else (Option.bind (zf_X7_refused (((-2 : Int32))) b_refusals) (fun u8 => some (u3.1, b_now, u3.2.2.1, b_staff, u3.2.2.2, u4.2, u8.2))))))))))))
abbrev zr_X7_house : Room := { frames := 12, cells := 0, slots := 0, locals := 387 }
set_option maxHeartbeats 4000000 in
set_option maxRecDepth 100000 in
theorem c_X7_house (l : Launch) (G : va_G) (cy : Nat → ClassId) (tt : Nat → Nat) (L : Nat → Nat) (b_seedNow : Int32) (b_keptSeed : Int32) (b_isKept : Bool)  (b_now : TTe) (b_trial : TTe) (b_staff : TSt) (b_trialStaff : TSt) (b_tape : TTa) (b_refusals : Nat → Int32) (res : Int32 × TTe × TTe × TSt × TSt × TTa × (Nat → Int32)) (hf : zf_X7_house b_now b_trial b_staff b_trialStaff b_tape b_refusals = some res) : zCT l yX7_house cX7_house 2 (some .int) zr_X7_house G cy tt [.ref ((L 0))] [xU L b_seedNow b_keptSeed b_isKept, xTe ((L 1)) b_now, xTe ((L 2)) b_trial, xSt ((L 5)) ((L 6)) ((L 7)) ((L 8)) ((L 9)) b_staff.1, xI cy ((L 6)) 8 b_staff.2.1, xI cy ((L 7)) 8 b_staff.2.2.1, xI cy ((L 8)) 8 b_staff.2.2.2.1, xI cy ((L 9)) 8 b_staff.2.2.2.2, xSt ((L 10)) ((L 11)) ((L 12)) ((L 13)) ((L 14)) b_trialStaff.1, xI cy ((L 11)) 8 b_trialStaff.2.1, xI cy ((L 12)) 8 b_trialStaff.2.2.1, xI cy ((L 13)) 8 b_trialStaff.2.2.2.1, xI cy ((L 14)) 8 b_trialStaff.2.2.2.2, xTa ((L 32)) ((L 33)) b_tape.1 b_tape.2.2.1 b_tape.2.2.2.1 b_tape.2.2.2.2.1 b_tape.2.2.2.2.2, xI cy ((L 33)) 250 b_tape.2.1, xI cy ((L 48)) 5 b_refusals] (some (.int res.1)) [xU L b_seedNow b_keptSeed b_isKept, xTe ((L 1)) res.2.1, xTe ((L 2)) res.2.2.1, xSt ((L 5)) ((L 6)) ((L 7)) ((L 8)) ((L 9)) res.2.2.2.1.1, xI cy ((L 6)) 8 res.2.2.2.1.2.1, xI cy ((L 7)) 8 res.2.2.2.1.2.2.1, xI cy ((L 8)) 8 res.2.2.2.1.2.2.2.1, xI cy ((L 9)) 8 res.2.2.2.1.2.2.2.2, xSt ((L 10)) ((L 11)) ((L 12)) ((L 13)) ((L 14)) res.2.2.2.2.1.1, xI cy ((L 11)) 8 res.2.2.2.2.1.2.1, xI cy ((L 12)) 8 res.2.2.2.2.1.2.2.1, xI cy ((L 13)) 8 res.2.2.2.2.1.2.2.2.1, xI cy ((L 14)) 8 res.2.2.2.2.1.2.2.2.2, xTa ((L 32)) ((L 33)) res.2.2.2.2.2.1.1 res.2.2.2.2.2.1.2.2.1 res.2.2.2.2.2.1.2.2.2.1 res.2.2.2.2.2.1.2.2.2.2.1 res.2.2.2.2.2.1.2.2.2.2.2, xI cy ((L 33)) 250 res.2.2.2.2.2.1.2.1, xI cy ((L 48)) 5 res.2.2.2.2.2.2] := by
  refine zk_start zn_X7 (Nat.le_of_ble_eq_true rfl) ?_
  intro p e s m args below meth c A ls Q C hr hQ hw hl
  have C : zCx p m c s args meth cX7_house 2 RX7 G cy tt A := C
  have hx := C.1.1
  have hb := C.1.2.1
  have hl : lv_has ls 2 [(0, .ref ((L 0)))] := hl
  rw [zf_X7_house] at hf
  refine lv_aload_n (pc := 0) hx hb dX7_house_0 rfl (lv_at hl 0 rfl) ?_
  refine zk_gt (pc := 1) C hw zl_X7_16 0 rfl rfl dX7_house_1 ?_
  refine lv_aload_n (pc := 4) hx hb dX7_house_4 rfl (lv_at hl 0 rfl) ?_
  refine zk_gt (pc := 5) C hw zl_X7_10 0 rfl rfl dX7_house_5 ?_
  obtain ⟨u1, u1e, hf⟩ := bd hf
  refine zk_cV (pc := 8) (ci := 5) (q0 := 2) (rest := []) (st1 := []) (w' := [xU L b_seedNow b_keptSeed b_isKept, xTe ((L 1)) b_now, xTe ((L 2)) u1, xSt ((L 5)) ((L 6)) ((L 7)) ((L 8)) ((L 9)) b_staff.1, xI cy ((L 6)) 8 b_staff.2.1, xI cy ((L 7)) 8 b_staff.2.2.1, xI cy ((L 8)) 8 b_staff.2.2.2.1, xI cy ((L 9)) 8 b_staff.2.2.2.2, xSt ((L 10)) ((L 11)) ((L 12)) ((L 13)) ((L 14)) b_trialStaff.1, xI cy ((L 11)) 8 b_trialStaff.2.1, xI cy ((L 12)) 8 b_trialStaff.2.2.1, xI cy ((L 13)) 8 b_trialStaff.2.2.2.1, xI cy ((L 14)) 8 b_trialStaff.2.2.2.2, xTa ((L 32)) ((L 33)) b_tape.1 b_tape.2.2.1 b_tape.2.2.2.1 b_tape.2.2.2.2.1 b_tape.2.2.2.2.2, xI cy ((L 33)) 250 b_tape.2.1, xI cy ((L 48)) 5 b_refusals]) (mk := [none, none, some (xTe ((L 2)) u1), none, none, none, none, none, none, none, none, none, none, none, none, none]) C hw (c_X5_become l G cy tt ((L 2)) ((L 1)) b_trial b_now _ u1e) zy_X5_become zm_X7_193 rfl rfl rfl [2, 1] rfl rfl rfl rfl rfl rfl rfl rfl hl.1 ⟨rfl, rfl⟩ ⟨Nat.le_of_ble_eq_true rfl, Nat.le_of_ble_eq_true rfl⟩ rfl (Nat.le_of_ble_eq_true rfl) ⟨Nat.zero_le _, Nat.zero_le _⟩ dX7_house_8 (fun H locs hw => ?_)
  refine lv_aload_n (pc := 11) hx hb dX7_house_11 rfl (lv_at hl 0 rfl) ?_
  refine zk_gt (pc := 12) C hw zl_X7_32 0 rfl rfl dX7_house_12 ?_
  refine lv_aload_n (pc := 15) hx hb dX7_house_15 rfl (lv_at hl 0 rfl) ?_
  refine zk_gt (pc := 16) C hw zl_X7_28 0 rfl rfl dX7_house_16 ?_
  obtain ⟨u2, u2e, hf⟩ := bd hf
  refine zk_cV (pc := 19) (ci := 2) (q0 := 8) (rest := []) (st1 := []) (w' := [xU L b_seedNow b_keptSeed b_isKept, xTe ((L 1)) b_now, xTe ((L 2)) u1, xSt ((L 5)) ((L 6)) ((L 7)) ((L 8)) ((L 9)) b_staff.1, xI cy ((L 6)) 8 b_staff.2.1, xI cy ((L 7)) 8 b_staff.2.2.1, xI cy ((L 8)) 8 b_staff.2.2.2.1, xI cy ((L 9)) 8 b_staff.2.2.2.2, xSt ((L 10)) ((L 11)) ((L 12)) ((L 13)) ((L 14)) u2.1, xI cy ((L 11)) 8 u2.2.1, xI cy ((L 12)) 8 u2.2.2.1, xI cy ((L 13)) 8 u2.2.2.2.1, xI cy ((L 14)) 8 u2.2.2.2.2, xTa ((L 32)) ((L 33)) b_tape.1 b_tape.2.2.1 b_tape.2.2.2.1 b_tape.2.2.2.2.1 b_tape.2.2.2.2.2, xI cy ((L 33)) 250 b_tape.2.1, xI cy ((L 48)) 5 b_refusals]) (mk := [none, none, none, none, none, none, none, none, some (xSt ((L 10)) ((L 11)) ((L 12)) ((L 13)) ((L 14)) u2.1), some (xI cy ((L 11)) 8 u2.2.1), some (xI cy ((L 12)) 8 u2.2.2.1), some (xI cy ((L 13)) 8 u2.2.2.2.1), some (xI cy ((L 14)) 8 u2.2.2.2.2), none, none, none]) C hw (c_X2_become l G cy tt ((L 10)) ((L 11)) ((L 12)) ((L 13)) ((L 14)) ((L 5)) ((L 6)) ((L 7)) ((L 8)) ((L 9)) b_trialStaff b_staff _ u2e) zy_X2_become zm_X7_197 rfl rfl rfl [8, 9, 10, 11, 12, 3, 4, 5, 6, 7] rfl rfl rfl rfl rfl rfl rfl rfl hl.1 ⟨rfl, rfl⟩ ⟨Nat.le_of_ble_eq_true rfl, Nat.le_of_ble_eq_true rfl⟩ rfl (Nat.le_of_ble_eq_true rfl) ⟨Nat.zero_le _, Nat.zero_le _⟩ dX7_house_19 (fun H locs hw => ?_)
  refine lv_aload_n (pc := 22) hx hb dX7_house_22 rfl (lv_at hl 0 rfl) ?_
  refine zk_gt (pc := 23) C hw zl_X7_48 0 rfl rfl dX7_house_23 ?_
  refine lv_aload_n (pc := 26) hx hb dX7_house_26 rfl (lv_at hl 0 rfl) ?_
  refine zk_gt (pc := 27) C hw zl_X7_16 0 rfl rfl dX7_house_27 ?_
  refine lv_aload_n (pc := 30) hx hb dX7_house_30 rfl (lv_at hl 0 rfl) ?_
  refine zk_gt (pc := 31) C hw zl_X7_32 0 rfl rfl dX7_house_31 ?_
  obtain ⟨u3, u3e, hf⟩ := bd hf
  refine zk_cV (pc := 34) (ci := 4) (q0 := 13) (rest := []) (st1 := [.int u3.1]) (w' := [xU L b_seedNow b_keptSeed b_isKept, xTe ((L 1)) b_now, xTe ((L 2)) u3.2.2.1, xSt ((L 5)) ((L 6)) ((L 7)) ((L 8)) ((L 9)) b_staff.1, xI cy ((L 6)) 8 b_staff.2.1, xI cy ((L 7)) 8 b_staff.2.2.1, xI cy ((L 8)) 8 b_staff.2.2.2.1, xI cy ((L 9)) 8 b_staff.2.2.2.2, xSt ((L 10)) ((L 11)) ((L 12)) ((L 13)) ((L 14)) u3.2.2.2.1, xI cy ((L 11)) 8 u3.2.2.2.2.1, xI cy ((L 12)) 8 u3.2.2.2.2.2.1, xI cy ((L 13)) 8 u3.2.2.2.2.2.2.1, xI cy ((L 14)) 8 u3.2.2.2.2.2.2.2, xTa ((L 32)) ((L 33)) u3.2.1.1 u3.2.1.2.2.1 u3.2.1.2.2.2.1 u3.2.1.2.2.2.2.1 u3.2.1.2.2.2.2.2, xI cy ((L 33)) 250 u3.2.1.2.1, xI cy ((L 48)) 5 b_refusals]) (mk := [none, none, some (xTe ((L 2)) u3.2.2.1), none, none, none, none, none, some (xSt ((L 10)) ((L 11)) ((L 12)) ((L 13)) ((L 14)) u3.2.2.2.1), some (xI cy ((L 11)) 8 u3.2.2.2.2.1), some (xI cy ((L 12)) 8 u3.2.2.2.2.2.1), some (xI cy ((L 13)) 8 u3.2.2.2.2.2.2.1), some (xI cy ((L 14)) 8 u3.2.2.2.2.2.2.2), some (xTa ((L 32)) ((L 33)) u3.2.1.1 u3.2.1.2.2.1 u3.2.1.2.2.2.1 u3.2.1.2.2.2.2.1 u3.2.1.2.2.2.2.2), some (xI cy ((L 33)) 250 u3.2.1.2.1), none]) C hw (c_X4_read l G cy tt ((L 32)) ((L 33)) ((L 2)) ((L 10)) ((L 11)) ((L 12)) ((L 13)) ((L 14)) b_tape u1 u2 _ u3e) zy_X4_read zm_X7_200 rfl rfl rfl [13, 14, 2, 8, 9, 10, 11, 12] rfl rfl rfl rfl rfl rfl rfl rfl hl.1 ⟨rfl, rfl⟩ ⟨Nat.le_of_ble_eq_true rfl, Nat.le_of_ble_eq_true rfl⟩ rfl (Nat.le_of_ble_eq_true rfl) ⟨Nat.zero_le _, Nat.zero_le _⟩ dX7_house_34 (fun H locs hw => ?_)
  refine lv_istore_n (pc := 37) (lv' := [(1, .int u3.1), (0, .ref ((L 0)))]) hx hb dX7_house_37 rfl hl (by decide) rfl (fun ls hl => ?_)
  refine lv_aload_n (pc := 38) hx hb dX7_house_38 rfl (lv_at hl 1 rfl) ?_
  refine zk_gt (pc := 39) C hw zl_X7_48 0 rfl rfl dX7_house_39 ?_
  obtain ⟨u4, u4e, hf⟩ := bd hf
  refine zk_cV (pc := 42) (ci := 4) (q0 := 13) (rest := []) (st1 := [.int u4.1]) (w' := [xU L b_seedNow b_keptSeed b_isKept, xTe ((L 1)) b_now, xTe ((L 2)) u3.2.2.1, xSt ((L 5)) ((L 6)) ((L 7)) ((L 8)) ((L 9)) b_staff.1, xI cy ((L 6)) 8 b_staff.2.1, xI cy ((L 7)) 8 b_staff.2.2.1, xI cy ((L 8)) 8 b_staff.2.2.2.1, xI cy ((L 9)) 8 b_staff.2.2.2.2, xSt ((L 10)) ((L 11)) ((L 12)) ((L 13)) ((L 14)) u3.2.2.2.1, xI cy ((L 11)) 8 u3.2.2.2.2.1, xI cy ((L 12)) 8 u3.2.2.2.2.2.1, xI cy ((L 13)) 8 u3.2.2.2.2.2.2.1, xI cy ((L 14)) 8 u3.2.2.2.2.2.2.2, xTa ((L 32)) ((L 33)) u4.2.1 u4.2.2.2.1 u4.2.2.2.2.1 u4.2.2.2.2.2.1 u4.2.2.2.2.2.2, xI cy ((L 33)) 250 u4.2.2.1, xI cy ((L 48)) 5 b_refusals]) (mk := [none, none, none, none, none, none, none, none, none, none, none, none, none, some (xTa ((L 32)) ((L 33)) u4.2.1 u4.2.2.2.1 u4.2.2.2.2.1 u4.2.2.2.2.2.1 u4.2.2.2.2.2.2), some (xI cy ((L 33)) 250 u4.2.2.1), none]) C hw (c_X4_clear l G cy tt ((L 32)) ((L 33)) u3.2.1 _ u4e) zy_X4_clear zm_X7_189 rfl rfl rfl [13, 14] rfl rfl rfl rfl rfl rfl rfl rfl hl.1 ⟨rfl, rfl⟩ ⟨Nat.le_of_ble_eq_true rfl, Nat.le_of_ble_eq_true rfl⟩ rfl (Nat.le_of_ble_eq_true rfl) ⟨Nat.zero_le _, Nat.zero_le _⟩ dX7_house_42 (fun H locs hw => ?_)
  refine lv_pop (pc := 45) hx hb dX7_house_45 rfl ?_
  refine lv_iload_n (pc := 46) hx hb dX7_house_46 rfl (lv_at hl 0 rfl) ?_
  refine lv_if_ge (pc := 47) (tgt := 59) hx hb dX7_house_47 (by decide) (fun q5 => ?_) (fun q5 => ?_)
  · replace hf := if_t q5 hf
    refine lv_aload_n (pc := 59) hx hb dX7_house_59 rfl (lv_at hl 1 rfl) ?_
    refine zk_gt (pc := 60) C hw zl_X7_10 0 rfl rfl dX7_house_60 ?_
    refine lv_aload_n (pc := 63) hx hb dX7_house_63 rfl (lv_at hl 1 rfl) ?_
    refine zk_gt (pc := 64) C hw zl_X7_16 0 rfl rfl dX7_house_64 ?_
    obtain ⟨u6, u6e, hf⟩ := bd hf
    refine zk_cV (pc := 67) (ci := 5) (q0 := 1) (rest := []) (st1 := []) (w' := [xU L b_seedNow b_keptSeed b_isKept, xTe ((L 1)) u6, xTe ((L 2)) u3.2.2.1, xSt ((L 5)) ((L 6)) ((L 7)) ((L 8)) ((L 9)) b_staff.1, xI cy ((L 6)) 8 b_staff.2.1, xI cy ((L 7)) 8 b_staff.2.2.1, xI cy ((L 8)) 8 b_staff.2.2.2.1, xI cy ((L 9)) 8 b_staff.2.2.2.2, xSt ((L 10)) ((L 11)) ((L 12)) ((L 13)) ((L 14)) u3.2.2.2.1, xI cy ((L 11)) 8 u3.2.2.2.2.1, xI cy ((L 12)) 8 u3.2.2.2.2.2.1, xI cy ((L 13)) 8 u3.2.2.2.2.2.2.1, xI cy ((L 14)) 8 u3.2.2.2.2.2.2.2, xTa ((L 32)) ((L 33)) u4.2.1 u4.2.2.2.1 u4.2.2.2.2.1 u4.2.2.2.2.2.1 u4.2.2.2.2.2.2, xI cy ((L 33)) 250 u4.2.2.1, xI cy ((L 48)) 5 b_refusals]) (mk := [none, some (xTe ((L 1)) u6), none, none, none, none, none, none, none, none, none, none, none, none, none, none]) C hw (c_X5_become l G cy tt ((L 1)) ((L 2)) b_now u3.2.2.1 _ u6e) zy_X5_become zm_X7_193 rfl rfl rfl [1, 2] rfl rfl rfl rfl rfl rfl rfl rfl hl.1 ⟨rfl, rfl⟩ ⟨Nat.le_of_ble_eq_true rfl, Nat.le_of_ble_eq_true rfl⟩ rfl (Nat.le_of_ble_eq_true rfl) ⟨Nat.zero_le _, Nat.zero_le _⟩ dX7_house_67 (fun H locs hw => ?_)
    refine lv_aload_n (pc := 70) hx hb dX7_house_70 rfl (lv_at hl 1 rfl) ?_
    refine zk_gt (pc := 71) C hw zl_X7_28 0 rfl rfl dX7_house_71 ?_
    refine lv_aload_n (pc := 74) hx hb dX7_house_74 rfl (lv_at hl 1 rfl) ?_
    refine zk_gt (pc := 75) C hw zl_X7_32 0 rfl rfl dX7_house_75 ?_
    obtain ⟨u7, u7e, hf⟩ := bd hf
    refine zk_cV (pc := 78) (ci := 2) (q0 := 3) (rest := []) (st1 := []) (w' := [xU L b_seedNow b_keptSeed b_isKept, xTe ((L 1)) u6, xTe ((L 2)) u3.2.2.1, xSt ((L 5)) ((L 6)) ((L 7)) ((L 8)) ((L 9)) u7.1, xI cy ((L 6)) 8 u7.2.1, xI cy ((L 7)) 8 u7.2.2.1, xI cy ((L 8)) 8 u7.2.2.2.1, xI cy ((L 9)) 8 u7.2.2.2.2, xSt ((L 10)) ((L 11)) ((L 12)) ((L 13)) ((L 14)) u3.2.2.2.1, xI cy ((L 11)) 8 u3.2.2.2.2.1, xI cy ((L 12)) 8 u3.2.2.2.2.2.1, xI cy ((L 13)) 8 u3.2.2.2.2.2.2.1, xI cy ((L 14)) 8 u3.2.2.2.2.2.2.2, xTa ((L 32)) ((L 33)) u4.2.1 u4.2.2.2.1 u4.2.2.2.2.1 u4.2.2.2.2.2.1 u4.2.2.2.2.2.2, xI cy ((L 33)) 250 u4.2.2.1, xI cy ((L 48)) 5 b_refusals]) (mk := [none, none, none, some (xSt ((L 5)) ((L 6)) ((L 7)) ((L 8)) ((L 9)) u7.1), some (xI cy ((L 6)) 8 u7.2.1), some (xI cy ((L 7)) 8 u7.2.2.1), some (xI cy ((L 8)) 8 u7.2.2.2.1), some (xI cy ((L 9)) 8 u7.2.2.2.2), none, none, none, none, none, none, none, none]) C hw (c_X2_become l G cy tt ((L 5)) ((L 6)) ((L 7)) ((L 8)) ((L 9)) ((L 10)) ((L 11)) ((L 12)) ((L 13)) ((L 14)) b_staff u3.2.2.2 _ u7e) zy_X2_become zm_X7_197 rfl rfl rfl [3, 4, 5, 6, 7, 8, 9, 10, 11, 12] rfl rfl rfl rfl rfl rfl rfl rfl hl.1 ⟨rfl, rfl⟩ ⟨Nat.le_of_ble_eq_true rfl, Nat.le_of_ble_eq_true rfl⟩ rfl (Nat.le_of_ble_eq_true rfl) ⟨Nat.zero_le _, Nat.zero_le _⟩ dX7_house_78 (fun H locs hw => ?_)
    refine lv_iload_n (pc := 81) hx hb dX7_house_81 rfl (lv_at hl 0 rfl) ?_
    have hf := Option.some.inj hf
    subst hf
    exact zk_reti (pc := 82) (ww := [xU L b_seedNow b_keptSeed b_isKept, xTe ((L 1)) u6, xTe ((L 2)) u3.2.2.1, xSt ((L 5)) ((L 6)) ((L 7)) ((L 8)) ((L 9)) u7.1, xI cy ((L 6)) 8 u7.2.1, xI cy ((L 7)) 8 u7.2.2.1, xI cy ((L 8)) 8 u7.2.2.2.1, xI cy ((L 9)) 8 u7.2.2.2.2, xSt ((L 10)) ((L 11)) ((L 12)) ((L 13)) ((L 14)) u3.2.2.2.1, xI cy ((L 11)) 8 u3.2.2.2.2.1, xI cy ((L 12)) 8 u3.2.2.2.2.2.1, xI cy ((L 13)) 8 u3.2.2.2.2.2.2.1, xI cy ((L 14)) 8 u3.2.2.2.2.2.2.2, xTa ((L 32)) ((L 33)) u4.2.1 u4.2.2.2.1 u4.2.2.2.2.1 u4.2.2.2.2.2.1 u4.2.2.2.2.2.2, xI cy ((L 33)) 250 u4.2.2.1, xI cy ((L 48)) 5 b_refusals]) C hw hr hQ dX7_house_82
  · replace hf := if_f q5 hf
    refine lv_aload_n (pc := 50) hx hb dX7_house_50 rfl (lv_at hl 1 rfl) ?_
    refine lv_bipush (pc := 51) (v := -2) hx hb dX7_house_51 (by decide) ?_
    obtain ⟨u8, u8e, hf⟩ := bd hf
    refine zk_cV (pc := 53) (ci := 7) (q0 := 0) (rest := []) (st1 := [.int u8.1]) (w' := [xU L b_seedNow b_keptSeed b_isKept, xTe ((L 1)) b_now, xTe ((L 2)) u3.2.2.1, xSt ((L 5)) ((L 6)) ((L 7)) ((L 8)) ((L 9)) b_staff.1, xI cy ((L 6)) 8 b_staff.2.1, xI cy ((L 7)) 8 b_staff.2.2.1, xI cy ((L 8)) 8 b_staff.2.2.2.1, xI cy ((L 9)) 8 b_staff.2.2.2.2, xSt ((L 10)) ((L 11)) ((L 12)) ((L 13)) ((L 14)) u3.2.2.2.1, xI cy ((L 11)) 8 u3.2.2.2.2.1, xI cy ((L 12)) 8 u3.2.2.2.2.2.1, xI cy ((L 13)) 8 u3.2.2.2.2.2.2.1, xI cy ((L 14)) 8 u3.2.2.2.2.2.2.2, xTa ((L 32)) ((L 33)) u4.2.1 u4.2.2.2.1 u4.2.2.2.2.1 u4.2.2.2.2.2.1 u4.2.2.2.2.2.2, xI cy ((L 33)) 250 u4.2.2.1, xI cy ((L 48)) 5 u8.2]) (mk := [none, none, none, none, none, none, none, none, none, none, none, none, none, none, none, some (xI cy ((L 48)) 5 u8.2)]) C hw (c_X7_refused l G cy tt L b_seedNow b_keptSeed b_isKept (((-2 : Int32))) b_refusals _ u8e) zy_X7_refused zm_X7_103 rfl rfl rfl [0, 15] rfl rfl rfl rfl rfl rfl rfl rfl hl.1 ⟨rfl, rfl⟩ ⟨Nat.le_of_ble_eq_true rfl, Nat.le_of_ble_eq_true rfl⟩ rfl (Nat.le_of_ble_eq_true rfl) ⟨Nat.zero_le _, Nat.zero_le _⟩ dX7_house_53 (fun H locs hw => ?_)
    refine lv_pop (pc := 56) hx hb dX7_house_56 rfl ?_
    refine lv_iload_n (pc := 57) hx hb dX7_house_57 rfl (lv_at hl 0 rfl) ?_
    have hf := Option.some.inj hf
    subst hf
    exact zk_reti (pc := 58) (ww := [xU L b_seedNow b_keptSeed b_isKept, xTe ((L 1)) b_now, xTe ((L 2)) u3.2.2.1, xSt ((L 5)) ((L 6)) ((L 7)) ((L 8)) ((L 9)) b_staff.1, xI cy ((L 6)) 8 b_staff.2.1, xI cy ((L 7)) 8 b_staff.2.2.1, xI cy ((L 8)) 8 b_staff.2.2.2.1, xI cy ((L 9)) 8 b_staff.2.2.2.2, xSt ((L 10)) ((L 11)) ((L 12)) ((L 13)) ((L 14)) u3.2.2.2.1, xI cy ((L 11)) 8 u3.2.2.2.2.1, xI cy ((L 12)) 8 u3.2.2.2.2.2.1, xI cy ((L 13)) 8 u3.2.2.2.2.2.2.1, xI cy ((L 14)) 8 u3.2.2.2.2.2.2.2, xTa ((L 32)) ((L 33)) u4.2.1 u4.2.2.2.1 u4.2.2.2.2.1 u4.2.2.2.2.2.1 u4.2.2.2.2.2.2, xI cy ((L 33)) 250 u4.2.2.1, xI cy ((L 48)) 5 u8.2]) C hw hr hQ dX7_house_58
def zf_X2_skillOf (x1 : Int32) (b_this : TSt) : Option (Int32) := (Option.bind (zf_X2_has x1 b_this) (fun u1 => (if u1 then (if ix x1 8 then some ((b_this.2.2.1 x1.toNatClampNeg)) else none) else some ((0 : Int32)))))
abbrev zr_X2_skillOf : Room := { frames := 1, cells := 0, slots := 0, locals := 21 }
set_option maxHeartbeats 4000000 in
set_option maxRecDepth 100000 in
theorem c_X2_skillOf (l : Launch) (G : va_G) (cy : Nat → ClassId) (tt : Nat → Nat) (a0 a1 a2 a3 a4 : Nat) (x1 : Int32) (b_this : TSt) (res : Int32) (hf : zf_X2_skillOf x1 b_this = some res) : zCT l yX2_skillOf cX2_skillOf 2 (some .int) zr_X2_skillOf G cy tt [.ref a0, .int x1] [xSt a0 a1 a2 a3 a4 b_this.1, xI cy a1 8 b_this.2.1, xI cy a2 8 b_this.2.2.1, xI cy a3 8 b_this.2.2.2.1, xI cy a4 8 b_this.2.2.2.2] (some (.int res)) [xSt a0 a1 a2 a3 a4 b_this.1, xI cy a1 8 b_this.2.1, xI cy a2 8 b_this.2.2.1, xI cy a3 8 b_this.2.2.2.1, xI cy a4 8 b_this.2.2.2.2] := by
  refine zk_start zn_X2 (Nat.le_of_ble_eq_true rfl) ?_
  intro p e s m args below meth c A ls Q C hr hQ hw hl
  have C : zCx p m c s args meth cX2_skillOf 2 RX2 G cy tt A := C
  have hx := C.1.1
  have hb := C.1.2.1
  have hl : lv_has ls 2 [(0, .ref a0), (1, .int x1)] := hl
  rw [zf_X2_skillOf] at hf
  refine lv_aload_n (pc := 0) hx hb dX2_skillOf_0 rfl (lv_at hl 0 rfl) ?_
  refine lv_iload_n (pc := 1) hx hb dX2_skillOf_1 rfl (lv_at hl 1 rfl) ?_
  obtain ⟨u1, u1e, hf⟩ := bd hf
  refine zk_cV (pc := 2) (ci := 2) (q0 := 0) (rest := []) (st1 := [.int (bI u1)]) (w' := [xSt a0 a1 a2 a3 a4 b_this.1, xI cy a1 8 b_this.2.1, xI cy a2 8 b_this.2.2.1, xI cy a3 8 b_this.2.2.2.1, xI cy a4 8 b_this.2.2.2.2]) (mk := [none, none, none, none, none]) C hw (c_X2_has l G cy tt a0 a1 a2 a3 a4 x1 b_this _ u1e) zy_X2_has zm_X2_28 rfl rfl rfl [0, 1, 2, 3, 4] rfl rfl rfl rfl rfl rfl rfl rfl hl.1 ⟨rfl, rfl⟩ ⟨Nat.le_of_ble_eq_true rfl, Nat.le_of_ble_eq_true rfl⟩ rfl (Nat.le_of_ble_eq_true rfl) ⟨Nat.zero_le _, Nat.zero_le _⟩ dX2_skillOf_2 (fun H locs hw => ?_)
  refine zk_ifz (pc := 5) (tgt := 17) hx hb dX2_skillOf_5 (by decide) (fun q2 => ?_) (fun q2 => ?_)
  · replace hf := if_f q2 hf
    refine lv_iconst (pc := 17) (v := 0) hx hb dX2_skillOf_17 (by decide) ?_
    have hf := Option.some.inj hf
    subst hf
    exact zk_reti (pc := 18) (ww := [xSt a0 a1 a2 a3 a4 b_this.1, xI cy a1 8 b_this.2.1, xI cy a2 8 b_this.2.2.1, xI cy a3 8 b_this.2.2.2.1, xI cy a4 8 b_this.2.2.2.2]) C hw hr hQ dX2_skillOf_18
  · replace hf := if_t q2 hf
    refine lv_aload_n (pc := 8) hx hb dX2_skillOf_8 rfl (lv_at hl 0 rfl) ?_
    refine zk_gt (pc := 9) C hw zl_X2_19 0 rfl rfl dX2_skillOf_9 ?_
    refine lv_iload_n (pc := 12) hx hb dX2_skillOf_12 rfl (lv_at hl 1 rfl) ?_
    obtain ⟨q3, hf⟩ := ck hf
    refine zk_iald (pc := 13) C hw 2 rfl q3 dX2_skillOf_13 ?_
    refine lv_goto (pc := 14) (tgt := 18) hx hb dX2_skillOf_14 (by decide) ?_
    have hf := Option.some.inj hf
    subst hf
    exact zk_reti (pc := 18) (ww := [xSt a0 a1 a2 a3 a4 b_this.1, xI cy a1 8 b_this.2.1, xI cy a2 8 b_this.2.2.1, xI cy a3 8 b_this.2.2.2.1, xI cy a4 8 b_this.2.2.2.2]) C hw hr hQ dX2_skillOf_18
def zf_X2_fledOf (x1 : Int32) (b_this : TSt) : Option (Int32) := (Option.bind (zf_X2_has x1 b_this) (fun u1 => (if u1 then (if ix x1 8 then some ((b_this.2.2.2.2 x1.toNatClampNeg)) else none) else some ((0 : Int32)))))
abbrev zr_X2_fledOf : Room := { frames := 1, cells := 0, slots := 0, locals := 21 }
set_option maxHeartbeats 4000000 in
set_option maxRecDepth 100000 in
theorem c_X2_fledOf (l : Launch) (G : va_G) (cy : Nat → ClassId) (tt : Nat → Nat) (a0 a1 a2 a3 a4 : Nat) (x1 : Int32) (b_this : TSt) (res : Int32) (hf : zf_X2_fledOf x1 b_this = some res) : zCT l yX2_fledOf cX2_fledOf 2 (some .int) zr_X2_fledOf G cy tt [.ref a0, .int x1] [xSt a0 a1 a2 a3 a4 b_this.1, xI cy a1 8 b_this.2.1, xI cy a2 8 b_this.2.2.1, xI cy a3 8 b_this.2.2.2.1, xI cy a4 8 b_this.2.2.2.2] (some (.int res)) [xSt a0 a1 a2 a3 a4 b_this.1, xI cy a1 8 b_this.2.1, xI cy a2 8 b_this.2.2.1, xI cy a3 8 b_this.2.2.2.1, xI cy a4 8 b_this.2.2.2.2] := by
  refine zk_start zn_X2 (Nat.le_of_ble_eq_true rfl) ?_
  intro p e s m args below meth c A ls Q C hr hQ hw hl
  have C : zCx p m c s args meth cX2_fledOf 2 RX2 G cy tt A := C
  have hx := C.1.1
  have hb := C.1.2.1
  have hl : lv_has ls 2 [(0, .ref a0), (1, .int x1)] := hl
  rw [zf_X2_fledOf] at hf
  refine lv_aload_n (pc := 0) hx hb dX2_fledOf_0 rfl (lv_at hl 0 rfl) ?_
  refine lv_iload_n (pc := 1) hx hb dX2_fledOf_1 rfl (lv_at hl 1 rfl) ?_
  obtain ⟨u1, u1e, hf⟩ := bd hf
  refine zk_cV (pc := 2) (ci := 2) (q0 := 0) (rest := []) (st1 := [.int (bI u1)]) (w' := [xSt a0 a1 a2 a3 a4 b_this.1, xI cy a1 8 b_this.2.1, xI cy a2 8 b_this.2.2.1, xI cy a3 8 b_this.2.2.2.1, xI cy a4 8 b_this.2.2.2.2]) (mk := [none, none, none, none, none]) C hw (c_X2_has l G cy tt a0 a1 a2 a3 a4 x1 b_this _ u1e) zy_X2_has zm_X2_28 rfl rfl rfl [0, 1, 2, 3, 4] rfl rfl rfl rfl rfl rfl rfl rfl hl.1 ⟨rfl, rfl⟩ ⟨Nat.le_of_ble_eq_true rfl, Nat.le_of_ble_eq_true rfl⟩ rfl (Nat.le_of_ble_eq_true rfl) ⟨Nat.zero_le _, Nat.zero_le _⟩ dX2_fledOf_2 (fun H locs hw => ?_)
  refine zk_ifz (pc := 5) (tgt := 17) hx hb dX2_fledOf_5 (by decide) (fun q2 => ?_) (fun q2 => ?_)
  · replace hf := if_f q2 hf
    refine lv_iconst (pc := 17) (v := 0) hx hb dX2_fledOf_17 (by decide) ?_
    have hf := Option.some.inj hf
    subst hf
    exact zk_reti (pc := 18) (ww := [xSt a0 a1 a2 a3 a4 b_this.1, xI cy a1 8 b_this.2.1, xI cy a2 8 b_this.2.2.1, xI cy a3 8 b_this.2.2.2.1, xI cy a4 8 b_this.2.2.2.2]) C hw hr hQ dX2_fledOf_18
  · replace hf := if_t q2 hf
    refine lv_aload_n (pc := 8) hx hb dX2_fledOf_8 rfl (lv_at hl 0 rfl) ?_
    refine zk_gt (pc := 9) C hw zl_X2_25 0 rfl rfl dX2_fledOf_9 ?_
    refine lv_iload_n (pc := 12) hx hb dX2_fledOf_12 rfl (lv_at hl 1 rfl) ?_
    obtain ⟨q3, hf⟩ := ck hf
    refine zk_iald (pc := 13) C hw 4 rfl q3 dX2_fledOf_13 ?_
    refine lv_goto (pc := 14) (tgt := 18) hx hb dX2_fledOf_14 (by decide) ?_
    have hf := Option.some.inj hf
    subst hf
    exact zk_reti (pc := 18) (ww := [xSt a0 a1 a2 a3 a4 b_this.1, xI cy a1 8 b_this.2.1, xI cy a2 8 b_this.2.2.1, xI cy a3 8 b_this.2.2.2.1, xI cy a4 8 b_this.2.2.2.2]) C hw hr hQ dX2_fledOf_18
def zf_X7_keeperOf_20 (b_staff : TSt) (b_refusals : Nat → Int32) : Option (Int32 × (Nat → Int32)) := (Option.bind (zf_X7_refused (((-2 : Int32))) b_refusals) (fun u12 => some (u12.1, u12.2)))
def zf_X7_keeperOf (x1 : Int32) (x2 : Int32) (b_staff : TSt) (b_refusals : Nat → Int32) : Option (Int32 × (Nat → Int32)) := (Option.bind (zf_X2_has x1 b_staff) (fun u1 => (if u1 then (Option.bind (zf_X7_isWithin x2 (((0 : Int32))) (((3 : Int32)))) (fun u3 => (if u3 then (if x2 = 0 then (Option.bind (zf_X2_kindOf x1 b_staff) (fun u6 => some (u6, b_refusals))) else (if x2 = 1 then (Option.bind (zf_X2_skillOf x1 b_staff) (fun u8 => some (u8, b_refusals))) else (if x2 = 2 then (Option.bind (zf_X2_nerveOf x1 b_staff) (fun u10 => some (u10, b_refusals))) else (Option.bind (zf_X2_fledOf x1 b_staff) (fun u11 => some (u11, b_refusals)))))) else zf_X7_keeperOf_20 b_staff b_refusals))) else zf_X7_keeperOf_20 b_staff b_refusals)))
abbrev zr_X7_keeperOf : Room := { frames := 2, cells := 0, slots := 0, locals := 42 }
set_option maxHeartbeats 4000000 in
set_option maxRecDepth 100000 in
theorem c_X7_keeperOf (l : Launch) (G : va_G) (cy : Nat → ClassId) (tt : Nat → Nat) (L : Nat → Nat) (b_seedNow : Int32) (b_keptSeed : Int32) (b_isKept : Bool) (x1 : Int32) (x2 : Int32) (b_staff : TSt) (b_refusals : Nat → Int32) (res : Int32 × (Nat → Int32)) (hf : zf_X7_keeperOf x1 x2 b_staff b_refusals = some res) : zCT l yX7_keeperOf cX7_keeperOf 3 (some .int) zr_X7_keeperOf G cy tt [.ref ((L 0)), .int x1, .int x2] [xU L b_seedNow b_keptSeed b_isKept, xSt ((L 5)) ((L 6)) ((L 7)) ((L 8)) ((L 9)) b_staff.1, xI cy ((L 6)) 8 b_staff.2.1, xI cy ((L 7)) 8 b_staff.2.2.1, xI cy ((L 8)) 8 b_staff.2.2.2.1, xI cy ((L 9)) 8 b_staff.2.2.2.2, xI cy ((L 48)) 5 b_refusals] (some (.int res.1)) [xU L b_seedNow b_keptSeed b_isKept, xSt ((L 5)) ((L 6)) ((L 7)) ((L 8)) ((L 9)) b_staff.1, xI cy ((L 6)) 8 b_staff.2.1, xI cy ((L 7)) 8 b_staff.2.2.1, xI cy ((L 8)) 8 b_staff.2.2.2.1, xI cy ((L 9)) 8 b_staff.2.2.2.2, xI cy ((L 48)) 5 res.2] := by
  refine zk_start zn_X7 (Nat.le_of_ble_eq_true rfl) ?_
  intro p e s m args below meth c A ls Q C hr hQ hw hl
  have C : zCx p m c s args meth cX7_keeperOf 3 RX7 G cy tt A := C
  have hx := C.1.1
  have hb := C.1.2.1
  have hl : lv_has ls 3 [(0, .ref ((L 0))), (1, .int x1), (2, .int x2)] := hl
  have J20 : ∀ (b_refusals : Nat → Int32) (H : Heap) (locs : List Loc) (ls : Array Slot), zf_X7_keeperOf_20 b_staff b_refusals = some res → zWd G A s.heap H locs [xU L b_seedNow b_keptSeed b_isKept, xSt ((L 5)) ((L 6)) ((L 7)) ((L 8)) ((L 9)) b_staff.1, xI cy ((L 6)) 8 b_staff.2.1, xI cy ((L 7)) 8 b_staff.2.2.1, xI cy ((L 8)) 8 b_staff.2.2.2.1, xI cy ((L 9)) 8 b_staff.2.2.2.2, xI cy ((L 48)) 5 b_refusals] → lv_has ls 3 [(0, .ref ((L 0)))] → W p l e zr_X7_keeperOf s m args below meth c H locs 0 0 Q (F0 m 20 ls []) := by
    intro b_refusals H locs ls hf hw hl
    rw [zf_X7_keeperOf_20] at hf
    refine lv_aload_n (pc := 20) hx hb dX7_keeperOf_20 rfl (lv_at hl 0 rfl) ?_
    refine lv_bipush (pc := 21) (v := -2) hx hb dX7_keeperOf_21 (by decide) ?_
    obtain ⟨u12, u12e, hf⟩ := bd hf
    refine zk_cV (pc := 23) (ci := 7) (q0 := 0) (rest := []) (st1 := [.int u12.1]) (w' := [xU L b_seedNow b_keptSeed b_isKept, xSt ((L 5)) ((L 6)) ((L 7)) ((L 8)) ((L 9)) b_staff.1, xI cy ((L 6)) 8 b_staff.2.1, xI cy ((L 7)) 8 b_staff.2.2.1, xI cy ((L 8)) 8 b_staff.2.2.2.1, xI cy ((L 9)) 8 b_staff.2.2.2.2, xI cy ((L 48)) 5 u12.2]) (mk := [none, none, none, none, none, none, some (xI cy ((L 48)) 5 u12.2)]) C hw (c_X7_refused l G cy tt L b_seedNow b_keptSeed b_isKept (((-2 : Int32))) b_refusals _ u12e) zy_X7_refused zm_X7_103 rfl rfl rfl [0, 6] rfl rfl rfl rfl rfl rfl rfl rfl hl.1 ⟨rfl, rfl⟩ ⟨Nat.le_of_ble_eq_true rfl, Nat.le_of_ble_eq_true rfl⟩ rfl (Nat.le_of_ble_eq_true rfl) ⟨Nat.zero_le _, Nat.zero_le _⟩ dX7_keeperOf_23 (fun H locs hw => ?_)
    have hf := Option.some.inj hf
    subst hf
    exact zk_reti (pc := 26) (ww := [xU L b_seedNow b_keptSeed b_isKept, xSt ((L 5)) ((L 6)) ((L 7)) ((L 8)) ((L 9)) b_staff.1, xI cy ((L 6)) 8 b_staff.2.1, xI cy ((L 7)) 8 b_staff.2.2.1, xI cy ((L 8)) 8 b_staff.2.2.2.1, xI cy ((L 9)) 8 b_staff.2.2.2.2, xI cy ((L 48)) 5 u12.2]) C hw hr hQ dX7_keeperOf_26
  rw [zf_X7_keeperOf] at hf
  refine lv_aload_n (pc := 0) hx hb dX7_keeperOf_0 rfl (lv_at hl 0 rfl) ?_
  refine zk_gt (pc := 1) C hw zl_X7_28 0 rfl rfl dX7_keeperOf_1 ?_
  refine lv_iload_n (pc := 4) hx hb dX7_keeperOf_4 rfl (lv_at hl 1 rfl) ?_
  obtain ⟨u1, u1e, hf⟩ := bd hf
  refine zk_cV (pc := 5) (ci := 2) (q0 := 1) (rest := []) (st1 := [.int (bI u1)]) (w' := [xU L b_seedNow b_keptSeed b_isKept, xSt ((L 5)) ((L 6)) ((L 7)) ((L 8)) ((L 9)) b_staff.1, xI cy ((L 6)) 8 b_staff.2.1, xI cy ((L 7)) 8 b_staff.2.2.1, xI cy ((L 8)) 8 b_staff.2.2.2.1, xI cy ((L 9)) 8 b_staff.2.2.2.2, xI cy ((L 48)) 5 b_refusals]) (mk := [none, none, none, none, none, none, none]) C hw (c_X2_has l G cy tt ((L 5)) ((L 6)) ((L 7)) ((L 8)) ((L 9)) x1 b_staff _ u1e) zy_X2_has zm_X7_146 rfl rfl rfl [1, 2, 3, 4, 5] rfl rfl rfl rfl rfl rfl rfl rfl hl.1 ⟨rfl, rfl⟩ ⟨Nat.le_of_ble_eq_true rfl, Nat.le_of_ble_eq_true rfl⟩ rfl (Nat.le_of_ble_eq_true rfl) ⟨Nat.zero_le _, Nat.zero_le _⟩ dX7_keeperOf_5 (fun H locs hw => ?_)
  refine zk_ifz (pc := 8) (tgt := 20) hx hb dX7_keeperOf_8 (by decide) (fun q2 => ?_) (fun q2 => ?_)
  · replace hf := if_f q2 hf
    exact J20 b_refusals _ _ _ hf hw (lv_sub hl [0] rfl)
  · replace hf := if_t q2 hf
    refine lv_iload_n (pc := 11) hx hb dX7_keeperOf_11 rfl (lv_at hl 2 rfl) ?_
    refine lv_iconst (pc := 12) (v := 0) hx hb dX7_keeperOf_12 (by decide) ?_
    refine lv_iconst (pc := 13) (v := 3) hx hb dX7_keeperOf_13 (by decide) ?_
    obtain ⟨u3, u3e, hf⟩ := bd hf
    refine zk_cS (pc := 14) (rest := []) (st1 := [.int (bI u3)]) (w' := [xU L b_seedNow b_keptSeed b_isKept, xSt ((L 5)) ((L 6)) ((L 7)) ((L 8)) ((L 9)) b_staff.1, xI cy ((L 6)) 8 b_staff.2.1, xI cy ((L 7)) 8 b_staff.2.2.1, xI cy ((L 8)) 8 b_staff.2.2.2.1, xI cy ((L 9)) 8 b_staff.2.2.2.2, xI cy ((L 48)) 5 b_refusals]) (mk := [none, none, none, none, none, none, none]) C hw (c_X7_isWithin l G cy tt x2 (((0 : Int32))) (((3 : Int32))) _ u3e) zy_X7_isWithin zm_X7_99 [] rfl rfl rfl rfl rfl rfl rfl rfl hl.1 ⟨rfl, rfl⟩ ⟨Nat.le_of_ble_eq_true rfl, Nat.le_of_ble_eq_true rfl⟩ rfl (Nat.le_of_ble_eq_true rfl) ⟨Nat.zero_le _, Nat.zero_le _⟩ dX7_keeperOf_14 (fun H locs hw => ?_)
    refine zk_ifnz (pc := 17) (tgt := 27) hx hb dX7_keeperOf_17 (by decide) (fun q4 => ?_) (fun q4 => ?_)
    · replace hf := if_t q4 hf
      refine lv_iload_n (pc := 27) hx hb dX7_keeperOf_27 rfl (lv_at hl 2 rfl) ?_
      by_cases q5 : x2 = (0 : Int32)
      · replace hf := if_t q5 hf
        refine zk_tabIn (pc := 28) (off := 28) (tgt := 56) q5 C dX7_keeperOf_28 (by decide) (by decide) (by decide +kernel) (by decide) ?_
        refine lv_aload_n (pc := 56) hx hb dX7_keeperOf_56 rfl (lv_at hl 0 rfl) ?_
        refine zk_gt (pc := 57) C hw zl_X7_28 0 rfl rfl dX7_keeperOf_57 ?_
        refine lv_iload_n (pc := 60) hx hb dX7_keeperOf_60 rfl (lv_at hl 1 rfl) ?_
        obtain ⟨u6, u6e, hf⟩ := bd hf
        refine zk_cV (pc := 61) (ci := 2) (q0 := 1) (rest := []) (st1 := [.int u6]) (w' := [xU L b_seedNow b_keptSeed b_isKept, xSt ((L 5)) ((L 6)) ((L 7)) ((L 8)) ((L 9)) b_staff.1, xI cy ((L 6)) 8 b_staff.2.1, xI cy ((L 7)) 8 b_staff.2.2.1, xI cy ((L 8)) 8 b_staff.2.2.2.1, xI cy ((L 9)) 8 b_staff.2.2.2.2, xI cy ((L 48)) 5 b_refusals]) (mk := [none, none, none, none, none, none, none]) C hw (c_X2_kindOf l G cy tt ((L 5)) ((L 6)) ((L 7)) ((L 8)) ((L 9)) x1 b_staff _ u6e) zy_X2_kindOf zm_X7_153 rfl rfl rfl [1, 2, 3, 4, 5] rfl rfl rfl rfl rfl rfl rfl rfl hl.1 ⟨rfl, rfl⟩ ⟨Nat.le_of_ble_eq_true rfl, Nat.le_of_ble_eq_true rfl⟩ rfl (Nat.le_of_ble_eq_true rfl) ⟨Nat.zero_le _, Nat.zero_le _⟩ dX7_keeperOf_61 (fun H locs hw => ?_)
        have hf := Option.some.inj hf
        subst hf
        exact zk_reti (pc := 64) (ww := [xU L b_seedNow b_keptSeed b_isKept, xSt ((L 5)) ((L 6)) ((L 7)) ((L 8)) ((L 9)) b_staff.1, xI cy ((L 6)) 8 b_staff.2.1, xI cy ((L 7)) 8 b_staff.2.2.1, xI cy ((L 8)) 8 b_staff.2.2.2.1, xI cy ((L 9)) 8 b_staff.2.2.2.2, xI cy ((L 48)) 5 b_refusals]) C hw hr hQ dX7_keeperOf_64
      · replace hf := if_f q5 hf
        by_cases q7 : x2 = (1 : Int32)
        · replace hf := if_t q7 hf
          refine zk_tabIn (pc := 28) (off := 37) (tgt := 65) q7 C dX7_keeperOf_28 (by decide) (by decide) (by decide +kernel) (by decide) ?_
          refine lv_aload_n (pc := 65) hx hb dX7_keeperOf_65 rfl (lv_at hl 0 rfl) ?_
          refine zk_gt (pc := 66) C hw zl_X7_28 0 rfl rfl dX7_keeperOf_66 ?_
          refine lv_iload_n (pc := 69) hx hb dX7_keeperOf_69 rfl (lv_at hl 1 rfl) ?_
          obtain ⟨u8, u8e, hf⟩ := bd hf
          refine zk_cV (pc := 70) (ci := 2) (q0 := 1) (rest := []) (st1 := [.int u8]) (w' := [xU L b_seedNow b_keptSeed b_isKept, xSt ((L 5)) ((L 6)) ((L 7)) ((L 8)) ((L 9)) b_staff.1, xI cy ((L 6)) 8 b_staff.2.1, xI cy ((L 7)) 8 b_staff.2.2.1, xI cy ((L 8)) 8 b_staff.2.2.2.1, xI cy ((L 9)) 8 b_staff.2.2.2.2, xI cy ((L 48)) 5 b_refusals]) (mk := [none, none, none, none, none, none, none]) C hw (c_X2_skillOf l G cy tt ((L 5)) ((L 6)) ((L 7)) ((L 8)) ((L 9)) x1 b_staff _ u8e) zy_X2_skillOf zm_X7_204 rfl rfl rfl [1, 2, 3, 4, 5] rfl rfl rfl rfl rfl rfl rfl rfl hl.1 ⟨rfl, rfl⟩ ⟨Nat.le_of_ble_eq_true rfl, Nat.le_of_ble_eq_true rfl⟩ rfl (Nat.le_of_ble_eq_true rfl) ⟨Nat.zero_le _, Nat.zero_le _⟩ dX7_keeperOf_70 (fun H locs hw => ?_)
          have hf := Option.some.inj hf
          subst hf
          exact zk_reti (pc := 73) (ww := [xU L b_seedNow b_keptSeed b_isKept, xSt ((L 5)) ((L 6)) ((L 7)) ((L 8)) ((L 9)) b_staff.1, xI cy ((L 6)) 8 b_staff.2.1, xI cy ((L 7)) 8 b_staff.2.2.1, xI cy ((L 8)) 8 b_staff.2.2.2.1, xI cy ((L 9)) 8 b_staff.2.2.2.2, xI cy ((L 48)) 5 b_refusals]) C hw hr hQ dX7_keeperOf_73
        · replace hf := if_f q7 hf
          by_cases q9 : x2 = (2 : Int32)
          · replace hf := if_t q9 hf
            refine zk_tabIn (pc := 28) (off := 46) (tgt := 74) q9 C dX7_keeperOf_28 (by decide) (by decide) (by decide +kernel) (by decide) ?_
            refine lv_aload_n (pc := 74) hx hb dX7_keeperOf_74 rfl (lv_at hl 0 rfl) ?_
            refine zk_gt (pc := 75) C hw zl_X7_28 0 rfl rfl dX7_keeperOf_75 ?_
            refine lv_iload_n (pc := 78) hx hb dX7_keeperOf_78 rfl (lv_at hl 1 rfl) ?_
            obtain ⟨u10, u10e, hf⟩ := bd hf
            refine zk_cV (pc := 79) (ci := 2) (q0 := 1) (rest := []) (st1 := [.int u10]) (w' := [xU L b_seedNow b_keptSeed b_isKept, xSt ((L 5)) ((L 6)) ((L 7)) ((L 8)) ((L 9)) b_staff.1, xI cy ((L 6)) 8 b_staff.2.1, xI cy ((L 7)) 8 b_staff.2.2.1, xI cy ((L 8)) 8 b_staff.2.2.2.1, xI cy ((L 9)) 8 b_staff.2.2.2.2, xI cy ((L 48)) 5 b_refusals]) (mk := [none, none, none, none, none, none, none]) C hw (c_X2_nerveOf l G cy tt ((L 5)) ((L 6)) ((L 7)) ((L 8)) ((L 9)) x1 b_staff _ u10e) zy_X2_nerveOf zm_X7_159 rfl rfl rfl [1, 2, 3, 4, 5] rfl rfl rfl rfl rfl rfl rfl rfl hl.1 ⟨rfl, rfl⟩ ⟨Nat.le_of_ble_eq_true rfl, Nat.le_of_ble_eq_true rfl⟩ rfl (Nat.le_of_ble_eq_true rfl) ⟨Nat.zero_le _, Nat.zero_le _⟩ dX7_keeperOf_79 (fun H locs hw => ?_)
            have hf := Option.some.inj hf
            subst hf
            exact zk_reti (pc := 82) (ww := [xU L b_seedNow b_keptSeed b_isKept, xSt ((L 5)) ((L 6)) ((L 7)) ((L 8)) ((L 9)) b_staff.1, xI cy ((L 6)) 8 b_staff.2.1, xI cy ((L 7)) 8 b_staff.2.2.1, xI cy ((L 8)) 8 b_staff.2.2.2.1, xI cy ((L 9)) 8 b_staff.2.2.2.2, xI cy ((L 48)) 5 b_refusals]) C hw hr hQ dX7_keeperOf_82
          · replace hf := if_f q9 hf
            have eq5 := i32_ne (n := 0) (by decide) q5
            have eq7 := i32_ne (n := 1) (by decide) q7
            have eq9 := i32_ne (n := 2) (by decide) q9
            refine lv_tableOut (pc := 28) (tgt := 83) hx hb dX7_keeperOf_28 (by omega) (by decide) ?_
            refine lv_aload_n (pc := 83) hx hb dX7_keeperOf_83 rfl (lv_at hl 0 rfl) ?_
            refine zk_gt (pc := 84) C hw zl_X7_28 0 rfl rfl dX7_keeperOf_84 ?_
            refine lv_iload_n (pc := 87) hx hb dX7_keeperOf_87 rfl (lv_at hl 1 rfl) ?_
            obtain ⟨u11, u11e, hf⟩ := bd hf
            refine zk_cV (pc := 88) (ci := 2) (q0 := 1) (rest := []) (st1 := [.int u11]) (w' := [xU L b_seedNow b_keptSeed b_isKept, xSt ((L 5)) ((L 6)) ((L 7)) ((L 8)) ((L 9)) b_staff.1, xI cy ((L 6)) 8 b_staff.2.1, xI cy ((L 7)) 8 b_staff.2.2.1, xI cy ((L 8)) 8 b_staff.2.2.2.1, xI cy ((L 9)) 8 b_staff.2.2.2.2, xI cy ((L 48)) 5 b_refusals]) (mk := [none, none, none, none, none, none, none]) C hw (c_X2_fledOf l G cy tt ((L 5)) ((L 6)) ((L 7)) ((L 8)) ((L 9)) x1 b_staff _ u11e) zy_X2_fledOf zm_X7_207 rfl rfl rfl [1, 2, 3, 4, 5] rfl rfl rfl rfl rfl rfl rfl rfl hl.1 ⟨rfl, rfl⟩ ⟨Nat.le_of_ble_eq_true rfl, Nat.le_of_ble_eq_true rfl⟩ rfl (Nat.le_of_ble_eq_true rfl) ⟨Nat.zero_le _, Nat.zero_le _⟩ dX7_keeperOf_88 (fun H locs hw => ?_)
            have hf := Option.some.inj hf
            subst hf
            exact zk_reti (pc := 91) (ww := [xU L b_seedNow b_keptSeed b_isKept, xSt ((L 5)) ((L 6)) ((L 7)) ((L 8)) ((L 9)) b_staff.1, xI cy ((L 6)) 8 b_staff.2.1, xI cy ((L 7)) 8 b_staff.2.2.1, xI cy ((L 8)) 8 b_staff.2.2.2.1, xI cy ((L 9)) 8 b_staff.2.2.2.2, xI cy ((L 48)) 5 b_refusals]) C hw hr hQ dX7_keeperOf_91
    · replace hf := if_f q4 hf
      exact J20 b_refusals _ _ _ hf hw (lv_sub hl [0] rfl)
def zf_X5_alarm  (b_this : TTe) : Option (Int32) := some (((b_this.1 / (3 : Int32)) + b_this.2.2.1))
abbrev zr_X5_alarm : Room := { frames := 0, cells := 0, slots := 0, locals := 0 }
set_option maxHeartbeats 4000000 in
set_option maxRecDepth 100000 in
theorem c_X5_alarm (l : Launch) (G : va_G) (cy : Nat → ClassId) (tt : Nat → Nat) (a0 : Nat)  (b_this : TTe) (res : Int32) (hf : zf_X5_alarm b_this = some res) : zCT l yX5_alarm cX5_alarm 1 (some .int) zr_X5_alarm G cy tt [.ref a0] [xTe a0 b_this] (some (.int res)) [xTe a0 b_this] := by
  refine zk_start zn_X5 (Nat.le_of_ble_eq_true rfl) ?_
  intro p e s m args below meth c A ls Q C hr hQ hw hl
  have C : zCx p m c s args meth cX5_alarm 1 RX5 G cy tt A := C
  have hx := C.1.1
  have hb := C.1.2.1
  have hl : lv_has ls 1 [(0, .ref a0)] := hl
  rw [zf_X5_alarm] at hf
  refine lv_aload_n (pc := 0) hx hb dX5_alarm_0 rfl (lv_at hl 0 rfl) ?_
  refine zk_gt (pc := 1) C hw zl_X5_9 0 rfl rfl dX5_alarm_1 ?_
  refine lv_iconst (pc := 4) (v := 3) hx hb dX5_alarm_4 (by decide) ?_
  refine lv_idiv (pc := 5) hx hb dX5_alarm_5 (by decide) ?_
  refine lv_aload_n (pc := 6) hx hb dX5_alarm_6 rfl (lv_at hl 0 rfl) ?_
  refine zk_gt (pc := 7) C hw zl_X5_18 0 rfl rfl dX5_alarm_7 ?_
  refine lv_iadd (pc := 10) hx hb dX5_alarm_10 ?_
  have hf := Option.some.inj hf
  subst hf
  exact zk_reti (pc := 11) (ww := [xTe a0 b_this]) C hw hr hQ dX5_alarm_11
def zf_X7_fright  (b_now : TTe) : Option (Int32) := (Option.bind (zf_X5_alarm b_now) (fun u1 => some (u1)))
abbrev zr_X7_fright : Room := { frames := 1, cells := 0, slots := 0, locals := 20 }
set_option maxHeartbeats 4000000 in
set_option maxRecDepth 100000 in
theorem c_X7_fright (l : Launch) (G : va_G) (cy : Nat → ClassId) (tt : Nat → Nat) (L : Nat → Nat) (b_seedNow : Int32) (b_keptSeed : Int32) (b_isKept : Bool)  (b_now : TTe) (res : Int32) (hf : zf_X7_fright b_now = some res) : zCT l yX7_fright cX7_fright 1 (some .int) zr_X7_fright G cy tt [.ref ((L 0))] [xU L b_seedNow b_keptSeed b_isKept, xTe ((L 1)) b_now] (some (.int res)) [xU L b_seedNow b_keptSeed b_isKept, xTe ((L 1)) b_now] := by
  refine zk_start zn_X7 (Nat.le_of_ble_eq_true rfl) ?_
  intro p e s m args below meth c A ls Q C hr hQ hw hl
  have C : zCx p m c s args meth cX7_fright 1 RX7 G cy tt A := C
  have hx := C.1.1
  have hb := C.1.2.1
  have hl : lv_has ls 1 [(0, .ref ((L 0)))] := hl
  rw [zf_X7_fright] at hf
  refine lv_aload_n (pc := 0) hx hb dX7_fright_0 rfl (lv_at hl 0 rfl) ?_
  refine zk_gt (pc := 1) C hw zl_X7_10 0 rfl rfl dX7_fright_1 ?_
  obtain ⟨u1, u1e, hf⟩ := bd hf
  refine zk_cV (pc := 4) (ci := 5) (q0 := 1) (rest := []) (st1 := [.int u1]) (w' := [xU L b_seedNow b_keptSeed b_isKept, xTe ((L 1)) b_now]) (mk := [none, none]) C hw (c_X5_alarm l G cy tt ((L 1)) b_now _ u1e) zy_X5_alarm zm_X7_210 rfl rfl rfl [1] rfl rfl rfl rfl rfl rfl rfl rfl hl.1 ⟨rfl, rfl⟩ ⟨Nat.le_of_ble_eq_true rfl, Nat.le_of_ble_eq_true rfl⟩ rfl (Nat.le_of_ble_eq_true rfl) ⟨Nat.zero_le _, Nat.zero_le _⟩ dX7_fright_4 (fun H locs hw => ?_)
  have hf := Option.some.inj hf
  subst hf
  exact zk_reti (pc := 7) (ww := [xU L b_seedNow b_keptSeed b_isKept, xTe ((L 1)) b_now]) C hw hr hQ dX7_fright_7
def zf_X2_remains_126 (b_this : TSt) (b_p2 : TTe) (v1 : Int32) (v3 : Int32) : Option (Bool) := (if ix v1 8 then (if (b_this.2.2.2.1 v1.toNatClampNeg) < v3 then some (false) else some (true)) else none)
def zf_X2_remains (x1 : Int32) (b_this : TSt) (b_p2 : TTe) : Option (Bool) := (Option.bind (zf_X2_has x1 b_this) (fun u1 => (if u1 then (Option.bind (zf_X5_alarm b_p2) (fun u3 => (if ix x1 8 then (if (b_this.2.1 x1.toNatClampNeg) = 1 then (if ix x1 8 then (if ix x1 8 then (if ((b_this.2.2.2.1 x1.toNatClampNeg) + (b_this.2.2.1 x1.toNatClampNeg)) < u3 then some (false) else some (true)) else none) else none) else (if (b_this.2.1 x1.toNatClampNeg) = 2 then zf_X2_remains_126 b_this b_p2 x1 u3 else (if (b_this.2.1 x1.toNatClampNeg) = 3 then some (true) else (if (b_this.2.1 x1.toNatClampNeg) = 4 then (if ix x1 8 then (if ((2 : Int32) * (b_this.2.2.2.1 x1.toNatClampNeg)) < u3 then some (false) else some (true)) else none) else (if (b_this.2.1 x1.toNatClampNeg) = 5 then (if ix x1 8 then (if (b_this.2.2.2.1 x1.toNatClampNeg) < u3 then some (false) else (if b_p2.2.2.2.1 ≤ b_p2.1 then some (false) else some (true))) else none) else zf_X2_remains_126 b_this b_p2 x1 u3))))) else none))) else some (false))))
abbrev zr_X2_remains : Room := { frames := 1, cells := 0, slots := 0, locals := 21 }
set_option maxHeartbeats 4000000 in
set_option maxRecDepth 100000 in
theorem c_X2_remains (l : Launch) (G : va_G) (cy : Nat → ClassId) (tt : Nat → Nat) (a0 a1 a2 a3 a4 : Nat) (p2_0 : Nat) (x1 : Int32) (b_this : TSt) (b_p2 : TTe) (res : Bool) (hf : zf_X2_remains x1 b_this b_p2 = some res) : zCT l yX2_remains cX2_remains 4 (some .boolean) zr_X2_remains G cy tt [.ref a0, .int x1, .ref p2_0] [xSt a0 a1 a2 a3 a4 b_this.1, xI cy a1 8 b_this.2.1, xI cy a2 8 b_this.2.2.1, xI cy a3 8 b_this.2.2.2.1, xI cy a4 8 b_this.2.2.2.2, xTe p2_0 b_p2] (some (.int (bI res))) [xSt a0 a1 a2 a3 a4 b_this.1, xI cy a1 8 b_this.2.1, xI cy a2 8 b_this.2.2.1, xI cy a3 8 b_this.2.2.2.1, xI cy a4 8 b_this.2.2.2.2, xTe p2_0 b_p2] := by
  refine zk_start zn_X2 (Nat.le_of_ble_eq_true rfl) ?_
  intro p e s m args below meth c A ls Q C hr hQ hw hl
  have C : zCx p m c s args meth cX2_remains 4 RX2 G cy tt A := C
  have hx := C.1.1
  have hb := C.1.2.1
  have hl : lv_has ls 4 [(0, .ref a0), (1, .int x1), (2, .ref p2_0)] := hl
  have J126 : ∀ (v1 : Int32) (v3 : Int32) (H : Heap) (locs : List Loc) (ls : Array Slot), zf_X2_remains_126 b_this b_p2 v1 v3 = some res → zWd G A s.heap H locs [xSt a0 a1 a2 a3 a4 b_this.1, xI cy a1 8 b_this.2.1, xI cy a2 8 b_this.2.2.1, xI cy a3 8 b_this.2.2.2.1, xI cy a4 8 b_this.2.2.2.2, xTe p2_0 b_p2] → lv_has ls 4 [(0, .ref a0), (1, .int v1), (3, .int v3)] → W p l e zr_X2_remains s m args below meth c H locs 0 0 Q (F0 m 126 ls []) := by
    intro v1 v3 H locs ls hf hw hl
    rw [zf_X2_remains_126] at hf
    refine lv_aload_n (pc := 126) hx hb dX2_remains_126 rfl (lv_at hl 0 rfl) ?_
    refine zk_gt (pc := 127) C hw zl_X2_22 0 rfl rfl dX2_remains_127 ?_
    refine lv_iload_n (pc := 130) hx hb dX2_remains_130 rfl (lv_at hl 1 rfl) ?_
    obtain ⟨q18, hf⟩ := ck hf
    refine zk_iald (pc := 131) C hw 3 rfl q18 dX2_remains_131 ?_
    refine lv_iload_n (pc := 132) hx hb dX2_remains_132 rfl (lv_at hl 2 rfl) ?_
    refine lv_icmp_lt (pc := 133) (tgt := 140) hx hb dX2_remains_133 (by decide) (fun q19 => ?_) (fun q19 => ?_)
    · replace hf := if_t q19 hf
      refine lv_iconst (pc := 140) (v := 0) hx hb dX2_remains_140 (by decide) ?_
      have hf := Option.some.inj hf
      subst hf
      exact zk_retz (pc := 141) (b := false) (ww := [xSt a0 a1 a2 a3 a4 b_this.1, xI cy a1 8 b_this.2.1, xI cy a2 8 b_this.2.2.1, xI cy a3 8 b_this.2.2.2.1, xI cy a4 8 b_this.2.2.2.2, xTe p2_0 b_p2]) C hw hr hQ dX2_remains_141
    · replace hf := if_f q19 hf
      refine lv_iconst (pc := 136) (v := 1) hx hb dX2_remains_136 (by decide) ?_
      refine lv_goto (pc := 137) (tgt := 141) hx hb dX2_remains_137 (by decide) ?_
      have hf := Option.some.inj hf
      subst hf
      exact zk_retz (pc := 141) (b := true) (ww := [xSt a0 a1 a2 a3 a4 b_this.1, xI cy a1 8 b_this.2.1, xI cy a2 8 b_this.2.2.1, xI cy a3 8 b_this.2.2.2.1, xI cy a4 8 b_this.2.2.2.2, xTe p2_0 b_p2]) C hw hr hQ dX2_remains_141
  rw [zf_X2_remains] at hf
  refine lv_aload_n (pc := 0) hx hb dX2_remains_0 rfl (lv_at hl 0 rfl) ?_
  refine lv_iload_n (pc := 1) hx hb dX2_remains_1 rfl (lv_at hl 1 rfl) ?_
  obtain ⟨u1, u1e, hf⟩ := bd hf
  refine zk_cV (pc := 2) (ci := 2) (q0 := 0) (rest := []) (st1 := [.int (bI u1)]) (w' := [xSt a0 a1 a2 a3 a4 b_this.1, xI cy a1 8 b_this.2.1, xI cy a2 8 b_this.2.2.1, xI cy a3 8 b_this.2.2.2.1, xI cy a4 8 b_this.2.2.2.2, xTe p2_0 b_p2]) (mk := [none, none, none, none, none, none]) C hw (c_X2_has l G cy tt a0 a1 a2 a3 a4 x1 b_this _ u1e) zy_X2_has zm_X2_28 rfl rfl rfl [0, 1, 2, 3, 4] rfl rfl rfl rfl rfl rfl rfl rfl hl.1 ⟨rfl, rfl⟩ ⟨Nat.le_of_ble_eq_true rfl, Nat.le_of_ble_eq_true rfl⟩ rfl (Nat.le_of_ble_eq_true rfl) ⟨Nat.zero_le _, Nat.zero_le _⟩ dX2_remains_2 (fun H locs hw => ?_)
  refine zk_ifnz (pc := 5) (tgt := 10) hx hb dX2_remains_5 (by decide) (fun q2 => ?_) (fun q2 => ?_)
  · replace hf := if_t q2 hf
    refine lv_aload_n (pc := 10) hx hb dX2_remains_10 rfl (lv_at hl 2 rfl) ?_
    obtain ⟨u3, u3e, hf⟩ := bd hf
    refine zk_cV (pc := 11) (ci := 5) (q0 := 5) (rest := []) (st1 := [.int u3]) (w' := [xSt a0 a1 a2 a3 a4 b_this.1, xI cy a1 8 b_this.2.1, xI cy a2 8 b_this.2.2.1, xI cy a3 8 b_this.2.2.2.1, xI cy a4 8 b_this.2.2.2.2, xTe p2_0 b_p2]) (mk := [none, none, none, none, none, none]) C hw (c_X5_alarm l G cy tt p2_0 b_p2 _ u3e) zy_X5_alarm zm_X2_36 rfl rfl rfl [5] rfl rfl rfl rfl rfl rfl rfl rfl hl.1 ⟨rfl, rfl⟩ ⟨Nat.le_of_ble_eq_true rfl, Nat.le_of_ble_eq_true rfl⟩ rfl (Nat.le_of_ble_eq_true rfl) ⟨Nat.zero_le _, Nat.zero_le _⟩ dX2_remains_11 (fun H locs hw => ?_)
    refine lv_istore_n (pc := 14) (lv' := [(3, .int u3), (0, .ref a0), (1, .int x1), (2, .ref p2_0)]) hx hb dX2_remains_14 rfl hl (by decide) rfl (fun ls hl => ?_)
    refine lv_aload_n (pc := 15) hx hb dX2_remains_15 rfl (lv_at hl 1 rfl) ?_
    refine zk_gt (pc := 16) C hw zl_X2_15 0 rfl rfl dX2_remains_16 ?_
    refine lv_iload_n (pc := 19) hx hb dX2_remains_19 rfl (lv_at hl 2 rfl) ?_
    obtain ⟨q4, hf⟩ := ck hf
    refine zk_iald (pc := 20) C hw 1 rfl q4 dX2_remains_20 ?_
    by_cases q5 : (b_this.2.1 x1.toNatClampNeg) = (1 : Int32)
    · replace hf := if_t q5 hf
      refine zk_tabIn (pc := 21) (off := 35) (tgt := 56) q5 C dX2_remains_21 (by decide) (by decide) (by decide +kernel) (by decide) ?_
      refine lv_aload_n (pc := 56) hx hb dX2_remains_56 rfl (lv_at hl 1 rfl) ?_
      refine zk_gt (pc := 57) C hw zl_X2_22 0 rfl rfl dX2_remains_57 ?_
      refine lv_iload_n (pc := 60) hx hb dX2_remains_60 rfl (lv_at hl 2 rfl) ?_
      obtain ⟨q6, hf⟩ := ck hf
      refine zk_iald (pc := 61) C hw 3 rfl q6 dX2_remains_61 ?_
      refine lv_aload_n (pc := 62) hx hb dX2_remains_62 rfl (lv_at hl 1 rfl) ?_
      refine zk_gt (pc := 63) C hw zl_X2_19 0 rfl rfl dX2_remains_63 ?_
      refine lv_iload_n (pc := 66) hx hb dX2_remains_66 rfl (lv_at hl 2 rfl) ?_
      obtain ⟨q7, hf⟩ := ck hf
      refine zk_iald (pc := 67) C hw 2 rfl q7 dX2_remains_67 ?_
      refine lv_iadd (pc := 68) hx hb dX2_remains_68 ?_
      refine lv_iload_n (pc := 69) hx hb dX2_remains_69 rfl (lv_at hl 0 rfl) ?_
      refine lv_icmp_lt (pc := 70) (tgt := 77) hx hb dX2_remains_70 (by decide) (fun q8 => ?_) (fun q8 => ?_)
      · replace hf := if_t q8 hf
        refine lv_iconst (pc := 77) (v := 0) hx hb dX2_remains_77 (by decide) ?_
        have hf := Option.some.inj hf
        subst hf
        exact zk_retz (pc := 78) (b := false) (ww := [xSt a0 a1 a2 a3 a4 b_this.1, xI cy a1 8 b_this.2.1, xI cy a2 8 b_this.2.2.1, xI cy a3 8 b_this.2.2.2.1, xI cy a4 8 b_this.2.2.2.2, xTe p2_0 b_p2]) C hw hr hQ dX2_remains_78
      · replace hf := if_f q8 hf
        refine lv_iconst (pc := 73) (v := 1) hx hb dX2_remains_73 (by decide) ?_
        refine lv_goto (pc := 74) (tgt := 78) hx hb dX2_remains_74 (by decide) ?_
        have hf := Option.some.inj hf
        subst hf
        exact zk_retz (pc := 78) (b := true) (ww := [xSt a0 a1 a2 a3 a4 b_this.1, xI cy a1 8 b_this.2.1, xI cy a2 8 b_this.2.2.1, xI cy a3 8 b_this.2.2.2.1, xI cy a4 8 b_this.2.2.2.2, xTe p2_0 b_p2]) C hw hr hQ dX2_remains_78
    · replace hf := if_f q5 hf
      by_cases q9 : (b_this.2.1 x1.toNatClampNeg) = (2 : Int32)
      · replace hf := if_t q9 hf
        refine zk_tabIn (pc := 21) (off := 105) (tgt := 126) q9 C dX2_remains_21 (by decide) (by decide) (by decide +kernel) (by decide) ?_
        exact J126 x1 u3 _ _ _ hf hw (lv_sub hl [1, 2, 0] rfl)
      · replace hf := if_f q9 hf
        by_cases q10 : (b_this.2.1 x1.toNatClampNeg) = (3 : Int32)
        · replace hf := if_t q10 hf
          refine zk_tabIn (pc := 21) (off := 58) (tgt := 79) q10 C dX2_remains_21 (by decide) (by decide) (by decide +kernel) (by decide) ?_
          refine lv_iconst (pc := 79) (v := 1) hx hb dX2_remains_79 (by decide) ?_
          have hf := Option.some.inj hf
          subst hf
          exact zk_retz (pc := 80) (b := true) (ww := [xSt a0 a1 a2 a3 a4 b_this.1, xI cy a1 8 b_this.2.1, xI cy a2 8 b_this.2.2.1, xI cy a3 8 b_this.2.2.2.1, xI cy a4 8 b_this.2.2.2.2, xTe p2_0 b_p2]) C hw hr hQ dX2_remains_80
        · replace hf := if_f q10 hf
          by_cases q11 : (b_this.2.1 x1.toNatClampNeg) = (4 : Int32)
          · replace hf := if_t q11 hf
            refine zk_tabIn (pc := 21) (off := 60) (tgt := 81) q11 C dX2_remains_21 (by decide) (by decide) (by decide +kernel) (by decide) ?_
            refine lv_iconst (pc := 81) (v := 2) hx hb dX2_remains_81 (by decide) ?_
            refine lv_aload_n (pc := 82) hx hb dX2_remains_82 rfl (lv_at hl 1 rfl) ?_
            refine zk_gt (pc := 83) C hw zl_X2_22 0 rfl rfl dX2_remains_83 ?_
            refine lv_iload_n (pc := 86) hx hb dX2_remains_86 rfl (lv_at hl 2 rfl) ?_
            obtain ⟨q12, hf⟩ := ck hf
            refine zk_iald (pc := 87) C hw 3 rfl q12 dX2_remains_87 ?_
            refine lv_imul (pc := 88) hx hb dX2_remains_88 ?_
            refine lv_iload_n (pc := 89) hx hb dX2_remains_89 rfl (lv_at hl 0 rfl) ?_
            refine lv_icmp_lt (pc := 90) (tgt := 97) hx hb dX2_remains_90 (by decide) (fun q13 => ?_) (fun q13 => ?_)
            · replace hf := if_t q13 hf
              refine lv_iconst (pc := 97) (v := 0) hx hb dX2_remains_97 (by decide) ?_
              have hf := Option.some.inj hf
              subst hf
              exact zk_retz (pc := 98) (b := false) (ww := [xSt a0 a1 a2 a3 a4 b_this.1, xI cy a1 8 b_this.2.1, xI cy a2 8 b_this.2.2.1, xI cy a3 8 b_this.2.2.2.1, xI cy a4 8 b_this.2.2.2.2, xTe p2_0 b_p2]) C hw hr hQ dX2_remains_98
            · replace hf := if_f q13 hf
              refine lv_iconst (pc := 93) (v := 1) hx hb dX2_remains_93 (by decide) ?_
              refine lv_goto (pc := 94) (tgt := 98) hx hb dX2_remains_94 (by decide) ?_
              have hf := Option.some.inj hf
              subst hf
              exact zk_retz (pc := 98) (b := true) (ww := [xSt a0 a1 a2 a3 a4 b_this.1, xI cy a1 8 b_this.2.1, xI cy a2 8 b_this.2.2.1, xI cy a3 8 b_this.2.2.2.1, xI cy a4 8 b_this.2.2.2.2, xTe p2_0 b_p2]) C hw hr hQ dX2_remains_98
          · replace hf := if_f q11 hf
            by_cases q14 : (b_this.2.1 x1.toNatClampNeg) = (5 : Int32)
            · replace hf := if_t q14 hf
              refine zk_tabIn (pc := 21) (off := 78) (tgt := 99) q14 C dX2_remains_21 (by decide) (by decide) (by decide +kernel) (by decide) ?_
              refine lv_aload_n (pc := 99) hx hb dX2_remains_99 rfl (lv_at hl 1 rfl) ?_
              refine zk_gt (pc := 100) C hw zl_X2_22 0 rfl rfl dX2_remains_100 ?_
              refine lv_iload_n (pc := 103) hx hb dX2_remains_103 rfl (lv_at hl 2 rfl) ?_
              obtain ⟨q15, hf⟩ := ck hf
              refine zk_iald (pc := 104) C hw 3 rfl q15 dX2_remains_104 ?_
              refine lv_iload_n (pc := 105) hx hb dX2_remains_105 rfl (lv_at hl 0 rfl) ?_
              refine lv_icmp_lt (pc := 106) (tgt := 124) hx hb dX2_remains_106 (by decide) (fun q16 => ?_) (fun q16 => ?_)
              · replace hf := if_t q16 hf
                refine lv_iconst (pc := 124) (v := 0) hx hb dX2_remains_124 (by decide) ?_
                have hf := Option.some.inj hf
                subst hf
                exact zk_retz (pc := 125) (b := false) (ww := [xSt a0 a1 a2 a3 a4 b_this.1, xI cy a1 8 b_this.2.1, xI cy a2 8 b_this.2.2.1, xI cy a3 8 b_this.2.2.2.1, xI cy a4 8 b_this.2.2.2.2, xTe p2_0 b_p2]) C hw hr hQ dX2_remains_125
              · replace hf := if_f q16 hf
                refine lv_aload_n (pc := 109) hx hb dX2_remains_109 rfl (lv_at hl 3 rfl) ?_
                refine zk_gt (pc := 110) C hw zl_X2_42 5 rfl rfl dX2_remains_110 ?_
                refine lv_aload_n (pc := 113) hx hb dX2_remains_113 rfl (lv_at hl 3 rfl) ?_
                refine zk_gt (pc := 114) C hw zl_X2_45 5 rfl rfl dX2_remains_114 ?_
                refine lv_icmp_ge (pc := 117) (tgt := 124) hx hb dX2_remains_117 (by decide) (fun q17 => ?_) (fun q17 => ?_)
                · replace hf := if_t q17 hf
                  refine lv_iconst (pc := 124) (v := 0) hx hb dX2_remains_124 (by decide) ?_
                  have hf := Option.some.inj hf
                  subst hf
                  exact zk_retz (pc := 125) (b := false) (ww := [xSt a0 a1 a2 a3 a4 b_this.1, xI cy a1 8 b_this.2.1, xI cy a2 8 b_this.2.2.1, xI cy a3 8 b_this.2.2.2.1, xI cy a4 8 b_this.2.2.2.2, xTe p2_0 b_p2]) C hw hr hQ dX2_remains_125
                · replace hf := if_f q17 hf
                  refine lv_iconst (pc := 120) (v := 1) hx hb dX2_remains_120 (by decide) ?_
                  refine lv_goto (pc := 121) (tgt := 125) hx hb dX2_remains_121 (by decide) ?_
                  have hf := Option.some.inj hf
                  subst hf
                  exact zk_retz (pc := 125) (b := true) (ww := [xSt a0 a1 a2 a3 a4 b_this.1, xI cy a1 8 b_this.2.1, xI cy a2 8 b_this.2.2.1, xI cy a3 8 b_this.2.2.2.1, xI cy a4 8 b_this.2.2.2.2, xTe p2_0 b_p2]) C hw hr hQ dX2_remains_125
            · replace hf := if_f q14 hf
              have eq5 := i32_ne (n := 1) (by decide) q5
              have eq9 := i32_ne (n := 2) (by decide) q9
              have eq10 := i32_ne (n := 3) (by decide) q10
              have eq11 := i32_ne (n := 4) (by decide) q11
              have eq14 := i32_ne (n := 5) (by decide) q14
              refine lv_tableOut (pc := 21) (tgt := 126) hx hb dX2_remains_21 (by omega) (by decide) ?_
              exact J126 x1 u3 _ _ _ hf hw (lv_sub hl [1, 2, 0] rfl)
  · replace hf := if_f q2 hf
    refine lv_iconst (pc := 8) (v := 0) hx hb dX2_remains_8 (by decide) ?_
    have hf := Option.some.inj hf
    subst hf
    exact zk_retz (pc := 9) (b := false) (ww := [xSt a0 a1 a2 a3 a4 b_this.1, xI cy a1 8 b_this.2.1, xI cy a2 8 b_this.2.2.1, xI cy a3 8 b_this.2.2.2.1, xI cy a4 8 b_this.2.2.2.2, xTe p2_0 b_p2]) C hw hr hQ dX2_remains_9
def zf_X7_stays (x1 : Int32) (b_now : TTe) (b_staff : TSt) (b_refusals : Nat → Int32) : Option (Int32 × (Nat → Int32)) := (Option.bind (zf_X2_has x1 b_staff) (fun u1 => (if u1 then (Option.bind (zf_X2_remains x1 b_staff b_now) (fun u3 => (if u3 then some ((1 : Int32), b_refusals) else some ((0 : Int32), b_refusals)))) else (Option.bind (zf_X7_refused (((-2 : Int32))) b_refusals) (fun u5 => some (u5.1, u5.2))))))
abbrev zr_X7_stays : Room := { frames := 2, cells := 0, slots := 0, locals := 44 }
set_option maxHeartbeats 4000000 in
set_option maxRecDepth 100000 in
theorem c_X7_stays (l : Launch) (G : va_G) (cy : Nat → ClassId) (tt : Nat → Nat) (L : Nat → Nat) (b_seedNow : Int32) (b_keptSeed : Int32) (b_isKept : Bool) (x1 : Int32) (b_now : TTe) (b_staff : TSt) (b_refusals : Nat → Int32) (res : Int32 × (Nat → Int32)) (hf : zf_X7_stays x1 b_now b_staff b_refusals = some res) : zCT l yX7_stays cX7_stays 2 (some .int) zr_X7_stays G cy tt [.ref ((L 0)), .int x1] [xU L b_seedNow b_keptSeed b_isKept, xTe ((L 1)) b_now, xSt ((L 5)) ((L 6)) ((L 7)) ((L 8)) ((L 9)) b_staff.1, xI cy ((L 6)) 8 b_staff.2.1, xI cy ((L 7)) 8 b_staff.2.2.1, xI cy ((L 8)) 8 b_staff.2.2.2.1, xI cy ((L 9)) 8 b_staff.2.2.2.2, xI cy ((L 48)) 5 b_refusals] (some (.int res.1)) [xU L b_seedNow b_keptSeed b_isKept, xTe ((L 1)) b_now, xSt ((L 5)) ((L 6)) ((L 7)) ((L 8)) ((L 9)) b_staff.1, xI cy ((L 6)) 8 b_staff.2.1, xI cy ((L 7)) 8 b_staff.2.2.1, xI cy ((L 8)) 8 b_staff.2.2.2.1, xI cy ((L 9)) 8 b_staff.2.2.2.2, xI cy ((L 48)) 5 res.2] := by
  refine zk_start zn_X7 (Nat.le_of_ble_eq_true rfl) ?_
  intro p e s m args below meth c A ls Q C hr hQ hw hl
  have C : zCx p m c s args meth cX7_stays 2 RX7 G cy tt A := C
  have hx := C.1.1
  have hb := C.1.2.1
  have hl : lv_has ls 2 [(0, .ref ((L 0))), (1, .int x1)] := hl
  rw [zf_X7_stays] at hf
  refine lv_aload_n (pc := 0) hx hb dX7_stays_0 rfl (lv_at hl 0 rfl) ?_
  refine zk_gt (pc := 1) C hw zl_X7_28 0 rfl rfl dX7_stays_1 ?_
  refine lv_iload_n (pc := 4) hx hb dX7_stays_4 rfl (lv_at hl 1 rfl) ?_
  obtain ⟨u1, u1e, hf⟩ := bd hf
  refine zk_cV (pc := 5) (ci := 2) (q0 := 2) (rest := []) (st1 := [.int (bI u1)]) (w' := [xU L b_seedNow b_keptSeed b_isKept, xTe ((L 1)) b_now, xSt ((L 5)) ((L 6)) ((L 7)) ((L 8)) ((L 9)) b_staff.1, xI cy ((L 6)) 8 b_staff.2.1, xI cy ((L 7)) 8 b_staff.2.2.1, xI cy ((L 8)) 8 b_staff.2.2.2.1, xI cy ((L 9)) 8 b_staff.2.2.2.2, xI cy ((L 48)) 5 b_refusals]) (mk := [none, none, none, none, none, none, none, none]) C hw (c_X2_has l G cy tt ((L 5)) ((L 6)) ((L 7)) ((L 8)) ((L 9)) x1 b_staff _ u1e) zy_X2_has zm_X7_146 rfl rfl rfl [2, 3, 4, 5, 6] rfl rfl rfl rfl rfl rfl rfl rfl hl.1 ⟨rfl, rfl⟩ ⟨Nat.le_of_ble_eq_true rfl, Nat.le_of_ble_eq_true rfl⟩ rfl (Nat.le_of_ble_eq_true rfl) ⟨Nat.zero_le _, Nat.zero_le _⟩ dX7_stays_5 (fun H locs hw => ?_)
  refine zk_ifnz (pc := 8) (tgt := 18) hx hb dX7_stays_8 (by decide) (fun q2 => ?_) (fun q2 => ?_)
  · replace hf := if_t q2 hf
    refine lv_aload_n (pc := 18) hx hb dX7_stays_18 rfl (lv_at hl 0 rfl) ?_
    refine zk_gt (pc := 19) C hw zl_X7_28 0 rfl rfl dX7_stays_19 ?_
    refine lv_iload_n (pc := 22) hx hb dX7_stays_22 rfl (lv_at hl 1 rfl) ?_
    refine lv_aload_n (pc := 23) hx hb dX7_stays_23 rfl (lv_at hl 0 rfl) ?_
    refine zk_gt (pc := 24) C hw zl_X7_10 0 rfl rfl dX7_stays_24 ?_
    obtain ⟨u3, u3e, hf⟩ := bd hf
    refine zk_cV (pc := 27) (ci := 2) (q0 := 2) (rest := []) (st1 := [.int (bI u3)]) (w' := [xU L b_seedNow b_keptSeed b_isKept, xTe ((L 1)) b_now, xSt ((L 5)) ((L 6)) ((L 7)) ((L 8)) ((L 9)) b_staff.1, xI cy ((L 6)) 8 b_staff.2.1, xI cy ((L 7)) 8 b_staff.2.2.1, xI cy ((L 8)) 8 b_staff.2.2.2.1, xI cy ((L 9)) 8 b_staff.2.2.2.2, xI cy ((L 48)) 5 b_refusals]) (mk := [none, none, none, none, none, none, none, none]) C hw (c_X2_remains l G cy tt ((L 5)) ((L 6)) ((L 7)) ((L 8)) ((L 9)) ((L 1)) x1 b_staff b_now _ u3e) zy_X2_remains zm_X7_213 rfl rfl rfl [2, 3, 4, 5, 6, 1] rfl rfl rfl rfl rfl rfl rfl rfl hl.1 ⟨rfl, rfl⟩ ⟨Nat.le_of_ble_eq_true rfl, Nat.le_of_ble_eq_true rfl⟩ rfl (Nat.le_of_ble_eq_true rfl) ⟨Nat.zero_le _, Nat.zero_le _⟩ dX7_stays_27 (fun H locs hw => ?_)
    refine zk_ifz (pc := 30) (tgt := 37) hx hb dX7_stays_30 (by decide) (fun q4 => ?_) (fun q4 => ?_)
    · replace hf := if_f q4 hf
      refine lv_iconst (pc := 37) (v := 0) hx hb dX7_stays_37 (by decide) ?_
      have hf := Option.some.inj hf
      subst hf
      exact zk_reti (pc := 38) (ww := [xU L b_seedNow b_keptSeed b_isKept, xTe ((L 1)) b_now, xSt ((L 5)) ((L 6)) ((L 7)) ((L 8)) ((L 9)) b_staff.1, xI cy ((L 6)) 8 b_staff.2.1, xI cy ((L 7)) 8 b_staff.2.2.1, xI cy ((L 8)) 8 b_staff.2.2.2.1, xI cy ((L 9)) 8 b_staff.2.2.2.2, xI cy ((L 48)) 5 b_refusals]) C hw hr hQ dX7_stays_38
    · replace hf := if_t q4 hf
      refine lv_iconst (pc := 33) (v := 1) hx hb dX7_stays_33 (by decide) ?_
      refine lv_goto (pc := 34) (tgt := 38) hx hb dX7_stays_34 (by decide) ?_
      have hf := Option.some.inj hf
      subst hf
      exact zk_reti (pc := 38) (ww := [xU L b_seedNow b_keptSeed b_isKept, xTe ((L 1)) b_now, xSt ((L 5)) ((L 6)) ((L 7)) ((L 8)) ((L 9)) b_staff.1, xI cy ((L 6)) 8 b_staff.2.1, xI cy ((L 7)) 8 b_staff.2.2.1, xI cy ((L 8)) 8 b_staff.2.2.2.1, xI cy ((L 9)) 8 b_staff.2.2.2.2, xI cy ((L 48)) 5 b_refusals]) C hw hr hQ dX7_stays_38
  · replace hf := if_f q2 hf
    refine lv_aload_n (pc := 11) hx hb dX7_stays_11 rfl (lv_at hl 0 rfl) ?_
    refine lv_bipush (pc := 12) (v := -2) hx hb dX7_stays_12 (by decide) ?_
    obtain ⟨u5, u5e, hf⟩ := bd hf
    refine zk_cV (pc := 14) (ci := 7) (q0 := 0) (rest := []) (st1 := [.int u5.1]) (w' := [xU L b_seedNow b_keptSeed b_isKept, xTe ((L 1)) b_now, xSt ((L 5)) ((L 6)) ((L 7)) ((L 8)) ((L 9)) b_staff.1, xI cy ((L 6)) 8 b_staff.2.1, xI cy ((L 7)) 8 b_staff.2.2.1, xI cy ((L 8)) 8 b_staff.2.2.2.1, xI cy ((L 9)) 8 b_staff.2.2.2.2, xI cy ((L 48)) 5 u5.2]) (mk := [none, none, none, none, none, none, none, some (xI cy ((L 48)) 5 u5.2)]) C hw (c_X7_refused l G cy tt L b_seedNow b_keptSeed b_isKept (((-2 : Int32))) b_refusals _ u5e) zy_X7_refused zm_X7_103 rfl rfl rfl [0, 7] rfl rfl rfl rfl rfl rfl rfl rfl hl.1 ⟨rfl, rfl⟩ ⟨Nat.le_of_ble_eq_true rfl, Nat.le_of_ble_eq_true rfl⟩ rfl (Nat.le_of_ble_eq_true rfl) ⟨Nat.zero_le _, Nat.zero_le _⟩ dX7_stays_14 (fun H locs hw => ?_)
    have hf := Option.some.inj hf
    subst hf
    exact zk_reti (pc := 17) (ww := [xU L b_seedNow b_keptSeed b_isKept, xTe ((L 1)) b_now, xSt ((L 5)) ((L 6)) ((L 7)) ((L 8)) ((L 9)) b_staff.1, xI cy ((L 6)) 8 b_staff.2.1, xI cy ((L 7)) 8 b_staff.2.2.1, xI cy ((L 8)) 8 b_staff.2.2.2.1, xI cy ((L 9)) 8 b_staff.2.2.2.2, xI cy ((L 48)) 5 u5.2]) C hw hr hQ dX7_stays_17
def zf_X2_bitsRemaining_27 (b_this : TSt) (b_p1 : TTe) (k4 : Int32 → Int32 → Option (Int32)) (v2 : Int32) (v3 : Int32) : Option (Int32) := k4 v2 ((v3 + 1))
def zf_X2_bitsRemaining_4 (b_this : TSt) (b_p1 : TTe) : Nat → Int32 → Int32 → Option (Int32)
  | 0, _, _ => none
  | n + 1, v2, v3 => (if b_this.1 ≤ v3 then some (v2) else (Option.bind (zf_X2_remains v3 b_this b_p1) (fun u2 => (if u2 then zf_X2_bitsRemaining_27 b_this b_p1 (zf_X2_bitsRemaining_4 b_this b_p1 n) ((v2 ||| ((1 : Int32) <<< (v3 &&& 31)))) v3 else zf_X2_bitsRemaining_27 b_this b_p1 (zf_X2_bitsRemaining_4 b_this b_p1 n) v2 v3))))
def zf_X2_bitsRemaining  (b_this : TSt) (b_p1 : TTe) : Option (Int32) := zf_X2_bitsRemaining_4 b_this b_p1 FU ((0 : Int32)) ((0 : Int32))
abbrev zr_X2_bitsRemaining : Room := { frames := 2, cells := 0, slots := 0, locals := 44 }
set_option maxHeartbeats 4000000 in
set_option maxRecDepth 100000 in
theorem c_X2_bitsRemaining (l : Launch) (G : va_G) (cy : Nat → ClassId) (tt : Nat → Nat) (a0 a1 a2 a3 a4 : Nat) (p1_0 : Nat)  (b_this : TSt) (b_p1 : TTe) (res : Int32) (hf : zf_X2_bitsRemaining b_this b_p1 = some res) : zCT l yX2_bitsRemaining cX2_bitsRemaining 4 (some .int) zr_X2_bitsRemaining G cy tt [.ref a0, .ref p1_0] [xSt a0 a1 a2 a3 a4 b_this.1, xI cy a1 8 b_this.2.1, xI cy a2 8 b_this.2.2.1, xI cy a3 8 b_this.2.2.2.1, xI cy a4 8 b_this.2.2.2.2, xTe p1_0 b_p1] (some (.int res)) [xSt a0 a1 a2 a3 a4 b_this.1, xI cy a1 8 b_this.2.1, xI cy a2 8 b_this.2.2.1, xI cy a3 8 b_this.2.2.2.1, xI cy a4 8 b_this.2.2.2.2, xTe p1_0 b_p1] := by
  refine zk_start zn_X2 (Nat.le_of_ble_eq_true rfl) ?_
  intro p e s m args below meth c A ls Q C hr hQ hw hl
  have C : zCx p m c s args meth cX2_bitsRemaining 4 RX2 G cy tt A := C
  have hx := C.1.1
  have hb := C.1.2.1
  have hl : lv_has ls 4 [(0, .ref a0), (1, .ref p1_0)] := hl
  have J27 : ∀ (k4 : Int32 → Int32 → Option (Int32)) (K4 : ∀ (v2 : Int32) (v3 : Int32) (H : Heap) (locs : List Loc) (ls : Array Slot), k4 v2 v3 = some res → zWd G A s.heap H locs [xSt a0 a1 a2 a3 a4 b_this.1, xI cy a1 8 b_this.2.1, xI cy a2 8 b_this.2.2.1, xI cy a3 8 b_this.2.2.2.1, xI cy a4 8 b_this.2.2.2.2, xTe p1_0 b_p1] → lv_has ls 4 [(0, .ref a0), (1, .ref p1_0), (2, .int v2), (3, .int v3)] → W p l e zr_X2_bitsRemaining s m args below meth c H locs 0 0 Q (F0 m 4 ls [])), ∀ (v2 : Int32) (v3 : Int32) (H : Heap) (locs : List Loc) (ls : Array Slot), zf_X2_bitsRemaining_27 b_this b_p1 k4 v2 v3 = some res → zWd G A s.heap H locs [xSt a0 a1 a2 a3 a4 b_this.1, xI cy a1 8 b_this.2.1, xI cy a2 8 b_this.2.2.1, xI cy a3 8 b_this.2.2.2.1, xI cy a4 8 b_this.2.2.2.2, xTe p1_0 b_p1] → lv_has ls 4 [(0, .ref a0), (1, .ref p1_0), (2, .int v2), (3, .int v3)] → W p l e zr_X2_bitsRemaining s m args below meth c H locs 0 0 Q (F0 m 27 ls []) := by
    intro k4 K4 v2 v3 H locs ls hf hw hl
    rw [zf_X2_bitsRemaining_27] at hf
    refine lv_iinc (pc := 27) (v := (v3 + 1)) (lv' := [(3, .int ((v3 + 1))), (0, .ref a0), (1, .ref p1_0), (2, .int v2)]) hx hb dX2_bitsRemaining_27 hl (k := 3) rfl rfl (by decide) rfl (fun ls hl => ?_)
    refine lv_goto (pc := 30) (tgt := 4) hx hb dX2_bitsRemaining_30 (by decide) ?_
    exact K4 v2 ((v3 + 1)) _ _ _ hf hw (lv_sub hl [1, 2, 3, 0] rfl)
  have J4 : ∀ (n : Nat), ∀ (v2 : Int32) (v3 : Int32) (H : Heap) (locs : List Loc) (ls : Array Slot), zf_X2_bitsRemaining_4 b_this b_p1 n v2 v3 = some res → zWd G A s.heap H locs [xSt a0 a1 a2 a3 a4 b_this.1, xI cy a1 8 b_this.2.1, xI cy a2 8 b_this.2.2.1, xI cy a3 8 b_this.2.2.2.1, xI cy a4 8 b_this.2.2.2.2, xTe p1_0 b_p1] → lv_has ls 4 [(0, .ref a0), (1, .ref p1_0), (2, .int v2), (3, .int v3)] → W p l e zr_X2_bitsRemaining s m args below meth c H locs 0 0 Q (F0 m 4 ls []) := by
    intro n
    induction n with
    | zero =>
      intro v2 v3 H locs ls hf hw hl
      rw [zf_X2_bitsRemaining_4] at hf
      cases hf
    | succ n ih =>
      intro v2 v3 H locs ls hf hw hl
      rw [zf_X2_bitsRemaining_4] at hf
      refine lv_iload_n (pc := 4) hx hb dX2_bitsRemaining_4 rfl (lv_at hl 3 rfl) ?_
      refine lv_aload_n (pc := 5) hx hb dX2_bitsRemaining_5 rfl (lv_at hl 0 rfl) ?_
      refine zk_gt (pc := 6) C hw zl_X2_9 0 rfl rfl dX2_bitsRemaining_6 ?_
      refine lv_icmp_ge (pc := 9) (tgt := 33) hx hb dX2_bitsRemaining_9 (by decide) (fun q1 => ?_) (fun q1 => ?_)
      · replace hf := if_t q1 hf
        refine lv_iload_n (pc := 33) hx hb dX2_bitsRemaining_33 rfl (lv_at hl 2 rfl) ?_
        have hf := Option.some.inj hf
        subst hf
        exact zk_reti (pc := 34) (ww := [xSt a0 a1 a2 a3 a4 b_this.1, xI cy a1 8 b_this.2.1, xI cy a2 8 b_this.2.2.1, xI cy a3 8 b_this.2.2.2.1, xI cy a4 8 b_this.2.2.2.2, xTe p1_0 b_p1]) C hw hr hQ dX2_bitsRemaining_34
      · replace hf := if_f q1 hf
        refine lv_aload_n (pc := 12) hx hb dX2_bitsRemaining_12 rfl (lv_at hl 0 rfl) ?_
        refine lv_iload_n (pc := 13) hx hb dX2_bitsRemaining_13 rfl (lv_at hl 3 rfl) ?_
        refine lv_aload_n (pc := 14) hx hb dX2_bitsRemaining_14 rfl (lv_at hl 1 rfl) ?_
        obtain ⟨u2, u2e, hf⟩ := bd hf
        refine zk_cV (pc := 15) (ci := 2) (q0 := 0) (rest := []) (st1 := [.int (bI u2)]) (w' := [xSt a0 a1 a2 a3 a4 b_this.1, xI cy a1 8 b_this.2.1, xI cy a2 8 b_this.2.2.1, xI cy a3 8 b_this.2.2.2.1, xI cy a4 8 b_this.2.2.2.2, xTe p1_0 b_p1]) (mk := [none, none, none, none, none, none]) C hw (c_X2_remains l G cy tt a0 a1 a2 a3 a4 p1_0 v3 b_this b_p1 _ u2e) zy_X2_remains zm_X2_48 rfl rfl rfl [0, 1, 2, 3, 4, 5] rfl rfl rfl rfl rfl rfl rfl rfl hl.1 ⟨rfl, rfl⟩ ⟨Nat.le_of_ble_eq_true rfl, Nat.le_of_ble_eq_true rfl⟩ rfl (Nat.le_of_ble_eq_true rfl) ⟨Nat.zero_le _, Nat.zero_le _⟩ dX2_bitsRemaining_15 (fun H locs hw => ?_)
        refine zk_ifz (pc := 18) (tgt := 27) hx hb dX2_bitsRemaining_18 (by decide) (fun q3 => ?_) (fun q3 => ?_)
        · replace hf := if_f q3 hf
          exact J27 (zf_X2_bitsRemaining_4 b_this b_p1 n) ih v2 v3 _ _ _ hf hw (lv_sub hl [0, 1, 2, 3] rfl)
        · replace hf := if_t q3 hf
          refine lv_iload_n (pc := 21) hx hb dX2_bitsRemaining_21 rfl (lv_at hl 2 rfl) ?_
          refine lv_iconst (pc := 22) (v := 1) hx hb dX2_bitsRemaining_22 (by decide) ?_
          refine lv_iload_n (pc := 23) hx hb dX2_bitsRemaining_23 rfl (lv_at hl 3 rfl) ?_
          refine lv_ishl (pc := 24) hx hb dX2_bitsRemaining_24 ?_
          refine lv_ior (pc := 25) hx hb dX2_bitsRemaining_25 ?_
          refine lv_istore_n (pc := 26) (lv' := [(2, .int ((v2 ||| ((1 : Int32) <<< (v3 &&& 31))))), (0, .ref a0), (1, .ref p1_0), (3, .int v3)]) hx hb dX2_bitsRemaining_26 rfl hl (by decide) rfl (fun ls hl => ?_)
          exact J27 (zf_X2_bitsRemaining_4 b_this b_p1 n) ih ((v2 ||| ((1 : Int32) <<< (v3 &&& 31)))) v3 _ _ _ hf hw (lv_sub hl [1, 2, 0, 3] rfl)
  rw [zf_X2_bitsRemaining] at hf
  refine lv_iconst (pc := 0) (v := 0) hx hb dX2_bitsRemaining_0 (by decide) ?_
  refine lv_istore_n (pc := 1) (lv' := [(2, .int ((0 : Int32))), (0, .ref a0), (1, .ref p1_0)]) hx hb dX2_bitsRemaining_1 rfl hl (by decide) rfl (fun ls hl => ?_)
  refine lv_iconst (pc := 2) (v := 0) hx hb dX2_bitsRemaining_2 (by decide) ?_
  refine lv_istore_n (pc := 3) (lv' := [(3, .int ((0 : Int32))), (2, .int ((0 : Int32))), (0, .ref a0), (1, .ref p1_0)]) hx hb dX2_bitsRemaining_3 rfl hl (by decide) rfl (fun ls hl => ?_)
  exact J4 FU ((0 : Int32)) ((0 : Int32)) _ _ _ hf hw (lv_sub hl [2, 3, 1, 0] rfl)
def zf_X7_staying  (b_now : TTe) (b_staff : TSt) : Option (Int32) := (Option.bind (zf_X2_bitsRemaining b_staff b_now) (fun u1 => some (u1)))
abbrev zr_X7_staying : Room := { frames := 3, cells := 0, slots := 0, locals := 67 }
set_option maxHeartbeats 4000000 in
set_option maxRecDepth 100000 in
theorem c_X7_staying (l : Launch) (G : va_G) (cy : Nat → ClassId) (tt : Nat → Nat) (L : Nat → Nat) (b_seedNow : Int32) (b_keptSeed : Int32) (b_isKept : Bool)  (b_now : TTe) (b_staff : TSt) (res : Int32) (hf : zf_X7_staying b_now b_staff = some res) : zCT l yX7_staying cX7_staying 1 (some .int) zr_X7_staying G cy tt [.ref ((L 0))] [xU L b_seedNow b_keptSeed b_isKept, xTe ((L 1)) b_now, xSt ((L 5)) ((L 6)) ((L 7)) ((L 8)) ((L 9)) b_staff.1, xI cy ((L 6)) 8 b_staff.2.1, xI cy ((L 7)) 8 b_staff.2.2.1, xI cy ((L 8)) 8 b_staff.2.2.2.1, xI cy ((L 9)) 8 b_staff.2.2.2.2] (some (.int res)) [xU L b_seedNow b_keptSeed b_isKept, xTe ((L 1)) b_now, xSt ((L 5)) ((L 6)) ((L 7)) ((L 8)) ((L 9)) b_staff.1, xI cy ((L 6)) 8 b_staff.2.1, xI cy ((L 7)) 8 b_staff.2.2.1, xI cy ((L 8)) 8 b_staff.2.2.2.1, xI cy ((L 9)) 8 b_staff.2.2.2.2] := by
  refine zk_start zn_X7 (Nat.le_of_ble_eq_true rfl) ?_
  intro p e s m args below meth c A ls Q C hr hQ hw hl
  have C : zCx p m c s args meth cX7_staying 1 RX7 G cy tt A := C
  have hx := C.1.1
  have hb := C.1.2.1
  have hl : lv_has ls 1 [(0, .ref ((L 0)))] := hl
  rw [zf_X7_staying] at hf
  refine lv_aload_n (pc := 0) hx hb dX7_staying_0 rfl (lv_at hl 0 rfl) ?_
  refine zk_gt (pc := 1) C hw zl_X7_28 0 rfl rfl dX7_staying_1 ?_
  refine lv_aload_n (pc := 4) hx hb dX7_staying_4 rfl (lv_at hl 0 rfl) ?_
  refine zk_gt (pc := 5) C hw zl_X7_10 0 rfl rfl dX7_staying_5 ?_
  obtain ⟨u1, u1e, hf⟩ := bd hf
  refine zk_cV (pc := 8) (ci := 2) (q0 := 2) (rest := []) (st1 := [.int u1]) (w' := [xU L b_seedNow b_keptSeed b_isKept, xTe ((L 1)) b_now, xSt ((L 5)) ((L 6)) ((L 7)) ((L 8)) ((L 9)) b_staff.1, xI cy ((L 6)) 8 b_staff.2.1, xI cy ((L 7)) 8 b_staff.2.2.1, xI cy ((L 8)) 8 b_staff.2.2.2.1, xI cy ((L 9)) 8 b_staff.2.2.2.2]) (mk := [none, none, none, none, none, none, none]) C hw (c_X2_bitsRemaining l G cy tt ((L 5)) ((L 6)) ((L 7)) ((L 8)) ((L 9)) ((L 1)) b_staff b_now _ u1e) zy_X2_bitsRemaining zm_X7_217 rfl rfl rfl [2, 3, 4, 5, 6, 1] rfl rfl rfl rfl rfl rfl rfl rfl hl.1 ⟨rfl, rfl⟩ ⟨Nat.le_of_ble_eq_true rfl, Nat.le_of_ble_eq_true rfl⟩ rfl (Nat.le_of_ble_eq_true rfl) ⟨Nat.zero_le _, Nat.zero_le _⟩ dX7_staying_8 (fun H locs hw => ?_)
  have hf := Option.some.inj hf
  subst hf
  exact zk_reti (pc := 11) (ww := [xU L b_seedNow b_keptSeed b_isKept, xTe ((L 1)) b_now, xSt ((L 5)) ((L 6)) ((L 7)) ((L 8)) ((L 9)) b_staff.1, xI cy ((L 6)) 8 b_staff.2.1, xI cy ((L 7)) 8 b_staff.2.2.1, xI cy ((L 8)) 8 b_staff.2.2.2.1, xI cy ((L 9)) 8 b_staff.2.2.2.2]) C hw hr hQ dX7_staying_11
