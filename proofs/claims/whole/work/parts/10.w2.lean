def zf_X7_isKeeper (x1 : Int64) (b_staff : TSt) : Option (Bool) := (if (lg_cmp x1 ((0 : Int64))) < 0 then some (false) else (if 0 ≤ (lg_cmp x1 b_staff.1.toInt64) then some (false) else some (true)))
abbrev zr_X7_isKeeper : Room := { frames := 0, cells := 0, slots := 0, locals := 0 }
set_option maxHeartbeats 4000000 in
set_option maxRecDepth 100000 in
theorem c_X7_isKeeper (l : Launch) (G : va_G) (cy : Nat → ClassId) (tt : Nat → Nat) (L : Nat → Nat) (b_seedNow : Int32) (b_keptSeed : Int32) (b_isKept : Bool) (x1 : Int64) (b_staff : TSt) (res : Bool) (hf : zf_X7_isKeeper x1 b_staff = some res) : zCT l yX7_isKeeper cX7_isKeeper 3 (some .boolean) zr_X7_isKeeper G cy tt [.ref ((L 0)), .long x1] [xU L b_seedNow b_keptSeed b_isKept, xSt ((L 5)) ((L 6)) ((L 7)) ((L 8)) ((L 9)) b_staff.1, xI cy ((L 6)) 8 b_staff.2.1, xI cy ((L 7)) 8 b_staff.2.2.1, xI cy ((L 8)) 8 b_staff.2.2.2.1, xI cy ((L 9)) 8 b_staff.2.2.2.2] (some (.int (bI res))) [xU L b_seedNow b_keptSeed b_isKept, xSt ((L 5)) ((L 6)) ((L 7)) ((L 8)) ((L 9)) b_staff.1, xI cy ((L 6)) 8 b_staff.2.1, xI cy ((L 7)) 8 b_staff.2.2.1, xI cy ((L 8)) 8 b_staff.2.2.2.1, xI cy ((L 9)) 8 b_staff.2.2.2.2] := by
  refine zk_start zn_X7 (Nat.le_of_ble_eq_true rfl) ?_
  intro p e s m args below meth c A ls Q C hr hQ hw hl
  have C : zCx p m c s args meth cX7_isKeeper 3 RX7 G cy tt A := C
  have hx := C.1.1
  have hb := C.1.2.1
  have hl : lv_has ls 3 [(0, .ref ((L 0))), (1, .long x1)] := hl
  rw [zf_X7_isKeeper] at hf
  refine lv_lload_n (pc := 0) hx hb dX7_isKeeper_0 rfl (lv_at hl 1 rfl) ?_
  refine lv_lconst (pc := 1) (v := 0) hx hb dX7_isKeeper_1 (by decide) ?_
  refine W.lcmp (pc := 2) hx hb dX7_isKeeper_2 ?_
  refine lv_if_lt (pc := 3) (tgt := 23) hx hb dX7_isKeeper_3 (by decide) (fun q1 => ?_) (fun q1 => ?_)
  · replace hf := if_t q1 hf
    refine lv_iconst (pc := 23) (v := 0) hx hb dX7_isKeeper_23 (by decide) ?_
    have hf := Option.some.inj hf
    subst hf
    exact zk_retz (pc := 24) (b := false) (ww := [xU L b_seedNow b_keptSeed b_isKept, xSt ((L 5)) ((L 6)) ((L 7)) ((L 8)) ((L 9)) b_staff.1, xI cy ((L 6)) 8 b_staff.2.1, xI cy ((L 7)) 8 b_staff.2.2.1, xI cy ((L 8)) 8 b_staff.2.2.2.1, xI cy ((L 9)) 8 b_staff.2.2.2.2]) C hw hr hQ dX7_isKeeper_24
  · replace hf := if_f q1 hf
    refine lv_lload_n (pc := 6) hx hb dX7_isKeeper_6 rfl (lv_at hl 1 rfl) ?_
    refine lv_aload_n (pc := 7) hx hb dX7_isKeeper_7 rfl (lv_at hl 0 rfl) ?_
    refine zk_gt (pc := 8) C hw zl_X7_28 0 rfl rfl dX7_isKeeper_8 ?_
    refine zk_gt (pc := 11) C hw zl_X7_303 1 rfl rfl dX7_isKeeper_11 ?_
    refine lv_i2l (pc := 14) (v := b_staff.1.toInt64) hx hb dX7_isKeeper_14 rfl ?_
    refine W.lcmp (pc := 15) hx hb dX7_isKeeper_15 ?_
    refine lv_if_ge (pc := 16) (tgt := 23) hx hb dX7_isKeeper_16 (by decide) (fun q2 => ?_) (fun q2 => ?_)
    · replace hf := if_t q2 hf
      refine lv_iconst (pc := 23) (v := 0) hx hb dX7_isKeeper_23 (by decide) ?_
      have hf := Option.some.inj hf
      subst hf
      exact zk_retz (pc := 24) (b := false) (ww := [xU L b_seedNow b_keptSeed b_isKept, xSt ((L 5)) ((L 6)) ((L 7)) ((L 8)) ((L 9)) b_staff.1, xI cy ((L 6)) 8 b_staff.2.1, xI cy ((L 7)) 8 b_staff.2.2.1, xI cy ((L 8)) 8 b_staff.2.2.2.1, xI cy ((L 9)) 8 b_staff.2.2.2.2]) C hw hr hQ dX7_isKeeper_24
    · replace hf := if_f q2 hf
      refine lv_iconst (pc := 19) (v := 1) hx hb dX7_isKeeper_19 (by decide) ?_
      refine lv_goto (pc := 20) (tgt := 24) hx hb dX7_isKeeper_20 (by decide) ?_
      have hf := Option.some.inj hf
      subst hf
      exact zk_retz (pc := 24) (b := true) (ww := [xU L b_seedNow b_keptSeed b_isKept, xSt ((L 5)) ((L 6)) ((L 7)) ((L 8)) ((L 9)) b_staff.1, xI cy ((L 6)) 8 b_staff.2.1, xI cy ((L 7)) 8 b_staff.2.2.1, xI cy ((L 8)) 8 b_staff.2.2.2.1, xI cy ((L 9)) 8 b_staff.2.2.2.2]) C hw hr hQ dX7_isKeeper_24
def zf_X7_isOrder_24 (b_staff : TSt) : Option (Bool) := some (true)
def zf_X7_isOrder (x1 : Int64) (b_staff : TSt) : Option (Bool) := (if (lg_cmp x1 ((-1 : Int64))) = 0 then zf_X7_isOrder_24 b_staff  else (if (lg_cmp x1 ((10 : Int64))) = 0 then zf_X7_isOrder_24 b_staff  else (Option.bind (zf_X7_isKeeper x1 b_staff) (fun u3 => (if u3 then zf_X7_isOrder_24 b_staff  else some (false))))))
abbrev zr_X7_isOrder : Room := { frames := 1, cells := 0, slots := 0, locals := 22 }
set_option maxHeartbeats 4000000 in
set_option maxRecDepth 100000 in
theorem c_X7_isOrder (l : Launch) (G : va_G) (cy : Nat → ClassId) (tt : Nat → Nat) (L : Nat → Nat) (b_seedNow : Int32) (b_keptSeed : Int32) (b_isKept : Bool) (x1 : Int64) (b_staff : TSt) (res : Bool) (hf : zf_X7_isOrder x1 b_staff = some res) : zCT l yX7_isOrder cX7_isOrder 3 (some .boolean) zr_X7_isOrder G cy tt [.ref ((L 0)), .long x1] [xU L b_seedNow b_keptSeed b_isKept, xSt ((L 5)) ((L 6)) ((L 7)) ((L 8)) ((L 9)) b_staff.1, xI cy ((L 6)) 8 b_staff.2.1, xI cy ((L 7)) 8 b_staff.2.2.1, xI cy ((L 8)) 8 b_staff.2.2.2.1, xI cy ((L 9)) 8 b_staff.2.2.2.2] (some (.int (bI res))) [xU L b_seedNow b_keptSeed b_isKept, xSt ((L 5)) ((L 6)) ((L 7)) ((L 8)) ((L 9)) b_staff.1, xI cy ((L 6)) 8 b_staff.2.1, xI cy ((L 7)) 8 b_staff.2.2.1, xI cy ((L 8)) 8 b_staff.2.2.2.1, xI cy ((L 9)) 8 b_staff.2.2.2.2] := by
  refine zk_start zn_X7 (Nat.le_of_ble_eq_true rfl) ?_
  intro p e s m args below meth c A ls Q C hr hQ hw hl
  have C : zCx p m c s args meth cX7_isOrder 3 RX7 G cy tt A := C
  have hx := C.1.1
  have hb := C.1.2.1
  have hl : lv_has ls 3 [(0, .ref ((L 0))), (1, .long x1)] := hl
  have J24 : ∀ (H : Heap) (locs : List Loc) (ls : Array Slot), zf_X7_isOrder_24 b_staff = some res → zWd G A s.heap H locs [xU L b_seedNow b_keptSeed b_isKept, xSt ((L 5)) ((L 6)) ((L 7)) ((L 8)) ((L 9)) b_staff.1, xI cy ((L 6)) 8 b_staff.2.1, xI cy ((L 7)) 8 b_staff.2.2.1, xI cy ((L 8)) 8 b_staff.2.2.2.1, xI cy ((L 9)) 8 b_staff.2.2.2.2] → lv_has ls 3 [] → W p l e zr_X7_isOrder s m args below meth c H locs 0 0 Q (F0 m 24 ls []) := by
    intro H locs ls hf hw hl
    rw [zf_X7_isOrder_24] at hf
    refine lv_iconst (pc := 24) (v := 1) hx hb dX7_isOrder_24 (by decide) ?_
    refine lv_goto (pc := 25) (tgt := 29) hx hb dX7_isOrder_25 (by decide) ?_
    have hf := Option.some.inj hf
    subst hf
    exact zk_retz (pc := 29) (b := true) (ww := [xU L b_seedNow b_keptSeed b_isKept, xSt ((L 5)) ((L 6)) ((L 7)) ((L 8)) ((L 9)) b_staff.1, xI cy ((L 6)) 8 b_staff.2.1, xI cy ((L 7)) 8 b_staff.2.2.1, xI cy ((L 8)) 8 b_staff.2.2.2.1, xI cy ((L 9)) 8 b_staff.2.2.2.2]) C hw hr hQ dX7_isOrder_29
  rw [zf_X7_isOrder] at hf
  refine lv_lload_n (pc := 0) hx hb dX7_isOrder_0 rfl (lv_at hl 1 rfl) ?_
  refine lv_ldc2 (pc := 1) (v := -1) hx hb C.1.2.2.2.1 (C.1.2.2.2.2 _ zc_X7_393) dX7_isOrder_1 ?_
  refine W.lcmp (pc := 4) hx hb dX7_isOrder_4 ?_
  refine lv_if_eq (pc := 5) (tgt := 24) hx hb dX7_isOrder_5 (by decide) (fun q1 => ?_) (fun q1 => ?_)
  · replace hf := if_t q1 hf
    exact J24  _ _ _ hf hw (lv_sub hl [] rfl)
  · replace hf := if_f q1 hf
    refine lv_lload_n (pc := 8) hx hb dX7_isOrder_8 rfl (lv_at hl 1 rfl) ?_
    refine lv_ldc2 (pc := 9) (v := 10) hx hb C.1.2.2.2.1 (C.1.2.2.2.2 _ zc_X7_395) dX7_isOrder_9 ?_
    refine W.lcmp (pc := 12) hx hb dX7_isOrder_12 ?_
    refine lv_if_eq (pc := 13) (tgt := 24) hx hb dX7_isOrder_13 (by decide) (fun q2 => ?_) (fun q2 => ?_)
    · replace hf := if_t q2 hf
      exact J24  _ _ _ hf hw (lv_sub hl [] rfl)
    · replace hf := if_f q2 hf
      refine lv_aload_n (pc := 16) hx hb dX7_isOrder_16 rfl (lv_at hl 0 rfl) ?_
      refine lv_lload_n (pc := 17) hx hb dX7_isOrder_17 rfl (lv_at hl 1 rfl) ?_
      obtain ⟨u3, u3e, hf⟩ := bd hf
      refine zk_cV (pc := 18) (ci := 7) (q0 := 0) (rest := []) (st1 := [.int (bI u3)]) (w' := [xU L b_seedNow b_keptSeed b_isKept, xSt ((L 5)) ((L 6)) ((L 7)) ((L 8)) ((L 9)) b_staff.1, xI cy ((L 6)) 8 b_staff.2.1, xI cy ((L 7)) 8 b_staff.2.2.1, xI cy ((L 8)) 8 b_staff.2.2.2.1, xI cy ((L 9)) 8 b_staff.2.2.2.2]) (mk := [none, none, none, none, none, none]) C hw (c_X7_isKeeper l G cy tt L b_seedNow b_keptSeed b_isKept x1 b_staff _ u3e) zy_X7_isKeeper zm_X7_397 rfl rfl rfl [0, 1, 2, 3, 4, 5] rfl rfl rfl rfl rfl rfl rfl rfl hl.1 ⟨rfl, rfl⟩ ⟨Nat.le_of_ble_eq_true rfl, Nat.le_of_ble_eq_true rfl⟩ rfl (Nat.le_of_ble_eq_true rfl) ⟨Nat.zero_le _, Nat.zero_le _⟩ dX7_isOrder_18 (fun H locs hw => ?_)
      refine zk_ifz (pc := 21) (tgt := 28) hx hb dX7_isOrder_21 (by decide) (fun q4 => ?_) (fun q4 => ?_)
      · replace hf := if_f q4 hf
        refine lv_iconst (pc := 28) (v := 0) hx hb dX7_isOrder_28 (by decide) ?_
        have hf := Option.some.inj hf
        subst hf
        exact zk_retz (pc := 29) (b := false) (ww := [xU L b_seedNow b_keptSeed b_isKept, xSt ((L 5)) ((L 6)) ((L 7)) ((L 8)) ((L 9)) b_staff.1, xI cy ((L 6)) 8 b_staff.2.1, xI cy ((L 7)) 8 b_staff.2.2.1, xI cy ((L 8)) 8 b_staff.2.2.2.1, xI cy ((L 9)) 8 b_staff.2.2.2.2]) C hw hr hQ dX7_isOrder_29
      · replace hf := if_t q4 hf
        exact J24  _ _ _ hf hw (lv_sub hl [] rfl)
def zf_X2_feeds (x1 : Int32) (b_this : TSt) : Option (Bool) := (Option.bind (zf_X2_has x1 b_this) (fun u1 => (if u1 then (if ix x1 8 then (Option.bind (zf_X7_isUnder (((b_this.2.1 x1.toNatClampNeg))) (((2 : Int32)))) (fun u4 => (if u4 then some (true) else some (false)))) else none) else some (false))))
abbrev zr_X2_feeds : Room := { frames := 1, cells := 0, slots := 0, locals := 23 }
set_option maxHeartbeats 4000000 in
set_option maxRecDepth 100000 in
theorem c_X2_feeds (l : Launch) (G : va_G) (cy : Nat → ClassId) (tt : Nat → Nat) (a0 a1 a2 a3 a4 : Nat) (x1 : Int32) (b_this : TSt) (res : Bool) (hf : zf_X2_feeds x1 b_this = some res) : zCT l yX2_feeds cX2_feeds 2 (some .boolean) zr_X2_feeds G cy tt [.ref a0, .int x1] [xSt a0 a1 a2 a3 a4 b_this.1, xI cy a1 8 b_this.2.1, xI cy a2 8 b_this.2.2.1, xI cy a3 8 b_this.2.2.2.1, xI cy a4 8 b_this.2.2.2.2] (some (.int (bI res))) [xSt a0 a1 a2 a3 a4 b_this.1, xI cy a1 8 b_this.2.1, xI cy a2 8 b_this.2.2.1, xI cy a3 8 b_this.2.2.2.1, xI cy a4 8 b_this.2.2.2.2] := by
  refine zk_start zn_X2 (Nat.le_of_ble_eq_true rfl) ?_
  intro p e s m args below meth c A ls Q C hr hQ hw hl
  have C : zCx p m c s args meth cX2_feeds 2 RX2 G cy tt A := C
  have hx := C.1.1
  have hb := C.1.2.1
  have hl : lv_has ls 2 [(0, .ref a0), (1, .int x1)] := hl
  rw [zf_X2_feeds] at hf
  refine lv_aload_n (pc := 0) hx hb dX2_feeds_0 rfl (lv_at hl 0 rfl) ?_
  refine lv_iload_n (pc := 1) hx hb dX2_feeds_1 rfl (lv_at hl 1 rfl) ?_
  obtain ⟨u1, u1e, hf⟩ := bd hf
  refine zk_cV (pc := 2) (ci := 2) (q0 := 0) (rest := []) (st1 := [.int (bI u1)]) (w' := [xSt a0 a1 a2 a3 a4 b_this.1, xI cy a1 8 b_this.2.1, xI cy a2 8 b_this.2.2.1, xI cy a3 8 b_this.2.2.2.1, xI cy a4 8 b_this.2.2.2.2]) (mk := [none, none, none, none, none]) C hw (c_X2_has l G cy tt a0 a1 a2 a3 a4 x1 b_this _ u1e) zy_X2_has zm_X2_28 rfl rfl rfl [0, 1, 2, 3, 4] rfl rfl rfl rfl rfl rfl rfl rfl hl.1 ⟨rfl, rfl⟩ ⟨Nat.le_of_ble_eq_true rfl, Nat.le_of_ble_eq_true rfl⟩ rfl (Nat.le_of_ble_eq_true rfl) ⟨Nat.zero_le _, Nat.zero_le _⟩ dX2_feeds_2 (fun H locs hw => ?_)
  refine zk_ifz (pc := 5) (tgt := 25) hx hb dX2_feeds_5 (by decide) (fun q2 => ?_) (fun q2 => ?_)
  · replace hf := if_f q2 hf
    refine lv_iconst (pc := 25) (v := 0) hx hb dX2_feeds_25 (by decide) ?_
    have hf := Option.some.inj hf
    subst hf
    exact zk_retz (pc := 26) (b := false) (ww := [xSt a0 a1 a2 a3 a4 b_this.1, xI cy a1 8 b_this.2.1, xI cy a2 8 b_this.2.2.1, xI cy a3 8 b_this.2.2.2.1, xI cy a4 8 b_this.2.2.2.2]) C hw hr hQ dX2_feeds_26
  · replace hf := if_t q2 hf
    refine lv_aload_n (pc := 8) hx hb dX2_feeds_8 rfl (lv_at hl 0 rfl) ?_
    refine zk_gt (pc := 9) C hw zl_X2_15 0 rfl rfl dX2_feeds_9 ?_
    refine lv_iload_n (pc := 12) hx hb dX2_feeds_12 rfl (lv_at hl 1 rfl) ?_
    obtain ⟨q3, hf⟩ := ck hf
    refine zk_iald (pc := 13) C hw 1 rfl q3 dX2_feeds_13 ?_
    refine lv_iconst (pc := 14) (v := 2) hx hb dX2_feeds_14 (by decide) ?_
    obtain ⟨u4, u4e, hf⟩ := bd hf
    refine zk_cSN (pc := 15) (rest := []) (st1 := [.int (bI u4)]) (w' := [xSt a0 a1 a2 a3 a4 b_this.1, xI cy a1 8 b_this.2.1, xI cy a2 8 b_this.2.2.1, xI cy a3 8 b_this.2.2.2.1, xI cy a4 8 b_this.2.2.2.2]) (mk := [none, none, none, none, none]) C hw (c_X7_isUnder l G cy tt (((b_this.2.1 x1.toNatClampNeg))) (((2 : Int32))) _ u4e) zy_X7_isUnder zmn_X2_52 [] rfl rfl rfl rfl rfl rfl rfl rfl hl.1 ⟨rfl, rfl⟩ ⟨Nat.le_of_ble_eq_true rfl, Nat.le_of_ble_eq_true rfl⟩ rfl (Nat.le_of_ble_eq_true rfl) ⟨Nat.zero_le _, Nat.zero_le _⟩ dX2_feeds_15 (fun H locs hw => ?_)
    refine zk_ifz (pc := 18) (tgt := 25) hx hb dX2_feeds_18 (by decide) (fun q5 => ?_) (fun q5 => ?_)
    · replace hf := if_f q5 hf
      refine lv_iconst (pc := 25) (v := 0) hx hb dX2_feeds_25 (by decide) ?_
      have hf := Option.some.inj hf
      subst hf
      exact zk_retz (pc := 26) (b := false) (ww := [xSt a0 a1 a2 a3 a4 b_this.1, xI cy a1 8 b_this.2.1, xI cy a2 8 b_this.2.2.1, xI cy a3 8 b_this.2.2.2.1, xI cy a4 8 b_this.2.2.2.2]) C hw hr hQ dX2_feeds_26
    · replace hf := if_t q5 hf
      refine lv_iconst (pc := 21) (v := 1) hx hb dX2_feeds_21 (by decide) ?_
      refine lv_goto (pc := 22) (tgt := 26) hx hb dX2_feeds_22 (by decide) ?_
      have hf := Option.some.inj hf
      subst hf
      exact zk_retz (pc := 26) (b := true) (ww := [xSt a0 a1 a2 a3 a4 b_this.1, xI cy a1 8 b_this.2.1, xI cy a2 8 b_this.2.2.1, xI cy a3 8 b_this.2.2.2.1, xI cy a4 8 b_this.2.2.2.2]) C hw hr hQ dX2_feeds_26
def zf_X5_mix  (b_this : TTe) : Option (TTe) := some (((b_this.1 - ((b_this.1 - b_this.2.1) / (4 : Int32))), (b_this.2.1 + ((b_this.1 - b_this.2.1) / (4 : Int32))), b_this.2.2.1, b_this.2.2.2.1, b_this.2.2.2.2.1, b_this.2.2.2.2.2.1, b_this.2.2.2.2.2.2))
abbrev zr_X5_mix : Room := { frames := 0, cells := 0, slots := 0, locals := 0 }
set_option maxHeartbeats 4000000 in
set_option maxRecDepth 100000 in
theorem c_X5_mix (l : Launch) (G : va_G) (cy : Nat → ClassId) (tt : Nat → Nat) (a0 : Nat)  (b_this : TTe) (res : TTe) (hf : zf_X5_mix b_this = some res) : zCT l yX5_mix cX5_mix 2 none zr_X5_mix G cy tt [.ref a0] [xTe a0 b_this] none [xTe a0 res] := by
  refine zk_start zn_X5 (Nat.le_of_ble_eq_true rfl) ?_
  intro p e s m args below meth c A ls Q C hr hQ hw hl
  have C : zCx p m c s args meth cX5_mix 2 RX5 G cy tt A := C
  have hx := C.1.1
  have hb := C.1.2.1
  have hl : lv_has ls 2 [(0, .ref a0)] := hl
  rw [zf_X5_mix] at hf
  refine lv_aload_n (pc := 0) hx hb dX5_mix_0 rfl (lv_at hl 0 rfl) ?_
  refine zk_gt (pc := 1) C hw zl_X5_9 0 rfl rfl dX5_mix_1 ?_
  refine lv_aload_n (pc := 4) hx hb dX5_mix_4 rfl (lv_at hl 0 rfl) ?_
  refine zk_gt (pc := 5) C hw zl_X5_15 0 rfl rfl dX5_mix_5 ?_
  refine lv_isub (pc := 8) hx hb dX5_mix_8 ?_
  refine lv_iconst (pc := 9) (v := 4) hx hb dX5_mix_9 (by decide) ?_
  refine lv_idiv (pc := 10) hx hb dX5_mix_10 (by decide) ?_
  refine lv_istore_n (pc := 11) (lv' := [(1, .int (((b_this.1 - b_this.2.1) / (4 : Int32)))), (0, .ref a0)]) hx hb dX5_mix_11 rfl hl (by decide) rfl (fun ls hl => ?_)
  refine lv_aload_n (pc := 12) hx hb dX5_mix_12 rfl (lv_at hl 1 rfl) ?_
  refine lv_dup (pc := 13) hx hb dX5_mix_13 rfl ?_
  refine zk_gt (pc := 14) C hw zl_X5_9 0 rfl rfl dX5_mix_14 ?_
  refine lv_iload_n (pc := 17) hx hb dX5_mix_17 rfl (lv_at hl 0 rfl) ?_
  refine lv_isub (pc := 18) hx hb dX5_mix_18 ?_
  refine zk_put (pc := 19) (w' := [xTe a0 (((b_this.1 - ((b_this.1 - b_this.2.1) / (4 : Int32))), b_this.2.1, b_this.2.2.1, b_this.2.2.2.1, b_this.2.2.2.2.1, b_this.2.2.2.2.2.1, b_this.2.2.2.2.2.2))]) C hw zp_X5_9 0 rfl rfl rfl (Nat.le_of_ble_eq_true rfl) rfl dX5_mix_19 (fun H locs hw => ?_)
  refine lv_aload_n (pc := 22) hx hb dX5_mix_22 rfl (lv_at hl 1 rfl) ?_
  refine lv_dup (pc := 23) hx hb dX5_mix_23 rfl ?_
  refine zk_gt (pc := 24) C hw zl_X5_15 0 rfl rfl dX5_mix_24 ?_
  refine lv_iload_n (pc := 27) hx hb dX5_mix_27 rfl (lv_at hl 0 rfl) ?_
  refine lv_iadd (pc := 28) hx hb dX5_mix_28 ?_
  refine zk_put (pc := 29) (w' := [xTe a0 (((b_this.1 - ((b_this.1 - b_this.2.1) / (4 : Int32))), (b_this.2.1 + ((b_this.1 - b_this.2.1) / (4 : Int32))), b_this.2.2.1, b_this.2.2.2.1, b_this.2.2.2.2.1, b_this.2.2.2.2.2.1, b_this.2.2.2.2.2.2))]) C hw zp_X5_15 0 rfl rfl rfl (Nat.le_of_ble_eq_true rfl) rfl dX5_mix_29 (fun H locs hw => ?_)
  have hf := Option.some.inj hf
  subst hf
  exact zk_retv (pc := 32) (ww := [xTe a0 (((b_this.1 - ((b_this.1 - b_this.2.1) / (4 : Int32))), (b_this.2.1 + ((b_this.1 - b_this.2.1) / (4 : Int32))), b_this.2.2.1, b_this.2.2.2.1, b_this.2.2.2.2.1, b_this.2.2.2.2.2.1, b_this.2.2.2.2.2.2))]) C hw hr hQ dX5_mix_32
def zf_X5_growIf (x1 : Bool) (b_this : TTe) : Option (TTe) := (if x1 then some ((b_this.1, b_this.2.1, (if (b_this.2.2.1 + (1 : Int32)) < (9 : Int32) then (b_this.2.2.1 + (1 : Int32)) else (9 : Int32)), b_this.2.2.2.1, b_this.2.2.2.2.1, b_this.2.2.2.2.2.1, b_this.2.2.2.2.2.2)) else some (b_this))
abbrev zr_X5_growIf : Room := { frames := 1, cells := 0, slots := 0, locals := 21 }
set_option maxHeartbeats 4000000 in
set_option maxRecDepth 100000 in
theorem c_X5_growIf (l : Launch) (G : va_G) (cy : Nat → ClassId) (tt : Nat → Nat) (a0 : Nat) (x1 : Bool) (b_this : TTe) (res : TTe) (hf : zf_X5_growIf x1 b_this = some res) : zCT l yX5_growIf cX5_growIf 2 none zr_X5_growIf G cy tt [.ref a0, .int (bI x1)] [xTe a0 b_this] none [xTe a0 res] := by
  refine zk_start zn_X5 (Nat.le_of_ble_eq_true rfl) ?_
  intro p e s m args below meth c A ls Q C hr hQ hw hl
  have C : zCx p m c s args meth cX5_growIf 2 RX5 G cy tt A := C
  have hx := C.1.1
  have hb := C.1.2.1
  have hl : lv_has ls 2 [(0, .ref a0), (1, .int (bI x1))] := hl
  rw [zf_X5_growIf] at hf
  refine lv_iload_n (pc := 0) hx hb dX5_growIf_0 rfl (lv_at hl 1 rfl) ?_
  refine zk_ifz (pc := 1) (tgt := 19) hx hb dX5_growIf_1 (by decide) (fun q1 => ?_) (fun q1 => ?_)
  · replace hf := if_f q1 hf
    have hf := Option.some.inj hf
    subst hf
    exact zk_retv (pc := 19) (ww := [xTe a0 b_this]) C hw hr hQ dX5_growIf_19
  · replace hf := if_t q1 hf
    refine lv_aload_n (pc := 4) hx hb dX5_growIf_4 rfl (lv_at hl 0 rfl) ?_
    refine lv_bipush (pc := 5) (v := 9) hx hb dX5_growIf_5 (by decide) ?_
    refine lv_aload_n (pc := 7) hx hb dX5_growIf_7 rfl (lv_at hl 0 rfl) ?_
    refine zk_gt (pc := 8) C hw zl_X5_18 0 rfl rfl dX5_growIf_8 ?_
    refine lv_iconst (pc := 11) (v := 1) hx hb dX5_growIf_11 (by decide) ?_
    refine lv_iadd (pc := 12) hx hb dX5_growIf_12 ?_
    refine zk_min (pc := 13) C hl.1 zm_X5_55 ⟨Nat.le_of_ble_eq_true rfl, Nat.le_of_ble_eq_true rfl⟩ ⟨Nat.zero_le _, Nat.zero_le _⟩ dX5_growIf_13 ?_
    refine zk_put (pc := 16) (w' := [xTe a0 ((b_this.1, b_this.2.1, (if (b_this.2.2.1 + (1 : Int32)) < (9 : Int32) then (b_this.2.2.1 + (1 : Int32)) else (9 : Int32)), b_this.2.2.2.1, b_this.2.2.2.2.1, b_this.2.2.2.2.2.1, b_this.2.2.2.2.2.2))]) C hw zp_X5_18 0 rfl rfl rfl (Nat.le_of_ble_eq_true rfl) rfl dX5_growIf_16 (fun H locs hw => ?_)
    have hf := Option.some.inj hf
    subst hf
    exact zk_retv (pc := 19) (ww := [xTe a0 ((b_this.1, b_this.2.1, (if (b_this.2.2.1 + (1 : Int32)) < (9 : Int32) then (b_this.2.2.1 + (1 : Int32)) else (9 : Int32)), b_this.2.2.2.1, b_this.2.2.2.2.1, b_this.2.2.2.2.2.1, b_this.2.2.2.2.2.2))]) C hw hr hQ dX5_growIf_19
def zf_X5_pass_151 (b_p2 : TSt) (b_this : TTe) : Option (TTe) := some ((b_this.1, b_this.2.1, b_this.2.2.1, b_this.2.2.2.1, (if (b_this.2.2.2.2.1 + (1 : Int32)) < (9999 : Int32) then (b_this.2.2.2.2.1 + (1 : Int32)) else (9999 : Int32)), b_this.2.2.2.2.2.1, b_this.2.2.2.2.2.2))
def zf_X5_pass_127 (b_p2 : TSt) (t0 : Bool) (b_this : TTe) : Option (TTe) := (if t0 then zf_X5_pass_151 b_p2 ((b_this.1, (if (0 : Int32) < (b_this.2.1 - (1 : Int32)) then (b_this.2.1 - (1 : Int32)) else (0 : Int32)), b_this.2.2.1, b_this.2.2.2.1, b_this.2.2.2.2.1, t0, b_this.2.2.2.2.2.2)) else zf_X5_pass_151 b_p2 ((b_this.1, b_this.2.1, b_this.2.2.1, b_this.2.2.2.1, b_this.2.2.2.2.1, t0, b_this.2.2.2.2.2.2)))
def zf_X5_pass_110 (b_p2 : TSt) (b_this : TTe) : Option (TTe) := (if b_this.1 < b_this.2.2.2.1 then zf_X5_pass_127 b_p2 false b_this else zf_X5_pass_127 b_p2 true b_this)
def zf_X5_pass_60 (b_p2 : TSt) (t0 : Bool) (b_this : TTe) : Option (TTe) := (Option.bind (zf_X5_growIf t0 b_this) (fun u12 => zf_X5_pass_110 b_p2 u12))
def zf_X5_pass_59 (b_p2 : TSt) (b_this : TTe) : Option (TTe) := zf_X5_pass_60 b_p2 false b_this
def zf_X5_pass_107 (b_p2 : TSt) (t0 : Bool) (b_this : TTe) : Option (TTe) := (Option.bind (zf_X5_growIf t0 b_this) (fun u13 => zf_X5_pass_110 b_p2 u13))
def zf_X5_pass (x1 : Int32) (b_this : TTe) (b_p2 : TSt) : Option (TTe) := (if x1 = (10 : Int32) then (Option.bind (zf_X5_mix ((b_this.1, b_this.2.1, b_this.2.2.1, b_this.2.2.2.1, b_this.2.2.2.2.1, b_this.2.2.2.2.2.1, (-1 : Int32)))) (fun u9 => zf_X5_pass_110 b_p2 u9)) else (Option.bind (zf_X2_remains x1 b_p2 ((b_this.1, b_this.2.1, b_this.2.2.1, b_this.2.2.2.1, b_this.2.2.2.2.1, b_this.2.2.2.2.2.1, (-1 : Int32)))) (fun u2 => (if u2 then (Option.bind (zf_X2_soothed x1 b_p2 ((b_this.1, b_this.2.1, b_this.2.2.1, b_this.2.2.2.1, b_this.2.2.2.2.1, b_this.2.2.2.2.2.1, (-1 : Int32)))) (fun u5 => (Option.bind (zf_X2_feeds x1 b_p2) (fun u6 => (if u6 then (if (b_this.2.2.2.2.1 - b_this.2.2.2.2.1 / (4 : Int32) * (4 : Int32)) = 0 then zf_X5_pass_60 b_p2 true ((u5, b_this.2.1, b_this.2.2.1, b_this.2.2.2.1, b_this.2.2.2.2.1, b_this.2.2.2.2.2.1, (-1 : Int32))) else zf_X5_pass_59 b_p2 ((u5, b_this.2.1, b_this.2.2.1, b_this.2.2.2.1, b_this.2.2.2.2.1, b_this.2.2.2.2.2.1, (-1 : Int32)))) else zf_X5_pass_59 b_p2 ((u5, b_this.2.1, b_this.2.2.1, b_this.2.2.2.1, b_this.2.2.2.2.1, b_this.2.2.2.2.2.1, (-1 : Int32)))))))) else (if (b_this.2.2.2.2.1 - b_this.2.2.2.2.1 / (12 : Int32) * (12 : Int32)) = 0 then zf_X5_pass_107 b_p2 true (((if (b_this.1 + ((2 : Int32) * b_this.2.2.1)) < (99 : Int32) then (b_this.1 + ((2 : Int32) * b_this.2.2.1)) else (99 : Int32)), b_this.2.1, b_this.2.2.1, b_this.2.2.2.1, b_this.2.2.2.2.1, b_this.2.2.2.2.2.1, x1)) else zf_X5_pass_107 b_p2 false (((if (b_this.1 + ((2 : Int32) * b_this.2.2.1)) < (99 : Int32) then (b_this.1 + ((2 : Int32) * b_this.2.2.1)) else (99 : Int32)), b_this.2.1, b_this.2.2.1, b_this.2.2.2.1, b_this.2.2.2.2.1, b_this.2.2.2.2.2.1, x1)))))))
abbrev zr_X5_pass : Room := { frames := 2, cells := 0, slots := 0, locals := 46 }
set_option maxHeartbeats 4000000 in
set_option maxRecDepth 100000 in
theorem c_X5_pass (l : Launch) (G : va_G) (cy : Nat → ClassId) (tt : Nat → Nat) (a0 : Nat) (p2_0 p2_1 p2_2 p2_3 p2_4 : Nat) (x1 : Int32) (b_this : TTe) (b_p2 : TSt) (res : TTe) (hf : zf_X5_pass x1 b_this b_p2 = some res) : zCT l yX5_pass cX5_pass 3 none zr_X5_pass G cy tt [.ref a0, .int x1, .ref p2_0] [xTe a0 b_this, xSt p2_0 p2_1 p2_2 p2_3 p2_4 b_p2.1, xI cy p2_1 8 b_p2.2.1, xI cy p2_2 8 b_p2.2.2.1, xI cy p2_3 8 b_p2.2.2.2.1, xI cy p2_4 8 b_p2.2.2.2.2] none [xTe a0 res, xSt p2_0 p2_1 p2_2 p2_3 p2_4 b_p2.1, xI cy p2_1 8 b_p2.2.1, xI cy p2_2 8 b_p2.2.2.1, xI cy p2_3 8 b_p2.2.2.2.1, xI cy p2_4 8 b_p2.2.2.2.2] := by
  refine zk_start zn_X5 (Nat.le_of_ble_eq_true rfl) ?_
  intro p e s m args below meth c A ls Q C hr hQ hw hl
  have C : zCx p m c s args meth cX5_pass 3 RX5 G cy tt A := C
  have hx := C.1.1
  have hb := C.1.2.1
  have hl : lv_has ls 3 [(0, .ref a0), (1, .int x1), (2, .ref p2_0)] := hl
  have J151 : ∀ (b_this : TTe) (H : Heap) (locs : List Loc) (ls : Array Slot), zf_X5_pass_151 b_p2 b_this = some res → zWd G A s.heap H locs [xTe a0 b_this, xSt p2_0 p2_1 p2_2 p2_3 p2_4 b_p2.1, xI cy p2_1 8 b_p2.2.1, xI cy p2_2 8 b_p2.2.2.1, xI cy p2_3 8 b_p2.2.2.2.1, xI cy p2_4 8 b_p2.2.2.2.2] → lv_has ls 3 [(0, .ref a0)] → W p l e zr_X5_pass s m args below meth c H locs 0 0 Q (F0 m 151 ls []) := by
    intro b_this H locs ls hf hw hl
    rw [zf_X5_pass_151] at hf
    refine lv_aload_n (pc := 151) hx hb dX5_pass_151 rfl (lv_at hl 0 rfl) ?_
    refine lv_sipush (pc := 152) (v := 9999) hx hb dX5_pass_152 (by decide) ?_
    refine lv_aload_n (pc := 155) hx hb dX5_pass_155 rfl (lv_at hl 0 rfl) ?_
    refine zk_gt (pc := 156) C hw zl_X5_24 0 rfl rfl dX5_pass_156 ?_
    refine lv_iconst (pc := 159) (v := 1) hx hb dX5_pass_159 (by decide) ?_
    refine lv_iadd (pc := 160) hx hb dX5_pass_160 ?_
    refine zk_min (pc := 161) C hl.1 zm_X5_55 ⟨Nat.le_of_ble_eq_true rfl, Nat.le_of_ble_eq_true rfl⟩ ⟨Nat.zero_le _, Nat.zero_le _⟩ dX5_pass_161 ?_
    refine zk_put (pc := 164) (w' := [xTe a0 ((b_this.1, b_this.2.1, b_this.2.2.1, b_this.2.2.2.1, (if (b_this.2.2.2.2.1 + (1 : Int32)) < (9999 : Int32) then (b_this.2.2.2.2.1 + (1 : Int32)) else (9999 : Int32)), b_this.2.2.2.2.2.1, b_this.2.2.2.2.2.2)), xSt p2_0 p2_1 p2_2 p2_3 p2_4 b_p2.1, xI cy p2_1 8 b_p2.2.1, xI cy p2_2 8 b_p2.2.2.1, xI cy p2_3 8 b_p2.2.2.2.1, xI cy p2_4 8 b_p2.2.2.2.2]) C hw zp_X5_24 0 rfl rfl rfl (Nat.le_of_ble_eq_true rfl) rfl dX5_pass_164 (fun H locs hw => ?_)
    have hf := Option.some.inj hf
    subst hf
    exact zk_retv (pc := 167) (ww := [xTe a0 ((b_this.1, b_this.2.1, b_this.2.2.1, b_this.2.2.2.1, (if (b_this.2.2.2.2.1 + (1 : Int32)) < (9999 : Int32) then (b_this.2.2.2.2.1 + (1 : Int32)) else (9999 : Int32)), b_this.2.2.2.2.2.1, b_this.2.2.2.2.2.2)), xSt p2_0 p2_1 p2_2 p2_3 p2_4 b_p2.1, xI cy p2_1 8 b_p2.2.1, xI cy p2_2 8 b_p2.2.2.1, xI cy p2_3 8 b_p2.2.2.2.1, xI cy p2_4 8 b_p2.2.2.2.2]) C hw hr hQ dX5_pass_167
  have J127 : ∀ (t0 : Bool) (b_this : TTe) (H : Heap) (locs : List Loc) (ls : Array Slot), zf_X5_pass_127 b_p2 t0 b_this = some res → zWd G A s.heap H locs [xTe a0 b_this, xSt p2_0 p2_1 p2_2 p2_3 p2_4 b_p2.1, xI cy p2_1 8 b_p2.2.1, xI cy p2_2 8 b_p2.2.2.1, xI cy p2_3 8 b_p2.2.2.2.1, xI cy p2_4 8 b_p2.2.2.2.2] → lv_has ls 3 [(0, .ref a0)] → W p l e zr_X5_pass s m args below meth c H locs 0 0 Q (F0 m 127 ls [.int (bI t0), .ref a0]) := by
    intro t0 b_this H locs ls hf hw hl
    rw [zf_X5_pass_127] at hf
    refine zk_put (pc := 127) (v := .int (bI t0)) (w' := [xTe a0 ((b_this.1, b_this.2.1, b_this.2.2.1, b_this.2.2.2.1, b_this.2.2.2.2.1, t0, b_this.2.2.2.2.2.2)), xSt p2_0 p2_1 p2_2 p2_3 p2_4 b_p2.1, xI cy p2_1 8 b_p2.2.1, xI cy p2_2 8 b_p2.2.2.1, xI cy p2_3 8 b_p2.2.2.2.1, xI cy p2_4 8 b_p2.2.2.2.2]) C hw zp_X5_27 0 rfl (bI_nar _) (bI_fit _) (Nat.le_of_ble_eq_true rfl) rfl dX5_pass_127 (fun H locs hw => ?_)
    refine lv_aload_n (pc := 130) hx hb dX5_pass_130 rfl (lv_at hl 0 rfl) ?_
    refine zk_gt (pc := 131) C hw zl_X5_27 0 rfl rfl dX5_pass_131 ?_
    refine zk_ifz (pc := 134) (tgt := 151) hx hb dX5_pass_134 (by decide) (fun q11 => ?_) (fun q11 => ?_)
    · replace hf := if_f q11 hf
      exact J151 ((b_this.1, b_this.2.1, b_this.2.2.1, b_this.2.2.2.1, b_this.2.2.2.2.1, t0, b_this.2.2.2.2.2.2)) _ _ _ hf hw (lv_sub hl [0] rfl)
    · replace hf := if_t q11 hf
      refine lv_aload_n (pc := 137) hx hb dX5_pass_137 rfl (lv_at hl 0 rfl) ?_
      refine lv_iconst (pc := 138) (v := 0) hx hb dX5_pass_138 (by decide) ?_
      refine lv_aload_n (pc := 139) hx hb dX5_pass_139 rfl (lv_at hl 0 rfl) ?_
      refine zk_gt (pc := 140) C hw zl_X5_15 0 rfl rfl dX5_pass_140 ?_
      refine lv_iconst (pc := 143) (v := 1) hx hb dX5_pass_143 (by decide) ?_
      refine lv_isub (pc := 144) hx hb dX5_pass_144 ?_
      refine zk_max (pc := 145) C hl.1 zm_X5_61 ⟨Nat.le_of_ble_eq_true rfl, Nat.le_of_ble_eq_true rfl⟩ ⟨Nat.zero_le _, Nat.zero_le _⟩ dX5_pass_145 ?_
      refine zk_put (pc := 148) (w' := [xTe a0 ((b_this.1, (if (0 : Int32) < (b_this.2.1 - (1 : Int32)) then (b_this.2.1 - (1 : Int32)) else (0 : Int32)), b_this.2.2.1, b_this.2.2.2.1, b_this.2.2.2.2.1, t0, b_this.2.2.2.2.2.2)), xSt p2_0 p2_1 p2_2 p2_3 p2_4 b_p2.1, xI cy p2_1 8 b_p2.2.1, xI cy p2_2 8 b_p2.2.2.1, xI cy p2_3 8 b_p2.2.2.2.1, xI cy p2_4 8 b_p2.2.2.2.2]) C hw zp_X5_15 0 rfl rfl rfl (Nat.le_of_ble_eq_true rfl) rfl dX5_pass_148 (fun H locs hw => ?_)
      exact J151 ((b_this.1, (if (0 : Int32) < (b_this.2.1 - (1 : Int32)) then (b_this.2.1 - (1 : Int32)) else (0 : Int32)), b_this.2.2.1, b_this.2.2.2.1, b_this.2.2.2.2.1, t0, b_this.2.2.2.2.2.2)) _ _ _ hf hw (lv_sub hl [0] rfl)
  have J110 : ∀ (b_this : TTe) (H : Heap) (locs : List Loc) (ls : Array Slot), zf_X5_pass_110 b_p2 b_this = some res → zWd G A s.heap H locs [xTe a0 b_this, xSt p2_0 p2_1 p2_2 p2_3 p2_4 b_p2.1, xI cy p2_1 8 b_p2.2.1, xI cy p2_2 8 b_p2.2.2.1, xI cy p2_3 8 b_p2.2.2.2.1, xI cy p2_4 8 b_p2.2.2.2.2] → lv_has ls 3 [(0, .ref a0)] → W p l e zr_X5_pass s m args below meth c H locs 0 0 Q (F0 m 110 ls []) := by
    intro b_this H locs ls hf hw hl
    rw [zf_X5_pass_110] at hf
    refine lv_aload_n (pc := 110) hx hb dX5_pass_110 rfl (lv_at hl 0 rfl) ?_
    refine lv_aload_n (pc := 111) hx hb dX5_pass_111 rfl (lv_at hl 0 rfl) ?_
    refine zk_gt (pc := 112) C hw zl_X5_9 0 rfl rfl dX5_pass_112 ?_
    refine lv_aload_n (pc := 115) hx hb dX5_pass_115 rfl (lv_at hl 0 rfl) ?_
    refine zk_gt (pc := 116) C hw zl_X5_21 0 rfl rfl dX5_pass_116 ?_
    refine lv_icmp_lt (pc := 119) (tgt := 126) hx hb dX5_pass_119 (by decide) (fun q10 => ?_) (fun q10 => ?_)
    · replace hf := if_t q10 hf
      refine lv_iconst (pc := 126) (v := 0) hx hb dX5_pass_126 (by decide) ?_
      exact J127 false b_this _ _ _ hf hw (lv_sub hl [0] rfl)
    · replace hf := if_f q10 hf
      refine lv_iconst (pc := 122) (v := 1) hx hb dX5_pass_122 (by decide) ?_
      refine lv_goto (pc := 123) (tgt := 127) hx hb dX5_pass_123 (by decide) ?_
      exact J127 true b_this _ _ _ hf hw (lv_sub hl [0] rfl)
  have J60 : ∀ (t0 : Bool) (b_this : TTe) (H : Heap) (locs : List Loc) (ls : Array Slot), zf_X5_pass_60 b_p2 t0 b_this = some res → zWd G A s.heap H locs [xTe a0 b_this, xSt p2_0 p2_1 p2_2 p2_3 p2_4 b_p2.1, xI cy p2_1 8 b_p2.2.1, xI cy p2_2 8 b_p2.2.2.1, xI cy p2_3 8 b_p2.2.2.2.1, xI cy p2_4 8 b_p2.2.2.2.2] → lv_has ls 3 [(0, .ref a0)] → W p l e zr_X5_pass s m args below meth c H locs 0 0 Q (F0 m 60 ls [.int (bI t0), .ref a0]) := by
    intro t0 b_this H locs ls hf hw hl
    rw [zf_X5_pass_60] at hf
    obtain ⟨u12, u12e, hf⟩ := bd hf
    refine zk_cV (pc := 60) (ci := 5) (q0 := 0) (rest := []) (st1 := []) (w' := [xTe a0 u12, xSt p2_0 p2_1 p2_2 p2_3 p2_4 b_p2.1, xI cy p2_1 8 b_p2.2.1, xI cy p2_2 8 b_p2.2.2.1, xI cy p2_3 8 b_p2.2.2.2.1, xI cy p2_4 8 b_p2.2.2.2.2]) (mk := [some (xTe a0 u12), none, none, none, none, none]) C hw (c_X5_growIf l G cy tt a0 t0 b_this _ u12e) zy_X5_growIf zm_X5_51 rfl rfl rfl [0] rfl rfl rfl rfl rfl rfl rfl rfl hl.1 ⟨rfl, rfl⟩ ⟨Nat.le_of_ble_eq_true rfl, Nat.le_of_ble_eq_true rfl⟩ rfl (Nat.le_of_ble_eq_true rfl) ⟨Nat.zero_le _, Nat.zero_le _⟩ dX5_pass_60 (fun H locs hw => ?_)
    refine lv_goto (pc := 63) (tgt := 110) hx hb dX5_pass_63 (by decide) ?_
    exact J110 u12 _ _ _ hf hw (lv_sub hl [0] rfl)
  have J59 : ∀ (b_this : TTe) (H : Heap) (locs : List Loc) (ls : Array Slot), zf_X5_pass_59 b_p2 b_this = some res → zWd G A s.heap H locs [xTe a0 b_this, xSt p2_0 p2_1 p2_2 p2_3 p2_4 b_p2.1, xI cy p2_1 8 b_p2.2.1, xI cy p2_2 8 b_p2.2.2.1, xI cy p2_3 8 b_p2.2.2.2.1, xI cy p2_4 8 b_p2.2.2.2.2] → lv_has ls 3 [(0, .ref a0)] → W p l e zr_X5_pass s m args below meth c H locs 0 0 Q (F0 m 59 ls [.ref a0]) := by
    intro b_this H locs ls hf hw hl
    rw [zf_X5_pass_59] at hf
    refine lv_iconst (pc := 59) (v := 0) hx hb dX5_pass_59 (by decide) ?_
    exact J60 false b_this _ _ _ hf hw (lv_sub hl [0] rfl)
  have J107 : ∀ (t0 : Bool) (b_this : TTe) (H : Heap) (locs : List Loc) (ls : Array Slot), zf_X5_pass_107 b_p2 t0 b_this = some res → zWd G A s.heap H locs [xTe a0 b_this, xSt p2_0 p2_1 p2_2 p2_3 p2_4 b_p2.1, xI cy p2_1 8 b_p2.2.1, xI cy p2_2 8 b_p2.2.2.1, xI cy p2_3 8 b_p2.2.2.2.1, xI cy p2_4 8 b_p2.2.2.2.2] → lv_has ls 3 [(0, .ref a0)] → W p l e zr_X5_pass s m args below meth c H locs 0 0 Q (F0 m 107 ls [.int (bI t0), .ref a0]) := by
    intro t0 b_this H locs ls hf hw hl
    rw [zf_X5_pass_107] at hf
    obtain ⟨u13, u13e, hf⟩ := bd hf
    refine zk_cV (pc := 107) (ci := 5) (q0 := 0) (rest := []) (st1 := []) (w' := [xTe a0 u13, xSt p2_0 p2_1 p2_2 p2_3 p2_4 b_p2.1, xI cy p2_1 8 b_p2.2.1, xI cy p2_2 8 b_p2.2.2.1, xI cy p2_3 8 b_p2.2.2.2.1, xI cy p2_4 8 b_p2.2.2.2.2]) (mk := [some (xTe a0 u13), none, none, none, none, none]) C hw (c_X5_growIf l G cy tt a0 t0 b_this _ u13e) zy_X5_growIf zm_X5_51 rfl rfl rfl [0] rfl rfl rfl rfl rfl rfl rfl rfl hl.1 ⟨rfl, rfl⟩ ⟨Nat.le_of_ble_eq_true rfl, Nat.le_of_ble_eq_true rfl⟩ rfl (Nat.le_of_ble_eq_true rfl) ⟨Nat.zero_le _, Nat.zero_le _⟩ dX5_pass_107 (fun H locs hw => ?_)
    exact J110 u13 _ _ _ hf hw (lv_sub hl [0] rfl)
  rw [zf_X5_pass] at hf
  refine lv_aload_n (pc := 0) hx hb dX5_pass_0 rfl (lv_at hl 0 rfl) ?_
  refine lv_iconst (pc := 1) (v := -1) hx hb dX5_pass_1 (by decide) ?_
  refine zk_put (pc := 2) (w' := [xTe a0 ((b_this.1, b_this.2.1, b_this.2.2.1, b_this.2.2.2.1, b_this.2.2.2.2.1, b_this.2.2.2.2.2.1, (-1 : Int32))), xSt p2_0 p2_1 p2_2 p2_3 p2_4 b_p2.1, xI cy p2_1 8 b_p2.2.1, xI cy p2_2 8 b_p2.2.2.1, xI cy p2_3 8 b_p2.2.2.2.1, xI cy p2_4 8 b_p2.2.2.2.2]) C hw zp_X5_31 0 rfl rfl rfl (Nat.le_of_ble_eq_true rfl) rfl dX5_pass_2 (fun H locs hw => ?_)
  refine lv_iload_n (pc := 5) hx hb dX5_pass_5 rfl (lv_at hl 1 rfl) ?_
  refine lv_bipush (pc := 6) (v := 10) hx hb dX5_pass_6 (by decide) ?_
  refine lv_icmp_ne (pc := 8) (tgt := 18) hx hb dX5_pass_8 (by decide) (fun q1 => ?_) (fun q1 => ?_)
  · replace hf := if_f q1 hf
    refine lv_aload_n (pc := 18) hx hb dX5_pass_18 rfl (lv_at hl 2 rfl) ?_
    refine lv_iload_n (pc := 19) hx hb dX5_pass_19 rfl (lv_at hl 1 rfl) ?_
    refine lv_aload_n (pc := 20) hx hb dX5_pass_20 rfl (lv_at hl 0 rfl) ?_
    obtain ⟨u2, u2e, hf⟩ := bd hf
    refine zk_cV (pc := 21) (ci := 2) (q0 := 1) (rest := []) (st1 := [.int (bI u2)]) (w' := [xTe a0 ((b_this.1, b_this.2.1, b_this.2.2.1, b_this.2.2.2.1, b_this.2.2.2.2.1, b_this.2.2.2.2.2.1, (-1 : Int32))), xSt p2_0 p2_1 p2_2 p2_3 p2_4 b_p2.1, xI cy p2_1 8 b_p2.2.1, xI cy p2_2 8 b_p2.2.2.1, xI cy p2_3 8 b_p2.2.2.2.1, xI cy p2_4 8 b_p2.2.2.2.2]) (mk := [none, none, none, none, none, none]) C hw (c_X2_remains l G cy tt p2_0 p2_1 p2_2 p2_3 p2_4 a0 x1 b_p2 ((b_this.1, b_this.2.1, b_this.2.2.1, b_this.2.2.2.1, b_this.2.2.2.2.1, b_this.2.2.2.2.2.1, (-1 : Int32))) _ u2e) zy_X2_remains zm_X5_37 rfl rfl rfl [1, 2, 3, 4, 5, 0] rfl rfl rfl rfl rfl rfl rfl rfl hl.1 ⟨rfl, rfl⟩ ⟨Nat.le_of_ble_eq_true rfl, Nat.le_of_ble_eq_true rfl⟩ rfl (Nat.le_of_ble_eq_true rfl) ⟨Nat.zero_le _, Nat.zero_le _⟩ dX5_pass_21 (fun H locs hw => ?_)
    refine zk_ifz (pc := 24) (tgt := 66) hx hb dX5_pass_24 (by decide) (fun q3 => ?_) (fun q3 => ?_)
    · replace hf := if_f q3 hf
      refine lv_aload_n (pc := 66) hx hb dX5_pass_66 rfl (lv_at hl 0 rfl) ?_
      refine lv_iload_n (pc := 67) hx hb dX5_pass_67 rfl (lv_at hl 1 rfl) ?_
      refine zk_put (pc := 68) (w' := [xTe a0 ((b_this.1, b_this.2.1, b_this.2.2.1, b_this.2.2.2.1, b_this.2.2.2.2.1, b_this.2.2.2.2.2.1, x1)), xSt p2_0 p2_1 p2_2 p2_3 p2_4 b_p2.1, xI cy p2_1 8 b_p2.2.1, xI cy p2_2 8 b_p2.2.2.1, xI cy p2_3 8 b_p2.2.2.2.1, xI cy p2_4 8 b_p2.2.2.2.2]) C hw zp_X5_31 0 rfl rfl rfl (Nat.le_of_ble_eq_true rfl) rfl dX5_pass_68 (fun H locs hw => ?_)
      refine lv_aload_n (pc := 71) hx hb dX5_pass_71 rfl (lv_at hl 0 rfl) ?_
      refine lv_bipush (pc := 72) (v := 99) hx hb dX5_pass_72 (by decide) ?_
      refine lv_aload_n (pc := 74) hx hb dX5_pass_74 rfl (lv_at hl 0 rfl) ?_
      refine zk_gt (pc := 75) C hw zl_X5_9 0 rfl rfl dX5_pass_75 ?_
      refine lv_iconst (pc := 78) (v := 2) hx hb dX5_pass_78 (by decide) ?_
      refine lv_aload_n (pc := 79) hx hb dX5_pass_79 rfl (lv_at hl 0 rfl) ?_
      refine zk_gt (pc := 80) C hw zl_X5_18 0 rfl rfl dX5_pass_80 ?_
      refine lv_imul (pc := 83) hx hb dX5_pass_83 ?_
      refine lv_iadd (pc := 84) hx hb dX5_pass_84 ?_
      refine zk_min (pc := 85) C hl.1 zm_X5_55 ⟨Nat.le_of_ble_eq_true rfl, Nat.le_of_ble_eq_true rfl⟩ ⟨Nat.zero_le _, Nat.zero_le _⟩ dX5_pass_85 ?_
      refine zk_put (pc := 88) (w' := [xTe a0 (((if (b_this.1 + ((2 : Int32) * b_this.2.2.1)) < (99 : Int32) then (b_this.1 + ((2 : Int32) * b_this.2.2.1)) else (99 : Int32)), b_this.2.1, b_this.2.2.1, b_this.2.2.2.1, b_this.2.2.2.2.1, b_this.2.2.2.2.2.1, x1)), xSt p2_0 p2_1 p2_2 p2_3 p2_4 b_p2.1, xI cy p2_1 8 b_p2.2.1, xI cy p2_2 8 b_p2.2.2.1, xI cy p2_3 8 b_p2.2.2.2.1, xI cy p2_4 8 b_p2.2.2.2.2]) C hw zp_X5_9 0 rfl rfl rfl (Nat.le_of_ble_eq_true rfl) rfl dX5_pass_88 (fun H locs hw => ?_)
      refine lv_aload_n (pc := 91) hx hb dX5_pass_91 rfl (lv_at hl 0 rfl) ?_
      refine lv_aload_n (pc := 92) hx hb dX5_pass_92 rfl (lv_at hl 0 rfl) ?_
      refine zk_gt (pc := 93) C hw zl_X5_24 0 rfl rfl dX5_pass_93 ?_
      refine lv_bipush (pc := 96) (v := 12) hx hb dX5_pass_96 (by decide) ?_
      refine lv_irem (pc := 98) hx hb dX5_pass_98 (by decide) ?_
      refine lv_if_ne (pc := 99) (tgt := 106) hx hb dX5_pass_99 (by decide) (fun q4 => ?_) (fun q4 => ?_)
      · replace hf := if_f q4 hf
        refine lv_iconst (pc := 106) (v := 0) hx hb dX5_pass_106 (by decide) ?_
        exact J107 false (((if (b_this.1 + ((2 : Int32) * b_this.2.2.1)) < (99 : Int32) then (b_this.1 + ((2 : Int32) * b_this.2.2.1)) else (99 : Int32)), b_this.2.1, b_this.2.2.1, b_this.2.2.2.1, b_this.2.2.2.2.1, b_this.2.2.2.2.2.1, x1)) _ _ _ hf hw (lv_sub hl [0] rfl)
      · replace hf := if_t q4 hf
        refine lv_iconst (pc := 102) (v := 1) hx hb dX5_pass_102 (by decide) ?_
        refine lv_goto (pc := 103) (tgt := 107) hx hb dX5_pass_103 (by decide) ?_
        exact J107 true (((if (b_this.1 + ((2 : Int32) * b_this.2.2.1)) < (99 : Int32) then (b_this.1 + ((2 : Int32) * b_this.2.2.1)) else (99 : Int32)), b_this.2.1, b_this.2.2.1, b_this.2.2.2.1, b_this.2.2.2.2.1, b_this.2.2.2.2.2.1, x1)) _ _ _ hf hw (lv_sub hl [0] rfl)
    · replace hf := if_t q3 hf
      refine lv_aload_n (pc := 27) hx hb dX5_pass_27 rfl (lv_at hl 0 rfl) ?_
      refine lv_aload_n (pc := 28) hx hb dX5_pass_28 rfl (lv_at hl 2 rfl) ?_
      refine lv_iload_n (pc := 29) hx hb dX5_pass_29 rfl (lv_at hl 1 rfl) ?_
      refine lv_aload_n (pc := 30) hx hb dX5_pass_30 rfl (lv_at hl 0 rfl) ?_
      obtain ⟨u5, u5e, hf⟩ := bd hf
      refine zk_cV (pc := 31) (ci := 2) (q0 := 1) (rest := [.ref a0]) (st1 := [.int u5, .ref a0]) (w' := [xTe a0 ((b_this.1, b_this.2.1, b_this.2.2.1, b_this.2.2.2.1, b_this.2.2.2.2.1, b_this.2.2.2.2.2.1, (-1 : Int32))), xSt p2_0 p2_1 p2_2 p2_3 p2_4 b_p2.1, xI cy p2_1 8 b_p2.2.1, xI cy p2_2 8 b_p2.2.2.1, xI cy p2_3 8 b_p2.2.2.2.1, xI cy p2_4 8 b_p2.2.2.2.2]) (mk := [none, none, none, none, none, none]) C hw (c_X2_soothed l G cy tt p2_0 p2_1 p2_2 p2_3 p2_4 a0 x1 b_p2 ((b_this.1, b_this.2.1, b_this.2.2.1, b_this.2.2.2.1, b_this.2.2.2.2.1, b_this.2.2.2.2.2.1, (-1 : Int32))) _ u5e) zy_X2_soothed zm_X5_43 rfl rfl rfl [1, 2, 3, 4, 5, 0] rfl rfl rfl rfl rfl rfl rfl rfl hl.1 ⟨rfl, rfl⟩ ⟨Nat.le_of_ble_eq_true rfl, Nat.le_of_ble_eq_true rfl⟩ rfl (Nat.le_of_ble_eq_true rfl) ⟨Nat.zero_le _, Nat.zero_le _⟩ dX5_pass_31 (fun H locs hw => ?_)
      refine zk_put (pc := 34) (w' := [xTe a0 ((u5, b_this.2.1, b_this.2.2.1, b_this.2.2.2.1, b_this.2.2.2.2.1, b_this.2.2.2.2.2.1, (-1 : Int32))), xSt p2_0 p2_1 p2_2 p2_3 p2_4 b_p2.1, xI cy p2_1 8 b_p2.2.1, xI cy p2_2 8 b_p2.2.2.1, xI cy p2_3 8 b_p2.2.2.2.1, xI cy p2_4 8 b_p2.2.2.2.2]) C hw zp_X5_9 0 rfl rfl rfl (Nat.le_of_ble_eq_true rfl) rfl dX5_pass_34 (fun H locs hw => ?_)
      refine lv_aload_n (pc := 37) hx hb dX5_pass_37 rfl (lv_at hl 0 rfl) ?_
      refine lv_aload_n (pc := 38) hx hb dX5_pass_38 rfl (lv_at hl 2 rfl) ?_
      refine lv_iload_n (pc := 39) hx hb dX5_pass_39 rfl (lv_at hl 1 rfl) ?_
      obtain ⟨u6, u6e, hf⟩ := bd hf
      refine zk_cV (pc := 40) (ci := 2) (q0 := 1) (rest := [.ref a0]) (st1 := [.int (bI u6), .ref a0]) (w' := [xTe a0 ((u5, b_this.2.1, b_this.2.2.1, b_this.2.2.2.1, b_this.2.2.2.2.1, b_this.2.2.2.2.2.1, (-1 : Int32))), xSt p2_0 p2_1 p2_2 p2_3 p2_4 b_p2.1, xI cy p2_1 8 b_p2.2.1, xI cy p2_2 8 b_p2.2.2.1, xI cy p2_3 8 b_p2.2.2.2.1, xI cy p2_4 8 b_p2.2.2.2.2]) (mk := [none, none, none, none, none, none]) C hw (c_X2_feeds l G cy tt p2_0 p2_1 p2_2 p2_3 p2_4 x1 b_p2 _ u6e) zy_X2_feeds zm_X5_47 rfl rfl rfl [1, 2, 3, 4, 5] rfl rfl rfl rfl rfl rfl rfl rfl hl.1 ⟨rfl, rfl⟩ ⟨Nat.le_of_ble_eq_true rfl, Nat.le_of_ble_eq_true rfl⟩ rfl (Nat.le_of_ble_eq_true rfl) ⟨Nat.zero_le _, Nat.zero_le _⟩ dX5_pass_40 (fun H locs hw => ?_)
      refine zk_ifz (pc := 43) (tgt := 59) hx hb dX5_pass_43 (by decide) (fun q7 => ?_) (fun q7 => ?_)
      · replace hf := if_f q7 hf
        exact J59 ((u5, b_this.2.1, b_this.2.2.1, b_this.2.2.2.1, b_this.2.2.2.2.1, b_this.2.2.2.2.2.1, (-1 : Int32))) _ _ _ hf hw (lv_sub hl [0] rfl)
      · replace hf := if_t q7 hf
        refine lv_aload_n (pc := 46) hx hb dX5_pass_46 rfl (lv_at hl 0 rfl) ?_
        refine zk_gt (pc := 47) C hw zl_X5_24 0 rfl rfl dX5_pass_47 ?_
        refine lv_iconst (pc := 50) (v := 4) hx hb dX5_pass_50 (by decide) ?_
        refine lv_irem (pc := 51) hx hb dX5_pass_51 (by decide) ?_
        refine lv_if_ne (pc := 52) (tgt := 59) hx hb dX5_pass_52 (by decide) (fun q8 => ?_) (fun q8 => ?_)
        · replace hf := if_f q8 hf
          exact J59 ((u5, b_this.2.1, b_this.2.2.1, b_this.2.2.2.1, b_this.2.2.2.2.1, b_this.2.2.2.2.2.1, (-1 : Int32))) _ _ _ hf hw (lv_sub hl [0] rfl)
        · replace hf := if_t q8 hf
          refine lv_iconst (pc := 55) (v := 1) hx hb dX5_pass_55 (by decide) ?_
          refine lv_goto (pc := 56) (tgt := 60) hx hb dX5_pass_56 (by decide) ?_
          exact J60 true ((u5, b_this.2.1, b_this.2.2.1, b_this.2.2.2.1, b_this.2.2.2.2.1, b_this.2.2.2.2.2.1, (-1 : Int32))) _ _ _ hf hw (lv_sub hl [0] rfl)
  · replace hf := if_t q1 hf
    refine lv_aload_n (pc := 11) hx hb dX5_pass_11 rfl (lv_at hl 0 rfl) ?_
    obtain ⟨u9, u9e, hf⟩ := bd hf
    refine zk_cV (pc := 12) (ci := 5) (q0 := 0) (rest := []) (st1 := []) (w' := [xTe a0 u9, xSt p2_0 p2_1 p2_2 p2_3 p2_4 b_p2.1, xI cy p2_1 8 b_p2.2.1, xI cy p2_2 8 b_p2.2.2.1, xI cy p2_3 8 b_p2.2.2.2.1, xI cy p2_4 8 b_p2.2.2.2.2]) (mk := [some (xTe a0 u9), none, none, none, none, none]) C hw (c_X5_mix l G cy tt a0 ((b_this.1, b_this.2.1, b_this.2.2.1, b_this.2.2.2.1, b_this.2.2.2.2.1, b_this.2.2.2.2.2.1, (-1 : Int32))) _ u9e) zy_X5_mix zm_X5_34 rfl rfl rfl [0] rfl rfl rfl rfl rfl rfl rfl rfl hl.1 ⟨rfl, rfl⟩ ⟨Nat.le_of_ble_eq_true rfl, Nat.le_of_ble_eq_true rfl⟩ rfl (Nat.le_of_ble_eq_true rfl) ⟨Nat.zero_le _, Nat.zero_le _⟩ dX5_pass_12 (fun H locs hw => ?_)
    refine lv_goto (pc := 15) (tgt := 110) hx hb dX5_pass_15 (by decide) ?_
    exact J110 u9 _ _ _ hf hw (lv_sub hl [0] rfl)
def zf_X7_tryHour (x1 : Int32) (b_now : TTe) (b_trial : TTe) (b_staff : TSt) : Option (TTe) := (Option.bind (zf_X5_become b_trial b_now) (fun u1 => (Option.bind (zf_X5_pass x1 u1 b_staff) (fun u2 => some (u2)))))
abbrev zr_X7_tryHour : Room := { frames := 3, cells := 0, slots := 0, locals := 68 }
set_option maxHeartbeats 4000000 in
set_option maxRecDepth 100000 in
theorem c_X7_tryHour (l : Launch) (G : va_G) (cy : Nat → ClassId) (tt : Nat → Nat) (L : Nat → Nat) (b_seedNow : Int32) (b_keptSeed : Int32) (b_isKept : Bool) (x1 : Int32) (b_now : TTe) (b_trial : TTe) (b_staff : TSt) (res : TTe) (hf : zf_X7_tryHour x1 b_now b_trial b_staff = some res) : zCT l yX7_tryHour cX7_tryHour 2 none zr_X7_tryHour G cy tt [.ref ((L 0)), .int x1] [xU L b_seedNow b_keptSeed b_isKept, xTe ((L 1)) b_now, xTe ((L 2)) b_trial, xSt ((L 5)) ((L 6)) ((L 7)) ((L 8)) ((L 9)) b_staff.1, xI cy ((L 6)) 8 b_staff.2.1, xI cy ((L 7)) 8 b_staff.2.2.1, xI cy ((L 8)) 8 b_staff.2.2.2.1, xI cy ((L 9)) 8 b_staff.2.2.2.2] none [xU L b_seedNow b_keptSeed b_isKept, xTe ((L 1)) b_now, xTe ((L 2)) res, xSt ((L 5)) ((L 6)) ((L 7)) ((L 8)) ((L 9)) b_staff.1, xI cy ((L 6)) 8 b_staff.2.1, xI cy ((L 7)) 8 b_staff.2.2.1, xI cy ((L 8)) 8 b_staff.2.2.2.1, xI cy ((L 9)) 8 b_staff.2.2.2.2] := by
  refine zk_start zn_X7 (Nat.le_of_ble_eq_true rfl) ?_
  intro p e s m args below meth c A ls Q C hr hQ hw hl
  have C : zCx p m c s args meth cX7_tryHour 2 RX7 G cy tt A := C
  have hx := C.1.1
  have hb := C.1.2.1
  have hl : lv_has ls 2 [(0, .ref ((L 0))), (1, .int x1)] := hl
  rw [zf_X7_tryHour] at hf
  refine lv_aload_n (pc := 0) hx hb dX7_tryHour_0 rfl (lv_at hl 0 rfl) ?_
  refine zk_gt (pc := 1) C hw zl_X7_16 0 rfl rfl dX7_tryHour_1 ?_
  refine lv_aload_n (pc := 4) hx hb dX7_tryHour_4 rfl (lv_at hl 0 rfl) ?_
  refine zk_gt (pc := 5) C hw zl_X7_10 0 rfl rfl dX7_tryHour_5 ?_
  obtain ⟨u1, u1e, hf⟩ := bd hf
  refine zk_cV (pc := 8) (ci := 5) (q0 := 2) (rest := []) (st1 := []) (w' := [xU L b_seedNow b_keptSeed b_isKept, xTe ((L 1)) b_now, xTe ((L 2)) u1, xSt ((L 5)) ((L 6)) ((L 7)) ((L 8)) ((L 9)) b_staff.1, xI cy ((L 6)) 8 b_staff.2.1, xI cy ((L 7)) 8 b_staff.2.2.1, xI cy ((L 8)) 8 b_staff.2.2.2.1, xI cy ((L 9)) 8 b_staff.2.2.2.2]) (mk := [none, none, some (xTe ((L 2)) u1), none, none, none, none, none]) C hw (c_X5_become l G cy tt ((L 2)) ((L 1)) b_trial b_now _ u1e) zy_X5_become zm_X7_193 rfl rfl rfl [2, 1] rfl rfl rfl rfl rfl rfl rfl rfl hl.1 ⟨rfl, rfl⟩ ⟨Nat.le_of_ble_eq_true rfl, Nat.le_of_ble_eq_true rfl⟩ rfl (Nat.le_of_ble_eq_true rfl) ⟨Nat.zero_le _, Nat.zero_le _⟩ dX7_tryHour_8 (fun H locs hw => ?_)
  refine lv_aload_n (pc := 11) hx hb dX7_tryHour_11 rfl (lv_at hl 0 rfl) ?_
  refine zk_gt (pc := 12) C hw zl_X7_16 0 rfl rfl dX7_tryHour_12 ?_
  refine lv_iload_n (pc := 15) hx hb dX7_tryHour_15 rfl (lv_at hl 1 rfl) ?_
  refine lv_aload_n (pc := 16) hx hb dX7_tryHour_16 rfl (lv_at hl 0 rfl) ?_
  refine zk_gt (pc := 17) C hw zl_X7_28 0 rfl rfl dX7_tryHour_17 ?_
  obtain ⟨u2, u2e, hf⟩ := bd hf
  refine zk_cV (pc := 20) (ci := 5) (q0 := 2) (rest := []) (st1 := []) (w' := [xU L b_seedNow b_keptSeed b_isKept, xTe ((L 1)) b_now, xTe ((L 2)) u2, xSt ((L 5)) ((L 6)) ((L 7)) ((L 8)) ((L 9)) b_staff.1, xI cy ((L 6)) 8 b_staff.2.1, xI cy ((L 7)) 8 b_staff.2.2.1, xI cy ((L 8)) 8 b_staff.2.2.2.1, xI cy ((L 9)) 8 b_staff.2.2.2.2]) (mk := [none, none, some (xTe ((L 2)) u2), none, none, none, none, none]) C hw (c_X5_pass l G cy tt ((L 2)) ((L 5)) ((L 6)) ((L 7)) ((L 8)) ((L 9)) x1 u1 b_staff _ u2e) zy_X5_pass zm_X7_307 rfl rfl rfl [2, 3, 4, 5, 6, 7] rfl rfl rfl rfl rfl rfl rfl rfl hl.1 ⟨rfl, rfl⟩ ⟨Nat.le_of_ble_eq_true rfl, Nat.le_of_ble_eq_true rfl⟩ rfl (Nat.le_of_ble_eq_true rfl) ⟨Nat.zero_le _, Nat.zero_le _⟩ dX7_tryHour_20 (fun H locs hw => ?_)
  have hf := Option.some.inj hf
  subst hf
  exact zk_retv (pc := 23) (ww := [xU L b_seedNow b_keptSeed b_isKept, xTe ((L 1)) b_now, xTe ((L 2)) u2, xSt ((L 5)) ((L 6)) ((L 7)) ((L 8)) ((L 9)) b_staff.1, xI cy ((L 6)) 8 b_staff.2.1, xI cy ((L 7)) 8 b_staff.2.2.1, xI cy ((L 8)) 8 b_staff.2.2.2.1, xI cy ((L 9)) 8 b_staff.2.2.2.2]) C hw hr hQ dX7_tryHour_23
def zf_X7_after_18 (b_now : TTe) (b_staff : TSt) (b_trial : TTe) (b_refusals : Nat → Int32) : Option (Int32 × TTe × (Nat → Int32)) := (Option.bind (zf_X7_refused (((-2 : Int32))) b_refusals) (fun u9 => some (u9.1, b_trial, u9.2)))
def zf_X7_after (x1 : Int32) (x2 : Int32) (b_now : TTe) (b_trial : TTe) (b_staff : TSt) (b_refusals : Nat → Int32) : Option (Int32 × TTe × (Nat → Int32)) := (Option.bind (zf_X7_isOrder x1.toInt64 b_staff) (fun u1 => (if u1 then (Option.bind (zf_X7_isWithin x2 (((0 : Int32))) (((3 : Int32)))) (fun u3 => (if u3 then (Option.bind (zf_X7_tryHour x1 b_now b_trial b_staff) (fun u5 => (if x2 = (3 : Int32) then (if u5.2.2.2.2.2.1 then some ((1 : Int32), u5, b_refusals) else some ((0 : Int32), u5, b_refusals)) else (Option.bind (zf_X5_measure x2 u5) (fun u7 => some (u7, u5, b_refusals)))))) else zf_X7_after_18 b_now b_staff b_trial b_refusals))) else zf_X7_after_18 b_now b_staff b_trial b_refusals)))
abbrev zr_X7_after : Room := { frames := 4, cells := 0, slots := 0, locals := 89 }
set_option maxHeartbeats 4000000 in
set_option maxRecDepth 100000 in
theorem c_X7_after (l : Launch) (G : va_G) (cy : Nat → ClassId) (tt : Nat → Nat) (L : Nat → Nat) (b_seedNow : Int32) (b_keptSeed : Int32) (b_isKept : Bool) (x1 : Int32) (x2 : Int32) (b_now : TTe) (b_trial : TTe) (b_staff : TSt) (b_refusals : Nat → Int32) (res : Int32 × TTe × (Nat → Int32)) (hf : zf_X7_after x1 x2 b_now b_trial b_staff b_refusals = some res) : zCT l yX7_after cX7_after 3 (some .int) zr_X7_after G cy tt [.ref ((L 0)), .int x1, .int x2] [xU L b_seedNow b_keptSeed b_isKept, xTe ((L 1)) b_now, xTe ((L 2)) b_trial, xSt ((L 5)) ((L 6)) ((L 7)) ((L 8)) ((L 9)) b_staff.1, xI cy ((L 6)) 8 b_staff.2.1, xI cy ((L 7)) 8 b_staff.2.2.1, xI cy ((L 8)) 8 b_staff.2.2.2.1, xI cy ((L 9)) 8 b_staff.2.2.2.2, xI cy ((L 48)) 5 b_refusals] (some (.int res.1)) [xU L b_seedNow b_keptSeed b_isKept, xTe ((L 1)) b_now, xTe ((L 2)) res.2.1, xSt ((L 5)) ((L 6)) ((L 7)) ((L 8)) ((L 9)) b_staff.1, xI cy ((L 6)) 8 b_staff.2.1, xI cy ((L 7)) 8 b_staff.2.2.1, xI cy ((L 8)) 8 b_staff.2.2.2.1, xI cy ((L 9)) 8 b_staff.2.2.2.2, xI cy ((L 48)) 5 res.2.2] := by
  refine zk_start zn_X7 (Nat.le_of_ble_eq_true rfl) ?_
  intro p e s m args below meth c A ls Q C hr hQ hw hl
  have C : zCx p m c s args meth cX7_after 3 RX7 G cy tt A := C
  have hx := C.1.1
  have hb := C.1.2.1
  have hl : lv_has ls 3 [(0, .ref ((L 0))), (1, .int x1), (2, .int x2)] := hl
  have J18 : ∀ (b_trial : TTe) (b_refusals : Nat → Int32) (H : Heap) (locs : List Loc) (ls : Array Slot), zf_X7_after_18 b_now b_staff b_trial b_refusals = some res → zWd G A s.heap H locs [xU L b_seedNow b_keptSeed b_isKept, xTe ((L 1)) b_now, xTe ((L 2)) b_trial, xSt ((L 5)) ((L 6)) ((L 7)) ((L 8)) ((L 9)) b_staff.1, xI cy ((L 6)) 8 b_staff.2.1, xI cy ((L 7)) 8 b_staff.2.2.1, xI cy ((L 8)) 8 b_staff.2.2.2.1, xI cy ((L 9)) 8 b_staff.2.2.2.2, xI cy ((L 48)) 5 b_refusals] → lv_has ls 3 [(0, .ref ((L 0)))] → W p l e zr_X7_after s m args below meth c H locs 0 0 Q (F0 m 18 ls []) := by
    intro b_trial b_refusals H locs ls hf hw hl
    rw [zf_X7_after_18] at hf
    refine lv_aload_n (pc := 18) hx hb dX7_after_18 rfl (lv_at hl 0 rfl) ?_
    refine lv_bipush (pc := 19) (v := -2) hx hb dX7_after_19 (by decide) ?_
    obtain ⟨u9, u9e, hf⟩ := bd hf
    refine zk_cV (pc := 21) (ci := 7) (q0 := 0) (rest := []) (st1 := [.int u9.1]) (w' := [xU L b_seedNow b_keptSeed b_isKept, xTe ((L 1)) b_now, xTe ((L 2)) b_trial, xSt ((L 5)) ((L 6)) ((L 7)) ((L 8)) ((L 9)) b_staff.1, xI cy ((L 6)) 8 b_staff.2.1, xI cy ((L 7)) 8 b_staff.2.2.1, xI cy ((L 8)) 8 b_staff.2.2.2.1, xI cy ((L 9)) 8 b_staff.2.2.2.2, xI cy ((L 48)) 5 u9.2]) (mk := [none, none, none, none, none, none, none, none, some (xI cy ((L 48)) 5 u9.2)]) C hw (c_X7_refused l G cy tt L b_seedNow b_keptSeed b_isKept (((-2 : Int32))) b_refusals _ u9e) zy_X7_refused zm_X7_103 rfl rfl rfl [0, 8] rfl rfl rfl rfl rfl rfl rfl rfl hl.1 ⟨rfl, rfl⟩ ⟨Nat.le_of_ble_eq_true rfl, Nat.le_of_ble_eq_true rfl⟩ rfl (Nat.le_of_ble_eq_true rfl) ⟨Nat.zero_le _, Nat.zero_le _⟩ dX7_after_21 (fun H locs hw => ?_)
    have hf := Option.some.inj hf
    subst hf
    exact zk_reti (pc := 24) (ww := [xU L b_seedNow b_keptSeed b_isKept, xTe ((L 1)) b_now, xTe ((L 2)) b_trial, xSt ((L 5)) ((L 6)) ((L 7)) ((L 8)) ((L 9)) b_staff.1, xI cy ((L 6)) 8 b_staff.2.1, xI cy ((L 7)) 8 b_staff.2.2.1, xI cy ((L 8)) 8 b_staff.2.2.2.1, xI cy ((L 9)) 8 b_staff.2.2.2.2, xI cy ((L 48)) 5 u9.2]) C hw hr hQ dX7_after_24
  rw [zf_X7_after] at hf
  refine lv_aload_n (pc := 0) hx hb dX7_after_0 rfl (lv_at hl 0 rfl) ?_
  refine lv_iload_n (pc := 1) hx hb dX7_after_1 rfl (lv_at hl 1 rfl) ?_
  refine lv_i2l (pc := 2) (v := x1.toInt64) hx hb dX7_after_2 rfl ?_
  obtain ⟨u1, u1e, hf⟩ := bd hf
  refine zk_cV (pc := 3) (ci := 7) (q0 := 0) (rest := []) (st1 := [.int (bI u1)]) (w' := [xU L b_seedNow b_keptSeed b_isKept, xTe ((L 1)) b_now, xTe ((L 2)) b_trial, xSt ((L 5)) ((L 6)) ((L 7)) ((L 8)) ((L 9)) b_staff.1, xI cy ((L 6)) 8 b_staff.2.1, xI cy ((L 7)) 8 b_staff.2.2.1, xI cy ((L 8)) 8 b_staff.2.2.2.1, xI cy ((L 9)) 8 b_staff.2.2.2.2, xI cy ((L 48)) 5 b_refusals]) (mk := [none, none, none, none, none, none, none, none, none]) C hw (c_X7_isOrder l G cy tt L b_seedNow b_keptSeed b_isKept x1.toInt64 b_staff _ u1e) zy_X7_isOrder zm_X7_221 rfl rfl rfl [0, 3, 4, 5, 6, 7] rfl rfl rfl rfl rfl rfl rfl rfl hl.1 ⟨rfl, rfl⟩ ⟨Nat.le_of_ble_eq_true rfl, Nat.le_of_ble_eq_true rfl⟩ rfl (Nat.le_of_ble_eq_true rfl) ⟨Nat.zero_le _, Nat.zero_le _⟩ dX7_after_3 (fun H locs hw => ?_)
  refine zk_ifz (pc := 6) (tgt := 18) hx hb dX7_after_6 (by decide) (fun q2 => ?_) (fun q2 => ?_)
  · replace hf := if_f q2 hf
    exact J18 b_trial b_refusals _ _ _ hf hw (lv_sub hl [0] rfl)
  · replace hf := if_t q2 hf
    refine lv_iload_n (pc := 9) hx hb dX7_after_9 rfl (lv_at hl 2 rfl) ?_
    refine lv_iconst (pc := 10) (v := 0) hx hb dX7_after_10 (by decide) ?_
    refine lv_iconst (pc := 11) (v := 3) hx hb dX7_after_11 (by decide) ?_
    obtain ⟨u3, u3e, hf⟩ := bd hf
    refine zk_cS (pc := 12) (rest := []) (st1 := [.int (bI u3)]) (w' := [xU L b_seedNow b_keptSeed b_isKept, xTe ((L 1)) b_now, xTe ((L 2)) b_trial, xSt ((L 5)) ((L 6)) ((L 7)) ((L 8)) ((L 9)) b_staff.1, xI cy ((L 6)) 8 b_staff.2.1, xI cy ((L 7)) 8 b_staff.2.2.1, xI cy ((L 8)) 8 b_staff.2.2.2.1, xI cy ((L 9)) 8 b_staff.2.2.2.2, xI cy ((L 48)) 5 b_refusals]) (mk := [none, none, none, none, none, none, none, none, none]) C hw (c_X7_isWithin l G cy tt x2 (((0 : Int32))) (((3 : Int32))) _ u3e) zy_X7_isWithin zm_X7_99 [] rfl rfl rfl rfl rfl rfl rfl rfl hl.1 ⟨rfl, rfl⟩ ⟨Nat.le_of_ble_eq_true rfl, Nat.le_of_ble_eq_true rfl⟩ rfl (Nat.le_of_ble_eq_true rfl) ⟨Nat.zero_le _, Nat.zero_le _⟩ dX7_after_12 (fun H locs hw => ?_)
    refine zk_ifnz (pc := 15) (tgt := 25) hx hb dX7_after_15 (by decide) (fun q4 => ?_) (fun q4 => ?_)
    · replace hf := if_t q4 hf
      refine lv_aload_n (pc := 25) hx hb dX7_after_25 rfl (lv_at hl 0 rfl) ?_
      refine lv_iload_n (pc := 26) hx hb dX7_after_26 rfl (lv_at hl 1 rfl) ?_
      obtain ⟨u5, u5e, hf⟩ := bd hf
      refine zk_cV (pc := 27) (ci := 7) (q0 := 0) (rest := []) (st1 := []) (w' := [xU L b_seedNow b_keptSeed b_isKept, xTe ((L 1)) b_now, xTe ((L 2)) u5, xSt ((L 5)) ((L 6)) ((L 7)) ((L 8)) ((L 9)) b_staff.1, xI cy ((L 6)) 8 b_staff.2.1, xI cy ((L 7)) 8 b_staff.2.2.1, xI cy ((L 8)) 8 b_staff.2.2.2.1, xI cy ((L 9)) 8 b_staff.2.2.2.2, xI cy ((L 48)) 5 b_refusals]) (mk := [none, none, some (xTe ((L 2)) u5), none, none, none, none, none, none]) C hw (c_X7_tryHour l G cy tt L b_seedNow b_keptSeed b_isKept x1 b_now b_trial b_staff _ u5e) zy_X7_tryHour zm_X7_225 rfl rfl rfl [0, 1, 2, 3, 4, 5, 6, 7] rfl rfl rfl rfl rfl rfl rfl rfl hl.1 ⟨rfl, rfl⟩ ⟨Nat.le_of_ble_eq_true rfl, Nat.le_of_ble_eq_true rfl⟩ rfl (Nat.le_of_ble_eq_true rfl) ⟨Nat.zero_le _, Nat.zero_le _⟩ dX7_after_27 (fun H locs hw => ?_)
      refine lv_iload_n (pc := 30) hx hb dX7_after_30 rfl (lv_at hl 2 rfl) ?_
      refine lv_iconst (pc := 31) (v := 3) hx hb dX7_after_31 (by decide) ?_
      refine lv_icmp_ne (pc := 32) (tgt := 51) hx hb dX7_after_32 (by decide) (fun q6 => ?_) (fun q6 => ?_)
      · replace hf := if_f q6 hf
        refine lv_aload_n (pc := 51) hx hb dX7_after_51 rfl (lv_at hl 0 rfl) ?_
        refine zk_gt (pc := 52) C hw zl_X7_16 0 rfl rfl dX7_after_52 ?_
        refine lv_iload_n (pc := 55) hx hb dX7_after_55 rfl (lv_at hl 2 rfl) ?_
        obtain ⟨u7, u7e, hf⟩ := bd hf
        refine zk_cV (pc := 56) (ci := 5) (q0 := 2) (rest := []) (st1 := [.int u7]) (w' := [xU L b_seedNow b_keptSeed b_isKept, xTe ((L 1)) b_now, xTe ((L 2)) u5, xSt ((L 5)) ((L 6)) ((L 7)) ((L 8)) ((L 9)) b_staff.1, xI cy ((L 6)) 8 b_staff.2.1, xI cy ((L 7)) 8 b_staff.2.2.1, xI cy ((L 8)) 8 b_staff.2.2.2.1, xI cy ((L 9)) 8 b_staff.2.2.2.2, xI cy ((L 48)) 5 b_refusals]) (mk := [none, none, none, none, none, none, none, none, none]) C hw (c_X5_measure l G cy tt ((L 2)) x2 u5 _ u7e) zy_X5_measure zm_X7_180 rfl rfl rfl [2] rfl rfl rfl rfl rfl rfl rfl rfl hl.1 ⟨rfl, rfl⟩ ⟨Nat.le_of_ble_eq_true rfl, Nat.le_of_ble_eq_true rfl⟩ rfl (Nat.le_of_ble_eq_true rfl) ⟨Nat.zero_le _, Nat.zero_le _⟩ dX7_after_56 (fun H locs hw => ?_)
        have hf := Option.some.inj hf
        subst hf
        exact zk_reti (pc := 59) (ww := [xU L b_seedNow b_keptSeed b_isKept, xTe ((L 1)) b_now, xTe ((L 2)) u5, xSt ((L 5)) ((L 6)) ((L 7)) ((L 8)) ((L 9)) b_staff.1, xI cy ((L 6)) 8 b_staff.2.1, xI cy ((L 7)) 8 b_staff.2.2.1, xI cy ((L 8)) 8 b_staff.2.2.2.1, xI cy ((L 9)) 8 b_staff.2.2.2.2, xI cy ((L 48)) 5 b_refusals]) C hw hr hQ dX7_after_59
      · replace hf := if_t q6 hf
        refine lv_aload_n (pc := 35) hx hb dX7_after_35 rfl (lv_at hl 0 rfl) ?_
        refine zk_gt (pc := 36) C hw zl_X7_16 0 rfl rfl dX7_after_36 ?_
        refine zk_gt (pc := 39) C hw zl_X7_229 2 rfl rfl dX7_after_39 ?_
        refine zk_ifz (pc := 42) (tgt := 49) hx hb dX7_after_42 (by decide) (fun q8 => ?_) (fun q8 => ?_)
        · replace hf := if_f q8 hf
          refine lv_iconst (pc := 49) (v := 0) hx hb dX7_after_49 (by decide) ?_
          have hf := Option.some.inj hf
          subst hf
          exact zk_reti (pc := 50) (ww := [xU L b_seedNow b_keptSeed b_isKept, xTe ((L 1)) b_now, xTe ((L 2)) u5, xSt ((L 5)) ((L 6)) ((L 7)) ((L 8)) ((L 9)) b_staff.1, xI cy ((L 6)) 8 b_staff.2.1, xI cy ((L 7)) 8 b_staff.2.2.1, xI cy ((L 8)) 8 b_staff.2.2.2.1, xI cy ((L 9)) 8 b_staff.2.2.2.2, xI cy ((L 48)) 5 b_refusals]) C hw hr hQ dX7_after_50
        · replace hf := if_t q8 hf
          refine lv_iconst (pc := 45) (v := 1) hx hb dX7_after_45 (by decide) ?_
          refine lv_goto (pc := 46) (tgt := 50) hx hb dX7_after_46 (by decide) ?_
          have hf := Option.some.inj hf
          subst hf
          exact zk_reti (pc := 50) (ww := [xU L b_seedNow b_keptSeed b_isKept, xTe ((L 1)) b_now, xTe ((L 2)) u5, xSt ((L 5)) ((L 6)) ((L 7)) ((L 8)) ((L 9)) b_staff.1, xI cy ((L 6)) 8 b_staff.2.1, xI cy ((L 7)) 8 b_staff.2.2.1, xI cy ((L 8)) 8 b_staff.2.2.2.1, xI cy ((L 9)) 8 b_staff.2.2.2.2, xI cy ((L 48)) 5 b_refusals]) C hw hr hQ dX7_after_50
    · replace hf := if_f q4 hf
      exact J18 b_trial b_refusals _ _ _ hf hw (lv_sub hl [0] rfl)
def zf_X7_orderCount  (b_staff : TSt) : Option (Int32) := some ((b_staff.1 + (2 : Int32)))
abbrev zr_X7_orderCount : Room := { frames := 0, cells := 0, slots := 0, locals := 0 }
set_option maxHeartbeats 4000000 in
set_option maxRecDepth 100000 in
theorem c_X7_orderCount (l : Launch) (G : va_G) (cy : Nat → ClassId) (tt : Nat → Nat) (L : Nat → Nat) (b_seedNow : Int32) (b_keptSeed : Int32) (b_isKept : Bool)  (b_staff : TSt) (res : Int32) (hf : zf_X7_orderCount b_staff = some res) : zCT l yX7_orderCount cX7_orderCount 1 (some .int) zr_X7_orderCount G cy tt [.ref ((L 0))] [xU L b_seedNow b_keptSeed b_isKept, xSt ((L 5)) ((L 6)) ((L 7)) ((L 8)) ((L 9)) b_staff.1, xI cy ((L 6)) 8 b_staff.2.1, xI cy ((L 7)) 8 b_staff.2.2.1, xI cy ((L 8)) 8 b_staff.2.2.2.1, xI cy ((L 9)) 8 b_staff.2.2.2.2] (some (.int res)) [xU L b_seedNow b_keptSeed b_isKept, xSt ((L 5)) ((L 6)) ((L 7)) ((L 8)) ((L 9)) b_staff.1, xI cy ((L 6)) 8 b_staff.2.1, xI cy ((L 7)) 8 b_staff.2.2.1, xI cy ((L 8)) 8 b_staff.2.2.2.1, xI cy ((L 9)) 8 b_staff.2.2.2.2] := by
  refine zk_start zn_X7 (Nat.le_of_ble_eq_true rfl) ?_
  intro p e s m args below meth c A ls Q C hr hQ hw hl
  have C : zCx p m c s args meth cX7_orderCount 1 RX7 G cy tt A := C
  have hx := C.1.1
  have hb := C.1.2.1
  have hl : lv_has ls 1 [(0, .ref ((L 0)))] := hl
  rw [zf_X7_orderCount] at hf
  refine lv_aload_n (pc := 0) hx hb dX7_orderCount_0 rfl (lv_at hl 0 rfl) ?_
  refine zk_gt (pc := 1) C hw zl_X7_28 0 rfl rfl dX7_orderCount_1 ?_
  refine zk_gt (pc := 4) C hw zl_X7_303 1 rfl rfl dX7_orderCount_4 ?_
  refine lv_iconst (pc := 7) (v := 2) hx hb dX7_orderCount_7 (by decide) ?_
  refine lv_iadd (pc := 8) hx hb dX7_orderCount_8 ?_
  have hf := Option.some.inj hf
  subst hf
  exact zk_reti (pc := 9) (ww := [xU L b_seedNow b_keptSeed b_isKept, xSt ((L 5)) ((L 6)) ((L 7)) ((L 8)) ((L 9)) b_staff.1, xI cy ((L 6)) 8 b_staff.2.1, xI cy ((L 7)) 8 b_staff.2.2.1, xI cy ((L 8)) 8 b_staff.2.2.2.1, xI cy ((L 9)) 8 b_staff.2.2.2.2]) C hw hr hQ dX7_orderCount_9
def zf_X2_orderAt (x1 : Int32) (b_this : TSt) : Option (Int32) := (if b_this.1 < x1 then some ((10 : Int32)) else some ((x1 - (1 : Int32))))
abbrev zr_X2_orderAt : Room := { frames := 0, cells := 0, slots := 0, locals := 0 }
set_option maxHeartbeats 4000000 in
set_option maxRecDepth 100000 in
theorem c_X2_orderAt (l : Launch) (G : va_G) (cy : Nat → ClassId) (tt : Nat → Nat) (a0 a1 a2 a3 a4 : Nat) (x1 : Int32) (b_this : TSt) (res : Int32) (hf : zf_X2_orderAt x1 b_this = some res) : zCT l yX2_orderAt cX2_orderAt 2 (some .int) zr_X2_orderAt G cy tt [.ref a0, .int x1] [xSt a0 a1 a2 a3 a4 b_this.1, xI cy a1 8 b_this.2.1, xI cy a2 8 b_this.2.2.1, xI cy a3 8 b_this.2.2.2.1, xI cy a4 8 b_this.2.2.2.2] (some (.int res)) [xSt a0 a1 a2 a3 a4 b_this.1, xI cy a1 8 b_this.2.1, xI cy a2 8 b_this.2.2.1, xI cy a3 8 b_this.2.2.2.1, xI cy a4 8 b_this.2.2.2.2] := by
  refine zk_start zn_X2 (Nat.le_of_ble_eq_true rfl) ?_
  intro p e s m args below meth c A ls Q C hr hQ hw hl
  have C : zCx p m c s args meth cX2_orderAt 2 RX2 G cy tt A := C
  have hx := C.1.1
  have hb := C.1.2.1
  have hl : lv_has ls 2 [(0, .ref a0), (1, .int x1)] := hl
  rw [zf_X2_orderAt] at hf
  refine lv_iload_n (pc := 0) hx hb dX2_orderAt_0 rfl (lv_at hl 1 rfl) ?_
  refine lv_aload_n (pc := 1) hx hb dX2_orderAt_1 rfl (lv_at hl 0 rfl) ?_
  refine zk_gt (pc := 2) C hw zl_X2_9 0 rfl rfl dX2_orderAt_2 ?_
  refine lv_icmp_gt (pc := 5) (tgt := 14) hx hb dX2_orderAt_5 (by decide) (fun q1 => ?_) (fun q1 => ?_)
  · replace hf := if_t q1 hf
    refine lv_bipush (pc := 14) (v := 10) hx hb dX2_orderAt_14 (by decide) ?_
    have hf := Option.some.inj hf
    subst hf
    exact zk_reti (pc := 16) (ww := [xSt a0 a1 a2 a3 a4 b_this.1, xI cy a1 8 b_this.2.1, xI cy a2 8 b_this.2.2.1, xI cy a3 8 b_this.2.2.2.1, xI cy a4 8 b_this.2.2.2.2]) C hw hr hQ dX2_orderAt_16
  · replace hf := if_f q1 hf
    refine lv_iload_n (pc := 8) hx hb dX2_orderAt_8 rfl (lv_at hl 1 rfl) ?_
    refine lv_iconst (pc := 9) (v := 1) hx hb dX2_orderAt_9 (by decide) ?_
    refine lv_isub (pc := 10) hx hb dX2_orderAt_10 ?_
    refine lv_goto (pc := 11) (tgt := 16) hx hb dX2_orderAt_11 (by decide) ?_
    have hf := Option.some.inj hf
    subst hf
    exact zk_reti (pc := 16) (ww := [xSt a0 a1 a2 a3 a4 b_this.1, xI cy a1 8 b_this.2.1, xI cy a2 8 b_this.2.2.1, xI cy a3 8 b_this.2.2.2.1, xI cy a4 8 b_this.2.2.2.2]) C hw hr hQ dX2_orderAt_16
def zf_X7_bestNow_91 (b_now : TTe) (b_staff : TSt) (k24 : Int32 → Int32 → Int32 → Int32 → TTe → (Nat → Int32) → Option (Int32 × TTe × (Nat → Int32))) (v1 : Int32) (v2 : Int32) (v3 : Int32) (v4 : Int32) (b_trial : TTe) (b_refusals : Nat → Int32) : Option (Int32 × TTe × (Nat → Int32)) := k24 v1 v2 v3 ((v4 + 1)) b_trial b_refusals
def zf_X7_bestNow_70 (b_now : TTe) (b_staff : TSt) (k24 : Int32 → Int32 → Int32 → Int32 → TTe → (Nat → Int32) → Option (Int32 × TTe × (Nat → Int32))) (v1 : Int32) (v2 : Int32) (v3 : Int32) (v4 : Int32) (t0 : Int32) (b_trial : TTe) (b_refusals : Nat → Int32) : Option (Int32 × TTe × (Nat → Int32)) := (if v3 ≤ t0 then zf_X7_bestNow_91 b_now b_staff k24 v1 v2 v3 v4 b_trial b_refusals else (Option.bind (zf_X2_orderAt v4 b_staff) (fun u11 => zf_X7_bestNow_91 b_now b_staff k24 v1 u11 t0 v4 b_trial b_refusals)))
def zf_X7_bestNow_24 (b_now : TTe) (b_staff : TSt) : Nat → Int32 → Int32 → Int32 → Int32 → TTe → (Nat → Int32) → Option (Int32 × TTe × (Nat → Int32))
  | 0, _, _, _, _, _, _ => none
  | n + 1, v1, v2, v3, v4, b_trial, b_refusals => (Option.bind (zf_X7_orderCount b_staff) (fun u4 => (if u4 ≤ v4 then some (v2, b_trial, b_refusals) else (Option.bind (zf_X2_orderAt v4 b_staff) (fun u6 => (Option.bind (zf_X7_tryHour u6 b_now b_trial b_staff) (fun u7 => (if v1 = (1 : Int32) then zf_X7_bestNow_70 b_now b_staff (zf_X7_bestNow_24 b_now b_staff n) v1 v2 v3 v4 ((-u7.2.1)) u7 b_refusals else (Option.bind (zf_X5_measure v1 u7) (fun u9 => zf_X7_bestNow_70 b_now b_staff (zf_X7_bestNow_24 b_now b_staff n) v1 v2 v3 v4 u9 u7 b_refusals))))))))))
def zf_X7_bestNow (x1 : Int32) (b_now : TTe) (b_trial : TTe) (b_staff : TSt) (b_refusals : Nat → Int32) : Option (Int32 × TTe × (Nat → Int32)) := (Option.bind (zf_X7_isWithin x1 (((0 : Int32))) (((2 : Int32)))) (fun u1 => (if u1 then zf_X7_bestNow_24 b_now b_staff FU x1 ((-1 : Int32)) ((1000000 : Int32)) ((0 : Int32)) b_trial b_refusals else (Option.bind (zf_X7_refused (((-2 : Int32))) b_refusals) (fun u3 => some (u3.1, b_trial, u3.2))))))
abbrev zr_X7_bestNow : Room := { frames := 4, cells := 0, slots := 0, locals := 89 }
set_option maxHeartbeats 4000000 in
set_option maxRecDepth 100000 in
theorem c_X7_bestNow (l : Launch) (G : va_G) (cy : Nat → ClassId) (tt : Nat → Nat) (L : Nat → Nat) (b_seedNow : Int32) (b_keptSeed : Int32) (b_isKept : Bool) (x1 : Int32) (b_now : TTe) (b_trial : TTe) (b_staff : TSt) (b_refusals : Nat → Int32) (res : Int32 × TTe × (Nat → Int32)) (hf : zf_X7_bestNow x1 b_now b_trial b_staff b_refusals = some res) : zCT l yX7_bestNow cX7_bestNow 6 (some .int) zr_X7_bestNow G cy tt [.ref ((L 0)), .int x1] [xU L b_seedNow b_keptSeed b_isKept, xTe ((L 1)) b_now, xTe ((L 2)) b_trial, xSt ((L 5)) ((L 6)) ((L 7)) ((L 8)) ((L 9)) b_staff.1, xI cy ((L 6)) 8 b_staff.2.1, xI cy ((L 7)) 8 b_staff.2.2.1, xI cy ((L 8)) 8 b_staff.2.2.2.1, xI cy ((L 9)) 8 b_staff.2.2.2.2, xI cy ((L 48)) 5 b_refusals] (some (.int res.1)) [xU L b_seedNow b_keptSeed b_isKept, xTe ((L 1)) b_now, xTe ((L 2)) res.2.1, xSt ((L 5)) ((L 6)) ((L 7)) ((L 8)) ((L 9)) b_staff.1, xI cy ((L 6)) 8 b_staff.2.1, xI cy ((L 7)) 8 b_staff.2.2.1, xI cy ((L 8)) 8 b_staff.2.2.2.1, xI cy ((L 9)) 8 b_staff.2.2.2.2, xI cy ((L 48)) 5 res.2.2] := by
  refine zk_start zn_X7 (Nat.le_of_ble_eq_true rfl) ?_
  intro p e s m args below meth c A ls Q C hr hQ hw hl
  have C : zCx p m c s args meth cX7_bestNow 6 RX7 G cy tt A := C
  have hx := C.1.1
  have hb := C.1.2.1
  have hl : lv_has ls 6 [(0, .ref ((L 0))), (1, .int x1)] := hl
  have J91 : ∀ (k24 : Int32 → Int32 → Int32 → Int32 → TTe → (Nat → Int32) → Option (Int32 × TTe × (Nat → Int32))) (K24 : ∀ (v1 : Int32) (v2 : Int32) (v3 : Int32) (v4 : Int32) (b_trial : TTe) (b_refusals : Nat → Int32) (H : Heap) (locs : List Loc) (ls : Array Slot), k24 v1 v2 v3 v4 b_trial b_refusals = some res → zWd G A s.heap H locs [xU L b_seedNow b_keptSeed b_isKept, xTe ((L 1)) b_now, xTe ((L 2)) b_trial, xSt ((L 5)) ((L 6)) ((L 7)) ((L 8)) ((L 9)) b_staff.1, xI cy ((L 6)) 8 b_staff.2.1, xI cy ((L 7)) 8 b_staff.2.2.1, xI cy ((L 8)) 8 b_staff.2.2.2.1, xI cy ((L 9)) 8 b_staff.2.2.2.2, xI cy ((L 48)) 5 b_refusals] → lv_has ls 6 [(0, .ref ((L 0))), (1, .int v1), (2, .int v2), (3, .int v3), (4, .int v4)] → W p l e zr_X7_bestNow s m args below meth c H locs 0 0 Q (F0 m 24 ls [])), ∀ (v1 : Int32) (v2 : Int32) (v3 : Int32) (v4 : Int32) (b_trial : TTe) (b_refusals : Nat → Int32) (H : Heap) (locs : List Loc) (ls : Array Slot), zf_X7_bestNow_91 b_now b_staff k24 v1 v2 v3 v4 b_trial b_refusals = some res → zWd G A s.heap H locs [xU L b_seedNow b_keptSeed b_isKept, xTe ((L 1)) b_now, xTe ((L 2)) b_trial, xSt ((L 5)) ((L 6)) ((L 7)) ((L 8)) ((L 9)) b_staff.1, xI cy ((L 6)) 8 b_staff.2.1, xI cy ((L 7)) 8 b_staff.2.2.1, xI cy ((L 8)) 8 b_staff.2.2.2.1, xI cy ((L 9)) 8 b_staff.2.2.2.2, xI cy ((L 48)) 5 b_refusals] → lv_has ls 6 [(0, .ref ((L 0))), (1, .int v1), (2, .int v2), (3, .int v3), (4, .int v4)] → W p l e zr_X7_bestNow s m args below meth c H locs 0 0 Q (F0 m 91 ls []) := by
    intro k24 K24 v1 v2 v3 v4 b_trial b_refusals H locs ls hf hw hl
    rw [zf_X7_bestNow_91] at hf
    refine lv_iinc (pc := 91) (v := (v4 + 1)) (lv' := [(4, .int ((v4 + 1))), (0, .ref ((L 0))), (1, .int v1), (2, .int v2), (3, .int v3)]) hx hb dX7_bestNow_91 hl (k := 4) rfl rfl (by decide) rfl (fun ls hl => ?_)
    refine lv_goto (pc := 94) (tgt := 24) hx hb dX7_bestNow_94 (by decide) ?_
    exact K24 v1 v2 v3 ((v4 + 1)) b_trial b_refusals _ _ _ hf hw (lv_sub hl [1, 2, 3, 4, 0] rfl)
  have J70 : ∀ (k24 : Int32 → Int32 → Int32 → Int32 → TTe → (Nat → Int32) → Option (Int32 × TTe × (Nat → Int32))) (K24 : ∀ (v1 : Int32) (v2 : Int32) (v3 : Int32) (v4 : Int32) (b_trial : TTe) (b_refusals : Nat → Int32) (H : Heap) (locs : List Loc) (ls : Array Slot), k24 v1 v2 v3 v4 b_trial b_refusals = some res → zWd G A s.heap H locs [xU L b_seedNow b_keptSeed b_isKept, xTe ((L 1)) b_now, xTe ((L 2)) b_trial, xSt ((L 5)) ((L 6)) ((L 7)) ((L 8)) ((L 9)) b_staff.1, xI cy ((L 6)) 8 b_staff.2.1, xI cy ((L 7)) 8 b_staff.2.2.1, xI cy ((L 8)) 8 b_staff.2.2.2.1, xI cy ((L 9)) 8 b_staff.2.2.2.2, xI cy ((L 48)) 5 b_refusals] → lv_has ls 6 [(0, .ref ((L 0))), (1, .int v1), (2, .int v2), (3, .int v3), (4, .int v4)] → W p l e zr_X7_bestNow s m args below meth c H locs 0 0 Q (F0 m 24 ls [])), ∀ (v1 : Int32) (v2 : Int32) (v3 : Int32) (v4 : Int32) (t0 : Int32) (b_trial : TTe) (b_refusals : Nat → Int32) (H : Heap) (locs : List Loc) (ls : Array Slot), zf_X7_bestNow_70 b_now b_staff k24 v1 v2 v3 v4 t0 b_trial b_refusals = some res → zWd G A s.heap H locs [xU L b_seedNow b_keptSeed b_isKept, xTe ((L 1)) b_now, xTe ((L 2)) b_trial, xSt ((L 5)) ((L 6)) ((L 7)) ((L 8)) ((L 9)) b_staff.1, xI cy ((L 6)) 8 b_staff.2.1, xI cy ((L 7)) 8 b_staff.2.2.1, xI cy ((L 8)) 8 b_staff.2.2.2.1, xI cy ((L 9)) 8 b_staff.2.2.2.2, xI cy ((L 48)) 5 b_refusals] → lv_has ls 6 [(0, .ref ((L 0))), (1, .int v1), (2, .int v2), (3, .int v3), (4, .int v4)] → W p l e zr_X7_bestNow s m args below meth c H locs 0 0 Q (F0 m 70 ls [.int t0]) := by
    intro k24 K24 v1 v2 v3 v4 t0 b_trial b_refusals H locs ls hf hw hl
    rw [zf_X7_bestNow_70] at hf
    refine lv_istore (pc := 70) (lv' := [(5, .int t0), (0, .ref ((L 0))), (1, .int v1), (2, .int v2), (3, .int v3), (4, .int v4)]) hx hb dX7_bestNow_70 hl (by decide) rfl (fun ls hl => ?_)
    refine lv_iload (pc := 72) hx hb dX7_bestNow_72 (lv_at hl 0 rfl) ?_
    refine lv_iload_n (pc := 74) hx hb dX7_bestNow_74 rfl (lv_at hl 4 rfl) ?_
    refine lv_icmp_ge (pc := 75) (tgt := 91) hx hb dX7_bestNow_75 (by decide) (fun q10 => ?_) (fun q10 => ?_)
    · replace hf := if_t q10 hf
      exact J91 k24 K24 v1 v2 v3 v4 b_trial b_refusals _ _ _ hf hw (lv_sub hl [1, 2, 3, 4, 5] rfl)
    · replace hf := if_f q10 hf
      refine lv_iload (pc := 78) hx hb dX7_bestNow_78 (lv_at hl 0 rfl) ?_
      refine lv_istore_n (pc := 80) (lv' := [(3, .int t0), (5, .int t0), (0, .ref ((L 0))), (1, .int v1), (2, .int v2), (4, .int v4)]) hx hb dX7_bestNow_80 rfl hl (by decide) rfl (fun ls hl => ?_)
      refine lv_aload_n (pc := 81) hx hb dX7_bestNow_81 rfl (lv_at hl 2 rfl) ?_
      refine zk_gt (pc := 82) C hw zl_X7_28 0 rfl rfl dX7_bestNow_82 ?_
      refine lv_iload (pc := 85) hx hb dX7_bestNow_85 (lv_at hl 5 rfl) ?_
      obtain ⟨u11, u11e, hf⟩ := bd hf
      refine zk_cV (pc := 87) (ci := 2) (q0 := 3) (rest := []) (st1 := [.int u11]) (w' := [xU L b_seedNow b_keptSeed b_isKept, xTe ((L 1)) b_now, xTe ((L 2)) b_trial, xSt ((L 5)) ((L 6)) ((L 7)) ((L 8)) ((L 9)) b_staff.1, xI cy ((L 6)) 8 b_staff.2.1, xI cy ((L 7)) 8 b_staff.2.2.1, xI cy ((L 8)) 8 b_staff.2.2.2.1, xI cy ((L 9)) 8 b_staff.2.2.2.2, xI cy ((L 48)) 5 b_refusals]) (mk := [none, none, none, none, none, none, none, none, none]) C hw (c_X2_orderAt l G cy tt ((L 5)) ((L 6)) ((L 7)) ((L 8)) ((L 9)) v4 b_staff _ u11e) zy_X2_orderAt zm_X7_236 rfl rfl rfl [3, 4, 5, 6, 7] rfl rfl rfl rfl rfl rfl rfl rfl hl.1 ⟨rfl, rfl⟩ ⟨Nat.le_of_ble_eq_true rfl, Nat.le_of_ble_eq_true rfl⟩ rfl (Nat.le_of_ble_eq_true rfl) ⟨Nat.zero_le _, Nat.zero_le _⟩ dX7_bestNow_87 (fun H locs hw => ?_)
      refine lv_istore_n (pc := 90) (lv' := [(2, .int u11), (3, .int t0), (5, .int t0), (0, .ref ((L 0))), (1, .int v1), (4, .int v4)]) hx hb dX7_bestNow_90 rfl hl (by decide) rfl (fun ls hl => ?_)
      exact J91 k24 K24 v1 u11 t0 v4 b_trial b_refusals _ _ _ hf hw (lv_sub hl [3, 4, 0, 1, 5] rfl)
  have J24 : ∀ (n : Nat), ∀ (v1 : Int32) (v2 : Int32) (v3 : Int32) (v4 : Int32) (b_trial : TTe) (b_refusals : Nat → Int32) (H : Heap) (locs : List Loc) (ls : Array Slot), zf_X7_bestNow_24 b_now b_staff n v1 v2 v3 v4 b_trial b_refusals = some res → zWd G A s.heap H locs [xU L b_seedNow b_keptSeed b_isKept, xTe ((L 1)) b_now, xTe ((L 2)) b_trial, xSt ((L 5)) ((L 6)) ((L 7)) ((L 8)) ((L 9)) b_staff.1, xI cy ((L 6)) 8 b_staff.2.1, xI cy ((L 7)) 8 b_staff.2.2.1, xI cy ((L 8)) 8 b_staff.2.2.2.1, xI cy ((L 9)) 8 b_staff.2.2.2.2, xI cy ((L 48)) 5 b_refusals] → lv_has ls 6 [(0, .ref ((L 0))), (1, .int v1), (2, .int v2), (3, .int v3), (4, .int v4)] → W p l e zr_X7_bestNow s m args below meth c H locs 0 0 Q (F0 m 24 ls []) := by
    intro n
    induction n with
    | zero =>
      intro v1 v2 v3 v4 b_trial b_refusals H locs ls hf hw hl
      rw [zf_X7_bestNow_24] at hf
      cases hf
    | succ n ih =>
      intro v1 v2 v3 v4 b_trial b_refusals H locs ls hf hw hl
      rw [zf_X7_bestNow_24] at hf
      refine lv_iload (pc := 24) hx hb dX7_bestNow_24 (lv_at hl 4 rfl) ?_
      refine lv_aload_n (pc := 26) hx hb dX7_bestNow_26 rfl (lv_at hl 0 rfl) ?_
      obtain ⟨u4, u4e, hf⟩ := bd hf
      refine zk_cV (pc := 27) (ci := 7) (q0 := 0) (rest := [.int v4]) (st1 := [.int u4, .int v4]) (w' := [xU L b_seedNow b_keptSeed b_isKept, xTe ((L 1)) b_now, xTe ((L 2)) b_trial, xSt ((L 5)) ((L 6)) ((L 7)) ((L 8)) ((L 9)) b_staff.1, xI cy ((L 6)) 8 b_staff.2.1, xI cy ((L 7)) 8 b_staff.2.2.1, xI cy ((L 8)) 8 b_staff.2.2.2.1, xI cy ((L 9)) 8 b_staff.2.2.2.2, xI cy ((L 48)) 5 b_refusals]) (mk := [none, none, none, none, none, none, none, none, none]) C hw (c_X7_orderCount l G cy tt L b_seedNow b_keptSeed b_isKept b_staff _ u4e) zy_X7_orderCount zm_X7_233 rfl rfl rfl [0, 3, 4, 5, 6, 7] rfl rfl rfl rfl rfl rfl rfl rfl hl.1 ⟨rfl, rfl⟩ ⟨Nat.le_of_ble_eq_true rfl, Nat.le_of_ble_eq_true rfl⟩ rfl (Nat.le_of_ble_eq_true rfl) ⟨Nat.zero_le _, Nat.zero_le _⟩ dX7_bestNow_27 (fun H locs hw => ?_)
      refine lv_icmp_ge (pc := 30) (tgt := 97) hx hb dX7_bestNow_30 (by decide) (fun q5 => ?_) (fun q5 => ?_)
      · replace hf := if_t q5 hf
        refine lv_iload_n (pc := 97) hx hb dX7_bestNow_97 rfl (lv_at hl 2 rfl) ?_
        have hf := Option.some.inj hf
        subst hf
        exact zk_reti (pc := 98) (ww := [xU L b_seedNow b_keptSeed b_isKept, xTe ((L 1)) b_now, xTe ((L 2)) b_trial, xSt ((L 5)) ((L 6)) ((L 7)) ((L 8)) ((L 9)) b_staff.1, xI cy ((L 6)) 8 b_staff.2.1, xI cy ((L 7)) 8 b_staff.2.2.1, xI cy ((L 8)) 8 b_staff.2.2.2.1, xI cy ((L 9)) 8 b_staff.2.2.2.2, xI cy ((L 48)) 5 b_refusals]) C hw hr hQ dX7_bestNow_98
      · replace hf := if_f q5 hf
        refine lv_aload_n (pc := 33) hx hb dX7_bestNow_33 rfl (lv_at hl 0 rfl) ?_
        refine lv_aload_n (pc := 34) hx hb dX7_bestNow_34 rfl (lv_at hl 0 rfl) ?_
        refine zk_gt (pc := 35) C hw zl_X7_28 0 rfl rfl dX7_bestNow_35 ?_
        refine lv_iload (pc := 38) hx hb dX7_bestNow_38 (lv_at hl 4 rfl) ?_
        obtain ⟨u6, u6e, hf⟩ := bd hf
        refine zk_cV (pc := 40) (ci := 2) (q0 := 3) (rest := [.ref ((L 0))]) (st1 := [.int u6, .ref ((L 0))]) (w' := [xU L b_seedNow b_keptSeed b_isKept, xTe ((L 1)) b_now, xTe ((L 2)) b_trial, xSt ((L 5)) ((L 6)) ((L 7)) ((L 8)) ((L 9)) b_staff.1, xI cy ((L 6)) 8 b_staff.2.1, xI cy ((L 7)) 8 b_staff.2.2.1, xI cy ((L 8)) 8 b_staff.2.2.2.1, xI cy ((L 9)) 8 b_staff.2.2.2.2, xI cy ((L 48)) 5 b_refusals]) (mk := [none, none, none, none, none, none, none, none, none]) C hw (c_X2_orderAt l G cy tt ((L 5)) ((L 6)) ((L 7)) ((L 8)) ((L 9)) v4 b_staff _ u6e) zy_X2_orderAt zm_X7_236 rfl rfl rfl [3, 4, 5, 6, 7] rfl rfl rfl rfl rfl rfl rfl rfl hl.1 ⟨rfl, rfl⟩ ⟨Nat.le_of_ble_eq_true rfl, Nat.le_of_ble_eq_true rfl⟩ rfl (Nat.le_of_ble_eq_true rfl) ⟨Nat.zero_le _, Nat.zero_le _⟩ dX7_bestNow_40 (fun H locs hw => ?_)
        obtain ⟨u7, u7e, hf⟩ := bd hf
        refine zk_cV (pc := 43) (ci := 7) (q0 := 0) (rest := []) (st1 := []) (w' := [xU L b_seedNow b_keptSeed b_isKept, xTe ((L 1)) b_now, xTe ((L 2)) u7, xSt ((L 5)) ((L 6)) ((L 7)) ((L 8)) ((L 9)) b_staff.1, xI cy ((L 6)) 8 b_staff.2.1, xI cy ((L 7)) 8 b_staff.2.2.1, xI cy ((L 8)) 8 b_staff.2.2.2.1, xI cy ((L 9)) 8 b_staff.2.2.2.2, xI cy ((L 48)) 5 b_refusals]) (mk := [none, none, some (xTe ((L 2)) u7), none, none, none, none, none, none]) C hw (c_X7_tryHour l G cy tt L b_seedNow b_keptSeed b_isKept u6 b_now b_trial b_staff _ u7e) zy_X7_tryHour zm_X7_225 rfl rfl rfl [0, 1, 2, 3, 4, 5, 6, 7] rfl rfl rfl rfl rfl rfl rfl rfl hl.1 ⟨rfl, rfl⟩ ⟨Nat.le_of_ble_eq_true rfl, Nat.le_of_ble_eq_true rfl⟩ rfl (Nat.le_of_ble_eq_true rfl) ⟨Nat.zero_le _, Nat.zero_le _⟩ dX7_bestNow_43 (fun H locs hw => ?_)
        refine lv_iload_n (pc := 46) hx hb dX7_bestNow_46 rfl (lv_at hl 1 rfl) ?_
        refine lv_iconst (pc := 47) (v := 1) hx hb dX7_bestNow_47 (by decide) ?_
        refine lv_icmp_ne (pc := 48) (tgt := 62) hx hb dX7_bestNow_48 (by decide) (fun q8 => ?_) (fun q8 => ?_)
        · replace hf := if_f q8 hf
          refine lv_aload_n (pc := 62) hx hb dX7_bestNow_62 rfl (lv_at hl 0 rfl) ?_
          refine zk_gt (pc := 63) C hw zl_X7_16 0 rfl rfl dX7_bestNow_63 ?_
          refine lv_iload_n (pc := 66) hx hb dX7_bestNow_66 rfl (lv_at hl 1 rfl) ?_
          obtain ⟨u9, u9e, hf⟩ := bd hf
          refine zk_cV (pc := 67) (ci := 5) (q0 := 2) (rest := []) (st1 := [.int u9]) (w' := [xU L b_seedNow b_keptSeed b_isKept, xTe ((L 1)) b_now, xTe ((L 2)) u7, xSt ((L 5)) ((L 6)) ((L 7)) ((L 8)) ((L 9)) b_staff.1, xI cy ((L 6)) 8 b_staff.2.1, xI cy ((L 7)) 8 b_staff.2.2.1, xI cy ((L 8)) 8 b_staff.2.2.2.1, xI cy ((L 9)) 8 b_staff.2.2.2.2, xI cy ((L 48)) 5 b_refusals]) (mk := [none, none, none, none, none, none, none, none, none]) C hw (c_X5_measure l G cy tt ((L 2)) v1 u7 _ u9e) zy_X5_measure zm_X7_180 rfl rfl rfl [2] rfl rfl rfl rfl rfl rfl rfl rfl hl.1 ⟨rfl, rfl⟩ ⟨Nat.le_of_ble_eq_true rfl, Nat.le_of_ble_eq_true rfl⟩ rfl (Nat.le_of_ble_eq_true rfl) ⟨Nat.zero_le _, Nat.zero_le _⟩ dX7_bestNow_67 (fun H locs hw => ?_)
          exact J70 (zf_X7_bestNow_24 b_now b_staff n) ih v1 v2 v3 v4 u9 u7 b_refusals _ _ _ hf hw (lv_sub hl [0, 1, 2, 3, 4] rfl)
        · replace hf := if_t q8 hf
          refine lv_aload_n (pc := 51) hx hb dX7_bestNow_51 rfl (lv_at hl 0 rfl) ?_
          refine zk_gt (pc := 52) C hw zl_X7_16 0 rfl rfl dX7_bestNow_52 ?_
          refine zk_gt (pc := 55) C hw zl_X7_239 2 rfl rfl dX7_bestNow_55 ?_
          refine lv_ineg (pc := 58) hx hb dX7_bestNow_58 ?_
          refine lv_goto (pc := 59) (tgt := 70) hx hb dX7_bestNow_59 (by decide) ?_
          exact J70 (zf_X7_bestNow_24 b_now b_staff n) ih v1 v2 v3 v4 ((-u7.2.1)) u7 b_refusals _ _ _ hf hw (lv_sub hl [0, 1, 2, 3, 4] rfl)
  rw [zf_X7_bestNow] at hf
  refine lv_iload_n (pc := 0) hx hb dX7_bestNow_0 rfl (lv_at hl 1 rfl) ?_
  refine lv_iconst (pc := 1) (v := 0) hx hb dX7_bestNow_1 (by decide) ?_
  refine lv_iconst (pc := 2) (v := 2) hx hb dX7_bestNow_2 (by decide) ?_
  obtain ⟨u1, u1e, hf⟩ := bd hf
  refine zk_cS (pc := 3) (rest := []) (st1 := [.int (bI u1)]) (w' := [xU L b_seedNow b_keptSeed b_isKept, xTe ((L 1)) b_now, xTe ((L 2)) b_trial, xSt ((L 5)) ((L 6)) ((L 7)) ((L 8)) ((L 9)) b_staff.1, xI cy ((L 6)) 8 b_staff.2.1, xI cy ((L 7)) 8 b_staff.2.2.1, xI cy ((L 8)) 8 b_staff.2.2.2.1, xI cy ((L 9)) 8 b_staff.2.2.2.2, xI cy ((L 48)) 5 b_refusals]) (mk := [none, none, none, none, none, none, none, none, none]) C hw (c_X7_isWithin l G cy tt x1 (((0 : Int32))) (((2 : Int32))) _ u1e) zy_X7_isWithin zm_X7_99 [] rfl rfl rfl rfl rfl rfl rfl rfl hl.1 ⟨rfl, rfl⟩ ⟨Nat.le_of_ble_eq_true rfl, Nat.le_of_ble_eq_true rfl⟩ rfl (Nat.le_of_ble_eq_true rfl) ⟨Nat.zero_le _, Nat.zero_le _⟩ dX7_bestNow_3 (fun H locs hw => ?_)
  refine zk_ifnz (pc := 6) (tgt := 16) hx hb dX7_bestNow_6 (by decide) (fun q2 => ?_) (fun q2 => ?_)
  · replace hf := if_t q2 hf
    refine lv_iconst (pc := 16) (v := -1) hx hb dX7_bestNow_16 (by decide) ?_
    refine lv_istore_n (pc := 17) (lv' := [(2, .int ((-1 : Int32))), (0, .ref ((L 0))), (1, .int x1)]) hx hb dX7_bestNow_17 rfl hl (by decide) rfl (fun ls hl => ?_)
    refine lv_ldc (pc := 18) (v := 1000000) hx hb C.1.2.2.2.1 (C.1.2.2.2.2 _ zc_X7_232) dX7_bestNow_18 ?_
    refine lv_istore_n (pc := 20) (lv' := [(3, .int ((1000000 : Int32))), (2, .int ((-1 : Int32))), (0, .ref ((L 0))), (1, .int x1)]) hx hb dX7_bestNow_20 rfl hl (by decide) rfl (fun ls hl => ?_)
    refine lv_iconst (pc := 21) (v := 0) hx hb dX7_bestNow_21 (by decide) ?_
    refine lv_istore (pc := 22) (lv' := [(4, .int ((0 : Int32))), (3, .int ((1000000 : Int32))), (2, .int ((-1 : Int32))), (0, .ref ((L 0))), (1, .int x1)]) hx hb dX7_bestNow_22 hl (by decide) rfl (fun ls hl => ?_)
    exact J24 FU x1 ((-1 : Int32)) ((1000000 : Int32)) ((0 : Int32)) b_trial b_refusals _ _ _ hf hw (lv_sub hl [3, 4, 2, 1, 0] rfl)
  · replace hf := if_f q2 hf
    refine lv_aload_n (pc := 9) hx hb dX7_bestNow_9 rfl (lv_at hl 0 rfl) ?_
    refine lv_bipush (pc := 10) (v := -2) hx hb dX7_bestNow_10 (by decide) ?_
    obtain ⟨u3, u3e, hf⟩ := bd hf
    refine zk_cV (pc := 12) (ci := 7) (q0 := 0) (rest := []) (st1 := [.int u3.1]) (w' := [xU L b_seedNow b_keptSeed b_isKept, xTe ((L 1)) b_now, xTe ((L 2)) b_trial, xSt ((L 5)) ((L 6)) ((L 7)) ((L 8)) ((L 9)) b_staff.1, xI cy ((L 6)) 8 b_staff.2.1, xI cy ((L 7)) 8 b_staff.2.2.1, xI cy ((L 8)) 8 b_staff.2.2.2.1, xI cy ((L 9)) 8 b_staff.2.2.2.2, xI cy ((L 48)) 5 u3.2]) (mk := [none, none, none, none, none, none, none, none, some (xI cy ((L 48)) 5 u3.2)]) C hw (c_X7_refused l G cy tt L b_seedNow b_keptSeed b_isKept (((-2 : Int32))) b_refusals _ u3e) zy_X7_refused zm_X7_103 rfl rfl rfl [0, 8] rfl rfl rfl rfl rfl rfl rfl rfl hl.1 ⟨rfl, rfl⟩ ⟨Nat.le_of_ble_eq_true rfl, Nat.le_of_ble_eq_true rfl⟩ rfl (Nat.le_of_ble_eq_true rfl) ⟨Nat.zero_le _, Nat.zero_le _⟩ dX7_bestNow_12 (fun H locs hw => ?_)
    have hf := Option.some.inj hf
    subst hf
    exact zk_reti (pc := 15) (ww := [xU L b_seedNow b_keptSeed b_isKept, xTe ((L 1)) b_now, xTe ((L 2)) b_trial, xSt ((L 5)) ((L 6)) ((L 7)) ((L 8)) ((L 9)) b_staff.1, xI cy ((L 6)) 8 b_staff.2.1, xI cy ((L 7)) 8 b_staff.2.2.1, xI cy ((L 8)) 8 b_staff.2.2.2.1, xI cy ((L 9)) 8 b_staff.2.2.2.2, xI cy ((L 48)) 5 u3.2]) C hw hr hQ dX7_bestNow_15
def zf_X7_elementsFault_21 (b_shelves : TSh) (v1 : Int32) (v2 : Int32) (v4 : Int32) (t0 : Bool) (t1 : Int32) : Option (Int32) := (Option.bind (zf_X7_rowFault t1 t0 b_shelves) (fun u4 => (if u4 = 0 then (Option.bind (zf_X1_hasStretch v1 (((0 : Int32))) (((v2 * v4))) b_shelves) (fun u6 => (if u6 then some ((0 : Int32)) else some ((-2 : Int32))))) else some (u4))))
def zf_X7_elementsFault_20 (b_shelves : TSh) (v1 : Int32) (v2 : Int32) (v4 : Int32) (t0 : Int32) : Option (Int32) := zf_X7_elementsFault_21 b_shelves v1 v2 v4 false t0
def zf_X7_elementsFault (x1 : Int32) (x2 : Int32) (x3 : Int32) (x4 : Int32) (x5 : Bool) (b_shelves : TSh) : Option (Int32) := (if x5 then (Option.bind (zf_X7_isWithin x2 (((0 : Int32))) x3) (fun u2 => (if u2 then zf_X7_elementsFault_21 b_shelves x1 x2 x4 true x1 else zf_X7_elementsFault_20 b_shelves x1 x2 x4 x1))) else zf_X7_elementsFault_20 b_shelves x1 x2 x4 x1)
abbrev zr_X7_elementsFault : Room := { frames := 3, cells := 0, slots := 0, locals := 66 }
set_option maxHeartbeats 4000000 in
set_option maxRecDepth 100000 in
theorem c_X7_elementsFault (l : Launch) (G : va_G) (cy : Nat → ClassId) (tt : Nat → Nat) (L : Nat → Nat) (b_seedNow : Int32) (b_keptSeed : Int32) (b_isKept : Bool) (x1 : Int32) (x2 : Int32) (x3 : Int32) (x4 : Int32) (x5 : Bool) (b_shelves : TSh) (res : Int32) (hf : zf_X7_elementsFault x1 x2 x3 x4 x5 b_shelves = some res) : zCT l yX7_elementsFault cX7_elementsFault 7 (some .int) zr_X7_elementsFault G cy tt [.ref ((L 0)), .int x1, .int x2, .int x3, .int x4, .int (bI x5)] [xU L b_seedNow b_keptSeed b_isKept, xSh ((L 20)) ((L 21)) ((L 22)) ((L 23)), xI cy ((L 21)) 8 b_shelves.1, xI cy ((L 22)) 8 b_shelves.2.1, xRJ cy ((L 23)) 8 (fun j => [some ((L 24)), some ((L 25)), some ((L 26)), some ((L 27)), some ((L 28)), some ((L 29)), some ((L 30)), some ((L 31))].getD j none), xJ cy ((L 24)) 40 ((b_shelves.2.2 0)), xJ cy ((L 25)) 40 ((b_shelves.2.2 1)), xJ cy ((L 26)) 40 ((b_shelves.2.2 2)), xJ cy ((L 27)) 40 ((b_shelves.2.2 3)), xJ cy ((L 28)) 40 ((b_shelves.2.2 4)), xJ cy ((L 29)) 40 ((b_shelves.2.2 5)), xJ cy ((L 30)) 40 ((b_shelves.2.2 6)), xJ cy ((L 31)) 40 ((b_shelves.2.2 7))] (some (.int res)) [xU L b_seedNow b_keptSeed b_isKept, xSh ((L 20)) ((L 21)) ((L 22)) ((L 23)), xI cy ((L 21)) 8 b_shelves.1, xI cy ((L 22)) 8 b_shelves.2.1, xRJ cy ((L 23)) 8 (fun j => [some ((L 24)), some ((L 25)), some ((L 26)), some ((L 27)), some ((L 28)), some ((L 29)), some ((L 30)), some ((L 31))].getD j none), xJ cy ((L 24)) 40 ((b_shelves.2.2 0)), xJ cy ((L 25)) 40 ((b_shelves.2.2 1)), xJ cy ((L 26)) 40 ((b_shelves.2.2 2)), xJ cy ((L 27)) 40 ((b_shelves.2.2 3)), xJ cy ((L 28)) 40 ((b_shelves.2.2 4)), xJ cy ((L 29)) 40 ((b_shelves.2.2 5)), xJ cy ((L 30)) 40 ((b_shelves.2.2 6)), xJ cy ((L 31)) 40 ((b_shelves.2.2 7))] := by
  refine zk_start zn_X7 (Nat.le_of_ble_eq_true rfl) ?_
  intro p e s m args below meth c A ls Q C hr hQ hw hl
  have C : zCx p m c s args meth cX7_elementsFault 7 RX7 G cy tt A := C
  have hx := C.1.1
  have hb := C.1.2.1
  have hl : lv_has ls 7 [(0, .ref ((L 0))), (1, .int x1), (2, .int x2), (3, .int x3), (4, .int x4), (5, .int (bI x5))] := hl
  have J21 : ∀ (v1 : Int32) (v2 : Int32) (v4 : Int32) (t0 : Bool) (t1 : Int32) (H : Heap) (locs : List Loc) (ls : Array Slot), zf_X7_elementsFault_21 b_shelves v1 v2 v4 t0 t1 = some res → zWd G A s.heap H locs [xU L b_seedNow b_keptSeed b_isKept, xSh ((L 20)) ((L 21)) ((L 22)) ((L 23)), xI cy ((L 21)) 8 b_shelves.1, xI cy ((L 22)) 8 b_shelves.2.1, xRJ cy ((L 23)) 8 (fun j => [some ((L 24)), some ((L 25)), some ((L 26)), some ((L 27)), some ((L 28)), some ((L 29)), some ((L 30)), some ((L 31))].getD j none), xJ cy ((L 24)) 40 ((b_shelves.2.2 0)), xJ cy ((L 25)) 40 ((b_shelves.2.2 1)), xJ cy ((L 26)) 40 ((b_shelves.2.2 2)), xJ cy ((L 27)) 40 ((b_shelves.2.2 3)), xJ cy ((L 28)) 40 ((b_shelves.2.2 4)), xJ cy ((L 29)) 40 ((b_shelves.2.2 5)), xJ cy ((L 30)) 40 ((b_shelves.2.2 6)), xJ cy ((L 31)) 40 ((b_shelves.2.2 7))] → lv_has ls 7 [(0, .ref ((L 0))), (1, .int v1), (2, .int v2), (4, .int v4)] → W p l e zr_X7_elementsFault s m args below meth c H locs 0 0 Q (F0 m 21 ls [.int (bI t0), .int t1, .ref ((L 0))]) := by
    intro v1 v2 v4 t0 t1 H locs ls hf hw hl
    rw [zf_X7_elementsFault_21] at hf
    obtain ⟨u4, u4e, hf⟩ := bd hf
    refine zk_cV (pc := 21) (ci := 7) (q0 := 0) (rest := []) (st1 := [.int u4]) (w' := [xU L b_seedNow b_keptSeed b_isKept, xSh ((L 20)) ((L 21)) ((L 22)) ((L 23)), xI cy ((L 21)) 8 b_shelves.1, xI cy ((L 22)) 8 b_shelves.2.1, xRJ cy ((L 23)) 8 (fun j => [some ((L 24)), some ((L 25)), some ((L 26)), some ((L 27)), some ((L 28)), some ((L 29)), some ((L 30)), some ((L 31))].getD j none), xJ cy ((L 24)) 40 ((b_shelves.2.2 0)), xJ cy ((L 25)) 40 ((b_shelves.2.2 1)), xJ cy ((L 26)) 40 ((b_shelves.2.2 2)), xJ cy ((L 27)) 40 ((b_shelves.2.2 3)), xJ cy ((L 28)) 40 ((b_shelves.2.2 4)), xJ cy ((L 29)) 40 ((b_shelves.2.2 5)), xJ cy ((L 30)) 40 ((b_shelves.2.2 6)), xJ cy ((L 31)) 40 ((b_shelves.2.2 7))]) (mk := [none, none, none, none, none, none, none, none, none, none, none, none, none]) C hw (c_X7_rowFault l G cy tt L b_seedNow b_keptSeed b_isKept t1 t0 b_shelves _ u4e) zy_X7_rowFault zm_X7_111 rfl rfl rfl [0, 1, 2, 3, 4, 5, 6, 7, 8, 9, 10, 11, 12] rfl rfl rfl rfl rfl rfl rfl rfl hl.1 ⟨rfl, rfl⟩ ⟨Nat.le_of_ble_eq_true rfl, Nat.le_of_ble_eq_true rfl⟩ rfl (Nat.le_of_ble_eq_true rfl) ⟨Nat.zero_le _, Nat.zero_le _⟩ dX7_elementsFault_21 (fun H locs hw => ?_)
    refine lv_istore (pc := 24) (lv' := [(6, .int u4), (0, .ref ((L 0))), (1, .int v1), (2, .int v2), (4, .int v4)]) hx hb dX7_elementsFault_24 hl (by decide) rfl (fun ls hl => ?_)
    refine lv_iload (pc := 26) hx hb dX7_elementsFault_26 (lv_at hl 0 rfl) ?_
    refine lv_if_eq (pc := 28) (tgt := 34) hx hb dX7_elementsFault_28 (by decide) (fun q5 => ?_) (fun q5 => ?_)
    · replace hf := if_t q5 hf
      refine lv_aload_n (pc := 34) hx hb dX7_elementsFault_34 rfl (lv_at hl 1 rfl) ?_
      refine zk_gt (pc := 35) C hw zl_X7_41 0 rfl rfl dX7_elementsFault_35 ?_
      refine lv_iload_n (pc := 38) hx hb dX7_elementsFault_38 rfl (lv_at hl 2 rfl) ?_
      refine lv_iconst (pc := 39) (v := 0) hx hb dX7_elementsFault_39 (by decide) ?_
      refine lv_iload_n (pc := 40) hx hb dX7_elementsFault_40 rfl (lv_at hl 3 rfl) ?_
      refine lv_iload (pc := 41) hx hb dX7_elementsFault_41 (lv_at hl 4 rfl) ?_
      refine lv_imul (pc := 43) hx hb dX7_elementsFault_43 ?_
      obtain ⟨u6, u6e, hf⟩ := bd hf
      refine zk_cV (pc := 44) (ci := 1) (q0 := 1) (rest := []) (st1 := [.int (bI u6)]) (w' := [xU L b_seedNow b_keptSeed b_isKept, xSh ((L 20)) ((L 21)) ((L 22)) ((L 23)), xI cy ((L 21)) 8 b_shelves.1, xI cy ((L 22)) 8 b_shelves.2.1, xRJ cy ((L 23)) 8 (fun j => [some ((L 24)), some ((L 25)), some ((L 26)), some ((L 27)), some ((L 28)), some ((L 29)), some ((L 30)), some ((L 31))].getD j none), xJ cy ((L 24)) 40 ((b_shelves.2.2 0)), xJ cy ((L 25)) 40 ((b_shelves.2.2 1)), xJ cy ((L 26)) 40 ((b_shelves.2.2 2)), xJ cy ((L 27)) 40 ((b_shelves.2.2 3)), xJ cy ((L 28)) 40 ((b_shelves.2.2 4)), xJ cy ((L 29)) 40 ((b_shelves.2.2 5)), xJ cy ((L 30)) 40 ((b_shelves.2.2 6)), xJ cy ((L 31)) 40 ((b_shelves.2.2 7))]) (mk := [none, none, none, none, none, none, none, none, none, none, none, none, none]) C hw (c_X1_hasStretch l G cy tt ((L 20)) ((L 21)) ((L 22)) ((L 23)) ((L 24)) ((L 25)) ((L 26)) ((L 27)) ((L 28)) ((L 29)) ((L 30)) ((L 31)) v1 (((0 : Int32))) (((v2 * v4))) b_shelves _ u6e) zy_X1_hasStretch zm_X7_132 rfl rfl rfl [1, 2, 3, 4, 5, 6, 7, 8, 9, 10, 11, 12] rfl rfl rfl rfl rfl rfl rfl rfl hl.1 ⟨rfl, rfl⟩ ⟨Nat.le_of_ble_eq_true rfl, Nat.le_of_ble_eq_true rfl⟩ rfl (Nat.le_of_ble_eq_true rfl) ⟨Nat.zero_le _, Nat.zero_le _⟩ dX7_elementsFault_44 (fun H locs hw => ?_)
      refine zk_ifz (pc := 47) (tgt := 54) hx hb dX7_elementsFault_47 (by decide) (fun q7 => ?_) (fun q7 => ?_)
      · replace hf := if_f q7 hf
        refine lv_bipush (pc := 54) (v := -2) hx hb dX7_elementsFault_54 (by decide) ?_
        have hf := Option.some.inj hf
        subst hf
        exact zk_reti (pc := 56) (ww := [xU L b_seedNow b_keptSeed b_isKept, xSh ((L 20)) ((L 21)) ((L 22)) ((L 23)), xI cy ((L 21)) 8 b_shelves.1, xI cy ((L 22)) 8 b_shelves.2.1, xRJ cy ((L 23)) 8 (fun j => [some ((L 24)), some ((L 25)), some ((L 26)), some ((L 27)), some ((L 28)), some ((L 29)), some ((L 30)), some ((L 31))].getD j none), xJ cy ((L 24)) 40 ((b_shelves.2.2 0)), xJ cy ((L 25)) 40 ((b_shelves.2.2 1)), xJ cy ((L 26)) 40 ((b_shelves.2.2 2)), xJ cy ((L 27)) 40 ((b_shelves.2.2 3)), xJ cy ((L 28)) 40 ((b_shelves.2.2 4)), xJ cy ((L 29)) 40 ((b_shelves.2.2 5)), xJ cy ((L 30)) 40 ((b_shelves.2.2 6)), xJ cy ((L 31)) 40 ((b_shelves.2.2 7))]) C hw hr hQ dX7_elementsFault_56
      · replace hf := if_t q7 hf
        refine lv_iconst (pc := 50) (v := 0) hx hb dX7_elementsFault_50 (by decide) ?_
        refine lv_goto (pc := 51) (tgt := 56) hx hb dX7_elementsFault_51 (by decide) ?_
        have hf := Option.some.inj hf
        subst hf
        exact zk_reti (pc := 56) (ww := [xU L b_seedNow b_keptSeed b_isKept, xSh ((L 20)) ((L 21)) ((L 22)) ((L 23)), xI cy ((L 21)) 8 b_shelves.1, xI cy ((L 22)) 8 b_shelves.2.1, xRJ cy ((L 23)) 8 (fun j => [some ((L 24)), some ((L 25)), some ((L 26)), some ((L 27)), some ((L 28)), some ((L 29)), some ((L 30)), some ((L 31))].getD j none), xJ cy ((L 24)) 40 ((b_shelves.2.2 0)), xJ cy ((L 25)) 40 ((b_shelves.2.2 1)), xJ cy ((L 26)) 40 ((b_shelves.2.2 2)), xJ cy ((L 27)) 40 ((b_shelves.2.2 3)), xJ cy ((L 28)) 40 ((b_shelves.2.2 4)), xJ cy ((L 29)) 40 ((b_shelves.2.2 5)), xJ cy ((L 30)) 40 ((b_shelves.2.2 6)), xJ cy ((L 31)) 40 ((b_shelves.2.2 7))]) C hw hr hQ dX7_elementsFault_56
    · replace hf := if_f q5 hf
      refine lv_iload (pc := 31) hx hb dX7_elementsFault_31 (lv_at hl 0 rfl) ?_
      have hf := Option.some.inj hf
      subst hf
      exact zk_reti (pc := 33) (ww := [xU L b_seedNow b_keptSeed b_isKept, xSh ((L 20)) ((L 21)) ((L 22)) ((L 23)), xI cy ((L 21)) 8 b_shelves.1, xI cy ((L 22)) 8 b_shelves.2.1, xRJ cy ((L 23)) 8 (fun j => [some ((L 24)), some ((L 25)), some ((L 26)), some ((L 27)), some ((L 28)), some ((L 29)), some ((L 30)), some ((L 31))].getD j none), xJ cy ((L 24)) 40 ((b_shelves.2.2 0)), xJ cy ((L 25)) 40 ((b_shelves.2.2 1)), xJ cy ((L 26)) 40 ((b_shelves.2.2 2)), xJ cy ((L 27)) 40 ((b_shelves.2.2 3)), xJ cy ((L 28)) 40 ((b_shelves.2.2 4)), xJ cy ((L 29)) 40 ((b_shelves.2.2 5)), xJ cy ((L 30)) 40 ((b_shelves.2.2 6)), xJ cy ((L 31)) 40 ((b_shelves.2.2 7))]) C hw hr hQ dX7_elementsFault_33
  have J20 : ∀ (v1 : Int32) (v2 : Int32) (v4 : Int32) (t0 : Int32) (H : Heap) (locs : List Loc) (ls : Array Slot), zf_X7_elementsFault_20 b_shelves v1 v2 v4 t0 = some res → zWd G A s.heap H locs [xU L b_seedNow b_keptSeed b_isKept, xSh ((L 20)) ((L 21)) ((L 22)) ((L 23)), xI cy ((L 21)) 8 b_shelves.1, xI cy ((L 22)) 8 b_shelves.2.1, xRJ cy ((L 23)) 8 (fun j => [some ((L 24)), some ((L 25)), some ((L 26)), some ((L 27)), some ((L 28)), some ((L 29)), some ((L 30)), some ((L 31))].getD j none), xJ cy ((L 24)) 40 ((b_shelves.2.2 0)), xJ cy ((L 25)) 40 ((b_shelves.2.2 1)), xJ cy ((L 26)) 40 ((b_shelves.2.2 2)), xJ cy ((L 27)) 40 ((b_shelves.2.2 3)), xJ cy ((L 28)) 40 ((b_shelves.2.2 4)), xJ cy ((L 29)) 40 ((b_shelves.2.2 5)), xJ cy ((L 30)) 40 ((b_shelves.2.2 6)), xJ cy ((L 31)) 40 ((b_shelves.2.2 7))] → lv_has ls 7 [(0, .ref ((L 0))), (1, .int v1), (2, .int v2), (4, .int v4)] → W p l e zr_X7_elementsFault s m args below meth c H locs 0 0 Q (F0 m 20 ls [.int t0, .ref ((L 0))]) := by
    intro v1 v2 v4 t0 H locs ls hf hw hl
    rw [zf_X7_elementsFault_20] at hf
    refine lv_iconst (pc := 20) (v := 0) hx hb dX7_elementsFault_20 (by decide) ?_
    exact J21 v1 v2 v4 false t0 _ _ _ hf hw (lv_sub hl [0, 1, 2, 3] rfl)
  rw [zf_X7_elementsFault] at hf
  refine lv_aload_n (pc := 0) hx hb dX7_elementsFault_0 rfl (lv_at hl 0 rfl) ?_
  refine lv_iload_n (pc := 1) hx hb dX7_elementsFault_1 rfl (lv_at hl 1 rfl) ?_
  refine lv_iload (pc := 2) hx hb dX7_elementsFault_2 (lv_at hl 5 rfl) ?_
  refine zk_ifz (pc := 4) (tgt := 20) hx hb dX7_elementsFault_4 (by decide) (fun q1 => ?_) (fun q1 => ?_)
  · replace hf := if_f q1 hf
    exact J20 x1 x2 x4 x1 _ _ _ hf hw (lv_sub hl [0, 1, 2, 4] rfl)
  · replace hf := if_t q1 hf
    refine lv_iload_n (pc := 7) hx hb dX7_elementsFault_7 rfl (lv_at hl 2 rfl) ?_
    refine lv_iconst (pc := 8) (v := 0) hx hb dX7_elementsFault_8 (by decide) ?_
    refine lv_iload_n (pc := 9) hx hb dX7_elementsFault_9 rfl (lv_at hl 3 rfl) ?_
    obtain ⟨u2, u2e, hf⟩ := bd hf
    refine zk_cS (pc := 10) (rest := [.int x1, .ref ((L 0))]) (st1 := [.int (bI u2), .int x1, .ref ((L 0))]) (w' := [xU L b_seedNow b_keptSeed b_isKept, xSh ((L 20)) ((L 21)) ((L 22)) ((L 23)), xI cy ((L 21)) 8 b_shelves.1, xI cy ((L 22)) 8 b_shelves.2.1, xRJ cy ((L 23)) 8 (fun j => [some ((L 24)), some ((L 25)), some ((L 26)), some ((L 27)), some ((L 28)), some ((L 29)), some ((L 30)), some ((L 31))].getD j none), xJ cy ((L 24)) 40 ((b_shelves.2.2 0)), xJ cy ((L 25)) 40 ((b_shelves.2.2 1)), xJ cy ((L 26)) 40 ((b_shelves.2.2 2)), xJ cy ((L 27)) 40 ((b_shelves.2.2 3)), xJ cy ((L 28)) 40 ((b_shelves.2.2 4)), xJ cy ((L 29)) 40 ((b_shelves.2.2 5)), xJ cy ((L 30)) 40 ((b_shelves.2.2 6)), xJ cy ((L 31)) 40 ((b_shelves.2.2 7))]) (mk := [none, none, none, none, none, none, none, none, none, none, none, none, none]) C hw (c_X7_isWithin l G cy tt x2 (((0 : Int32))) x3 _ u2e) zy_X7_isWithin zm_X7_99 [] rfl rfl rfl rfl rfl rfl rfl rfl hl.1 ⟨rfl, rfl⟩ ⟨Nat.le_of_ble_eq_true rfl, Nat.le_of_ble_eq_true rfl⟩ rfl (Nat.le_of_ble_eq_true rfl) ⟨Nat.zero_le _, Nat.zero_le _⟩ dX7_elementsFault_10 (fun H locs hw => ?_)
    refine zk_ifz (pc := 13) (tgt := 20) hx hb dX7_elementsFault_13 (by decide) (fun q3 => ?_) (fun q3 => ?_)
    · replace hf := if_f q3 hf
      exact J20 x1 x2 x4 x1 _ _ _ hf hw (lv_sub hl [0, 1, 2, 4] rfl)
    · replace hf := if_t q3 hf
      refine lv_iconst (pc := 16) (v := 1) hx hb dX7_elementsFault_16 (by decide) ?_
      refine lv_goto (pc := 17) (tgt := 21) hx hb dX7_elementsFault_17 (by decide) ?_
      exact J21 x1 x2 x4 true x1 _ _ _ hf hw (lv_sub hl [0, 1, 2, 4] rfl)
def zf_X7_wrongPlace_2 (b_staff : TSt) (b_shelves : TSh) : Nat → Int32 → Int32 → Int32 → Option (Int32)
  | 0, _, _, _ => none
  | n + 1, v1, v2, v3 => (if v2 ≤ v3 then some ((-1 : Int32)) else (Option.bind (zf_X1_elementAt v1 v3 b_shelves) (fun u2 => (Option.bind (zf_X7_isOrder u2 b_staff) (fun u3 => (if u3 then zf_X7_wrongPlace_2 b_staff b_shelves n v1 v2 ((v3 + 1)) else some (v3)))))))
def zf_X7_wrongPlace (x1 : Int32) (x2 : Int32) (b_staff : TSt) (b_shelves : TSh) : Option (Int32) := zf_X7_wrongPlace_2 b_staff b_shelves FU x1 x2 ((0 : Int32))
abbrev zr_X7_wrongPlace : Room := { frames := 4, cells := 0, slots := 0, locals := 87 }
set_option maxHeartbeats 4000000 in
set_option maxRecDepth 100000 in
theorem c_X7_wrongPlace (l : Launch) (G : va_G) (cy : Nat → ClassId) (tt : Nat → Nat) (L : Nat → Nat) (b_seedNow : Int32) (b_keptSeed : Int32) (b_isKept : Bool) (x1 : Int32) (x2 : Int32) (b_staff : TSt) (b_shelves : TSh) (res : Int32) (hf : zf_X7_wrongPlace x1 x2 b_staff b_shelves = some res) : zCT l yX7_wrongPlace cX7_wrongPlace 4 (some .int) zr_X7_wrongPlace G cy tt [.ref ((L 0)), .int x1, .int x2] [xU L b_seedNow b_keptSeed b_isKept, xSt ((L 5)) ((L 6)) ((L 7)) ((L 8)) ((L 9)) b_staff.1, xI cy ((L 6)) 8 b_staff.2.1, xI cy ((L 7)) 8 b_staff.2.2.1, xI cy ((L 8)) 8 b_staff.2.2.2.1, xI cy ((L 9)) 8 b_staff.2.2.2.2, xSh ((L 20)) ((L 21)) ((L 22)) ((L 23)), xI cy ((L 21)) 8 b_shelves.1, xI cy ((L 22)) 8 b_shelves.2.1, xRJ cy ((L 23)) 8 (fun j => [some ((L 24)), some ((L 25)), some ((L 26)), some ((L 27)), some ((L 28)), some ((L 29)), some ((L 30)), some ((L 31))].getD j none), xJ cy ((L 24)) 40 ((b_shelves.2.2 0)), xJ cy ((L 25)) 40 ((b_shelves.2.2 1)), xJ cy ((L 26)) 40 ((b_shelves.2.2 2)), xJ cy ((L 27)) 40 ((b_shelves.2.2 3)), xJ cy ((L 28)) 40 ((b_shelves.2.2 4)), xJ cy ((L 29)) 40 ((b_shelves.2.2 5)), xJ cy ((L 30)) 40 ((b_shelves.2.2 6)), xJ cy ((L 31)) 40 ((b_shelves.2.2 7))] (some (.int res)) [xU L b_seedNow b_keptSeed b_isKept, xSt ((L 5)) ((L 6)) ((L 7)) ((L 8)) ((L 9)) b_staff.1, xI cy ((L 6)) 8 b_staff.2.1, xI cy ((L 7)) 8 b_staff.2.2.1, xI cy ((L 8)) 8 b_staff.2.2.2.1, xI cy ((L 9)) 8 b_staff.2.2.2.2, xSh ((L 20)) ((L 21)) ((L 22)) ((L 23)), xI cy ((L 21)) 8 b_shelves.1, xI cy ((L 22)) 8 b_shelves.2.1, xRJ cy ((L 23)) 8 (fun j => [some ((L 24)), some ((L 25)), some ((L 26)), some ((L 27)), some ((L 28)), some ((L 29)), some ((L 30)), some ((L 31))].getD j none), xJ cy ((L 24)) 40 ((b_shelves.2.2 0)), xJ cy ((L 25)) 40 ((b_shelves.2.2 1)), xJ cy ((L 26)) 40 ((b_shelves.2.2 2)), xJ cy ((L 27)) 40 ((b_shelves.2.2 3)), xJ cy ((L 28)) 40 ((b_shelves.2.2 4)), xJ cy ((L 29)) 40 ((b_shelves.2.2 5)), xJ cy ((L 30)) 40 ((b_shelves.2.2 6)), xJ cy ((L 31)) 40 ((b_shelves.2.2 7))] := by
  refine zk_start zn_X7 (Nat.le_of_ble_eq_true rfl) ?_
  intro p e s m args below meth c A ls Q C hr hQ hw hl
  have C : zCx p m c s args meth cX7_wrongPlace 4 RX7 G cy tt A := C
  have hx := C.1.1
  have hb := C.1.2.1
  have hl : lv_has ls 4 [(0, .ref ((L 0))), (1, .int x1), (2, .int x2)] := hl
  have J2 : ∀ (n : Nat), ∀ (v1 : Int32) (v2 : Int32) (v3 : Int32) (H : Heap) (locs : List Loc) (ls : Array Slot), zf_X7_wrongPlace_2 b_staff b_shelves n v1 v2 v3 = some res → zWd G A s.heap H locs [xU L b_seedNow b_keptSeed b_isKept, xSt ((L 5)) ((L 6)) ((L 7)) ((L 8)) ((L 9)) b_staff.1, xI cy ((L 6)) 8 b_staff.2.1, xI cy ((L 7)) 8 b_staff.2.2.1, xI cy ((L 8)) 8 b_staff.2.2.2.1, xI cy ((L 9)) 8 b_staff.2.2.2.2, xSh ((L 20)) ((L 21)) ((L 22)) ((L 23)), xI cy ((L 21)) 8 b_shelves.1, xI cy ((L 22)) 8 b_shelves.2.1, xRJ cy ((L 23)) 8 (fun j => [some ((L 24)), some ((L 25)), some ((L 26)), some ((L 27)), some ((L 28)), some ((L 29)), some ((L 30)), some ((L 31))].getD j none), xJ cy ((L 24)) 40 ((b_shelves.2.2 0)), xJ cy ((L 25)) 40 ((b_shelves.2.2 1)), xJ cy ((L 26)) 40 ((b_shelves.2.2 2)), xJ cy ((L 27)) 40 ((b_shelves.2.2 3)), xJ cy ((L 28)) 40 ((b_shelves.2.2 4)), xJ cy ((L 29)) 40 ((b_shelves.2.2 5)), xJ cy ((L 30)) 40 ((b_shelves.2.2 6)), xJ cy ((L 31)) 40 ((b_shelves.2.2 7))] → lv_has ls 4 [(0, .ref ((L 0))), (1, .int v1), (2, .int v2), (3, .int v3)] → W p l e zr_X7_wrongPlace s m args below meth c H locs 0 0 Q (F0 m 2 ls []) := by
    intro n
    induction n with
    | zero =>
      intro v1 v2 v3 H locs ls hf hw hl
      rw [zf_X7_wrongPlace_2] at hf
      cases hf
    | succ n ih =>
      intro v1 v2 v3 H locs ls hf hw hl
      rw [zf_X7_wrongPlace_2] at hf
      refine lv_iload_n (pc := 2) hx hb dX7_wrongPlace_2 rfl (lv_at hl 3 rfl) ?_
      refine lv_iload_n (pc := 3) hx hb dX7_wrongPlace_3 rfl (lv_at hl 2 rfl) ?_
      refine lv_icmp_ge (pc := 4) (tgt := 31) hx hb dX7_wrongPlace_4 (by decide) (fun q1 => ?_) (fun q1 => ?_)
      · replace hf := if_t q1 hf
        refine lv_iconst (pc := 31) (v := -1) hx hb dX7_wrongPlace_31 (by decide) ?_
        have hf := Option.some.inj hf
        subst hf
        exact zk_reti (pc := 32) (ww := [xU L b_seedNow b_keptSeed b_isKept, xSt ((L 5)) ((L 6)) ((L 7)) ((L 8)) ((L 9)) b_staff.1, xI cy ((L 6)) 8 b_staff.2.1, xI cy ((L 7)) 8 b_staff.2.2.1, xI cy ((L 8)) 8 b_staff.2.2.2.1, xI cy ((L 9)) 8 b_staff.2.2.2.2, xSh ((L 20)) ((L 21)) ((L 22)) ((L 23)), xI cy ((L 21)) 8 b_shelves.1, xI cy ((L 22)) 8 b_shelves.2.1, xRJ cy ((L 23)) 8 (fun j => [some ((L 24)), some ((L 25)), some ((L 26)), some ((L 27)), some ((L 28)), some ((L 29)), some ((L 30)), some ((L 31))].getD j none), xJ cy ((L 24)) 40 ((b_shelves.2.2 0)), xJ cy ((L 25)) 40 ((b_shelves.2.2 1)), xJ cy ((L 26)) 40 ((b_shelves.2.2 2)), xJ cy ((L 27)) 40 ((b_shelves.2.2 3)), xJ cy ((L 28)) 40 ((b_shelves.2.2 4)), xJ cy ((L 29)) 40 ((b_shelves.2.2 5)), xJ cy ((L 30)) 40 ((b_shelves.2.2 6)), xJ cy ((L 31)) 40 ((b_shelves.2.2 7))]) C hw hr hQ dX7_wrongPlace_32
      · replace hf := if_f q1 hf
        refine lv_aload_n (pc := 7) hx hb dX7_wrongPlace_7 rfl (lv_at hl 0 rfl) ?_
        refine lv_aload_n (pc := 8) hx hb dX7_wrongPlace_8 rfl (lv_at hl 0 rfl) ?_
        refine zk_gt (pc := 9) C hw zl_X7_41 0 rfl rfl dX7_wrongPlace_9 ?_
        refine lv_iload_n (pc := 12) hx hb dX7_wrongPlace_12 rfl (lv_at hl 1 rfl) ?_
        refine lv_iload_n (pc := 13) hx hb dX7_wrongPlace_13 rfl (lv_at hl 3 rfl) ?_
        obtain ⟨u2, u2e, hf⟩ := bd hf
        refine zk_cV (pc := 14) (ci := 1) (q0 := 6) (rest := [.ref ((L 0))]) (st1 := [.long u2, .ref ((L 0))]) (w' := [xU L b_seedNow b_keptSeed b_isKept, xSt ((L 5)) ((L 6)) ((L 7)) ((L 8)) ((L 9)) b_staff.1, xI cy ((L 6)) 8 b_staff.2.1, xI cy ((L 7)) 8 b_staff.2.2.1, xI cy ((L 8)) 8 b_staff.2.2.2.1, xI cy ((L 9)) 8 b_staff.2.2.2.2, xSh ((L 20)) ((L 21)) ((L 22)) ((L 23)), xI cy ((L 21)) 8 b_shelves.1, xI cy ((L 22)) 8 b_shelves.2.1, xRJ cy ((L 23)) 8 (fun j => [some ((L 24)), some ((L 25)), some ((L 26)), some ((L 27)), some ((L 28)), some ((L 29)), some ((L 30)), some ((L 31))].getD j none), xJ cy ((L 24)) 40 ((b_shelves.2.2 0)), xJ cy ((L 25)) 40 ((b_shelves.2.2 1)), xJ cy ((L 26)) 40 ((b_shelves.2.2 2)), xJ cy ((L 27)) 40 ((b_shelves.2.2 3)), xJ cy ((L 28)) 40 ((b_shelves.2.2 4)), xJ cy ((L 29)) 40 ((b_shelves.2.2 5)), xJ cy ((L 30)) 40 ((b_shelves.2.2 6)), xJ cy ((L 31)) 40 ((b_shelves.2.2 7))]) (mk := [none, none, none, none, none, none, none, none, none, none, none, none, none, none, none, none, none, none]) C hw (c_X1_elementAt l G cy tt ((L 20)) ((L 21)) ((L 22)) ((L 23)) ((L 24)) ((L 25)) ((L 26)) ((L 27)) ((L 28)) ((L 29)) ((L 30)) ((L 31)) v1 v3 b_shelves _ u2e) zy_X1_elementAt zm_X7_139 rfl rfl rfl [6, 7, 8, 9, 10, 11, 12, 13, 14, 15, 16, 17] rfl rfl rfl rfl rfl rfl rfl rfl hl.1 ⟨rfl, rfl⟩ ⟨Nat.le_of_ble_eq_true rfl, Nat.le_of_ble_eq_true rfl⟩ rfl (Nat.le_of_ble_eq_true rfl) ⟨Nat.zero_le _, Nat.zero_le _⟩ dX7_wrongPlace_14 (fun H locs hw => ?_)
        obtain ⟨u3, u3e, hf⟩ := bd hf
        refine zk_cV (pc := 17) (ci := 7) (q0 := 0) (rest := []) (st1 := [.int (bI u3)]) (w' := [xU L b_seedNow b_keptSeed b_isKept, xSt ((L 5)) ((L 6)) ((L 7)) ((L 8)) ((L 9)) b_staff.1, xI cy ((L 6)) 8 b_staff.2.1, xI cy ((L 7)) 8 b_staff.2.2.1, xI cy ((L 8)) 8 b_staff.2.2.2.1, xI cy ((L 9)) 8 b_staff.2.2.2.2, xSh ((L 20)) ((L 21)) ((L 22)) ((L 23)), xI cy ((L 21)) 8 b_shelves.1, xI cy ((L 22)) 8 b_shelves.2.1, xRJ cy ((L 23)) 8 (fun j => [some ((L 24)), some ((L 25)), some ((L 26)), some ((L 27)), some ((L 28)), some ((L 29)), some ((L 30)), some ((L 31))].getD j none), xJ cy ((L 24)) 40 ((b_shelves.2.2 0)), xJ cy ((L 25)) 40 ((b_shelves.2.2 1)), xJ cy ((L 26)) 40 ((b_shelves.2.2 2)), xJ cy ((L 27)) 40 ((b_shelves.2.2 3)), xJ cy ((L 28)) 40 ((b_shelves.2.2 4)), xJ cy ((L 29)) 40 ((b_shelves.2.2 5)), xJ cy ((L 30)) 40 ((b_shelves.2.2 6)), xJ cy ((L 31)) 40 ((b_shelves.2.2 7))]) (mk := [none, none, none, none, none, none, none, none, none, none, none, none, none, none, none, none, none, none]) C hw (c_X7_isOrder l G cy tt L b_seedNow b_keptSeed b_isKept u2 b_staff _ u3e) zy_X7_isOrder zm_X7_221 rfl rfl rfl [0, 1, 2, 3, 4, 5] rfl rfl rfl rfl rfl rfl rfl rfl hl.1 ⟨rfl, rfl⟩ ⟨Nat.le_of_ble_eq_true rfl, Nat.le_of_ble_eq_true rfl⟩ rfl (Nat.le_of_ble_eq_true rfl) ⟨Nat.zero_le _, Nat.zero_le _⟩ dX7_wrongPlace_17 (fun H locs hw => ?_)
        refine zk_ifnz (pc := 20) (tgt := 25) hx hb dX7_wrongPlace_20 (by decide) (fun q4 => ?_) (fun q4 => ?_)
        · replace hf := if_t q4 hf
          refine lv_iinc (pc := 25) (v := (v3 + 1)) (lv' := [(3, .int ((v3 + 1))), (0, .ref ((L 0))), (1, .int v1), (2, .int v2)]) hx hb dX7_wrongPlace_25 hl (k := 3) rfl rfl (by decide) rfl (fun ls hl => ?_)
          refine lv_goto (pc := 28) (tgt := 2) hx hb dX7_wrongPlace_28 (by decide) ?_
          exact ih v1 v2 ((v3 + 1)) _ _ _ hf hw (lv_sub hl [1, 2, 3, 0] rfl)
        · replace hf := if_f q4 hf
          refine lv_iload_n (pc := 23) hx hb dX7_wrongPlace_23 rfl (lv_at hl 3 rfl) ?_
          have hf := Option.some.inj hf
          subst hf
          exact zk_reti (pc := 24) (ww := [xU L b_seedNow b_keptSeed b_isKept, xSt ((L 5)) ((L 6)) ((L 7)) ((L 8)) ((L 9)) b_staff.1, xI cy ((L 6)) 8 b_staff.2.1, xI cy ((L 7)) 8 b_staff.2.2.1, xI cy ((L 8)) 8 b_staff.2.2.2.1, xI cy ((L 9)) 8 b_staff.2.2.2.2, xSh ((L 20)) ((L 21)) ((L 22)) ((L 23)), xI cy ((L 21)) 8 b_shelves.1, xI cy ((L 22)) 8 b_shelves.2.1, xRJ cy ((L 23)) 8 (fun j => [some ((L 24)), some ((L 25)), some ((L 26)), some ((L 27)), some ((L 28)), some ((L 29)), some ((L 30)), some ((L 31))].getD j none), xJ cy ((L 24)) 40 ((b_shelves.2.2 0)), xJ cy ((L 25)) 40 ((b_shelves.2.2 1)), xJ cy ((L 26)) 40 ((b_shelves.2.2 2)), xJ cy ((L 27)) 40 ((b_shelves.2.2 3)), xJ cy ((L 28)) 40 ((b_shelves.2.2 4)), xJ cy ((L 29)) 40 ((b_shelves.2.2 5)), xJ cy ((L 30)) 40 ((b_shelves.2.2 6)), xJ cy ((L 31)) 40 ((b_shelves.2.2 7))]) C hw hr hQ dX7_wrongPlace_24
  rw [zf_X7_wrongPlace] at hf
  refine lv_iconst (pc := 0) (v := 0) hx hb dX7_wrongPlace_0 (by decide) ?_
  refine lv_istore_n (pc := 1) (lv' := [(3, .int ((0 : Int32))), (0, .ref ((L 0))), (1, .int x1), (2, .int x2)]) hx hb dX7_wrongPlace_1 rfl hl (by decide) rfl (fun ls hl => ?_)
  exact J2 FU x1 x2 ((0 : Int32)) _ _ _ hf hw (lv_sub hl [1, 2, 3, 0] rfl)
def zf_X7_takePlan_2 (b_shelves : TSh) : Nat → Int32 → Int32 → Int32 → (Nat → Int32) → Option ((Nat → Int32))
  | 0, _, _, _, _ => none
  | n + 1, v1, v2, v3, b_plan => (if v2 ≤ v3 then some (b_plan) else (if (48 : Int32) ≤ v3 then some (b_plan) else (Option.bind (zf_X1_elementAt v1 v3 b_shelves) (fun u3 => (if ix v3 48 then zf_X7_takePlan_2 b_shelves n v1 v2 ((v3 + 1)) ((upd b_plan v3.toNatClampNeg u3.toInt32)) else none)))))
def zf_X7_takePlan (x1 : Int32) (x2 : Int32) (b_shelves : TSh) (b_plan : Nat → Int32) : Option ((Nat → Int32)) := zf_X7_takePlan_2 b_shelves FU x1 x2 ((0 : Int32)) b_plan
abbrev zr_X7_takePlan : Room := { frames := 4, cells := 0, slots := 0, locals := 87 }
set_option maxHeartbeats 4000000 in
set_option maxRecDepth 100000 in
theorem c_X7_takePlan (l : Launch) (G : va_G) (cy : Nat → ClassId) (tt : Nat → Nat) (L : Nat → Nat) (b_seedNow : Int32) (b_keptSeed : Int32) (b_isKept : Bool) (x1 : Int32) (x2 : Int32) (b_shelves : TSh) (b_plan : Nat → Int32) (res : (Nat → Int32)) (hf : zf_X7_takePlan x1 x2 b_shelves b_plan = some res) : zCT l yX7_takePlan cX7_takePlan 4 none zr_X7_takePlan G cy tt [.ref ((L 0)), .int x1, .int x2] [xU L b_seedNow b_keptSeed b_isKept, xSh ((L 20)) ((L 21)) ((L 22)) ((L 23)), xI cy ((L 21)) 8 b_shelves.1, xI cy ((L 22)) 8 b_shelves.2.1, xRJ cy ((L 23)) 8 (fun j => [some ((L 24)), some ((L 25)), some ((L 26)), some ((L 27)), some ((L 28)), some ((L 29)), some ((L 30)), some ((L 31))].getD j none), xJ cy ((L 24)) 40 ((b_shelves.2.2 0)), xJ cy ((L 25)) 40 ((b_shelves.2.2 1)), xJ cy ((L 26)) 40 ((b_shelves.2.2 2)), xJ cy ((L 27)) 40 ((b_shelves.2.2 3)), xJ cy ((L 28)) 40 ((b_shelves.2.2 4)), xJ cy ((L 29)) 40 ((b_shelves.2.2 5)), xJ cy ((L 30)) 40 ((b_shelves.2.2 6)), xJ cy ((L 31)) 40 ((b_shelves.2.2 7)), xI cy ((L 46)) 48 b_plan] none [xU L b_seedNow b_keptSeed b_isKept, xSh ((L 20)) ((L 21)) ((L 22)) ((L 23)), xI cy ((L 21)) 8 b_shelves.1, xI cy ((L 22)) 8 b_shelves.2.1, xRJ cy ((L 23)) 8 (fun j => [some ((L 24)), some ((L 25)), some ((L 26)), some ((L 27)), some ((L 28)), some ((L 29)), some ((L 30)), some ((L 31))].getD j none), xJ cy ((L 24)) 40 ((b_shelves.2.2 0)), xJ cy ((L 25)) 40 ((b_shelves.2.2 1)), xJ cy ((L 26)) 40 ((b_shelves.2.2 2)), xJ cy ((L 27)) 40 ((b_shelves.2.2 3)), xJ cy ((L 28)) 40 ((b_shelves.2.2 4)), xJ cy ((L 29)) 40 ((b_shelves.2.2 5)), xJ cy ((L 30)) 40 ((b_shelves.2.2 6)), xJ cy ((L 31)) 40 ((b_shelves.2.2 7)), xI cy ((L 46)) 48 res] := by
  refine zk_start zn_X7 (Nat.le_of_ble_eq_true rfl) ?_
  intro p e s m args below meth c A ls Q C hr hQ hw hl
  have C : zCx p m c s args meth cX7_takePlan 4 RX7 G cy tt A := C
  have hx := C.1.1
  have hb := C.1.2.1
  have hl : lv_has ls 4 [(0, .ref ((L 0))), (1, .int x1), (2, .int x2)] := hl
  have J2 : ∀ (n : Nat), ∀ (v1 : Int32) (v2 : Int32) (v3 : Int32) (b_plan : Nat → Int32) (H : Heap) (locs : List Loc) (ls : Array Slot), zf_X7_takePlan_2 b_shelves n v1 v2 v3 b_plan = some res → zWd G A s.heap H locs [xU L b_seedNow b_keptSeed b_isKept, xSh ((L 20)) ((L 21)) ((L 22)) ((L 23)), xI cy ((L 21)) 8 b_shelves.1, xI cy ((L 22)) 8 b_shelves.2.1, xRJ cy ((L 23)) 8 (fun j => [some ((L 24)), some ((L 25)), some ((L 26)), some ((L 27)), some ((L 28)), some ((L 29)), some ((L 30)), some ((L 31))].getD j none), xJ cy ((L 24)) 40 ((b_shelves.2.2 0)), xJ cy ((L 25)) 40 ((b_shelves.2.2 1)), xJ cy ((L 26)) 40 ((b_shelves.2.2 2)), xJ cy ((L 27)) 40 ((b_shelves.2.2 3)), xJ cy ((L 28)) 40 ((b_shelves.2.2 4)), xJ cy ((L 29)) 40 ((b_shelves.2.2 5)), xJ cy ((L 30)) 40 ((b_shelves.2.2 6)), xJ cy ((L 31)) 40 ((b_shelves.2.2 7)), xI cy ((L 46)) 48 b_plan] → lv_has ls 4 [(0, .ref ((L 0))), (1, .int v1), (2, .int v2), (3, .int v3)] → W p l e zr_X7_takePlan s m args below meth c H locs 0 0 Q (F0 m 2 ls []) := by
    intro n
    induction n with
    | zero =>
      intro v1 v2 v3 b_plan H locs ls hf hw hl
      rw [zf_X7_takePlan_2] at hf
      cases hf
    | succ n ih =>
      intro v1 v2 v3 b_plan H locs ls hf hw hl
      rw [zf_X7_takePlan_2] at hf
      refine lv_iload_n (pc := 2) hx hb dX7_takePlan_2 rfl (lv_at hl 3 rfl) ?_
      refine lv_iload_n (pc := 3) hx hb dX7_takePlan_3 rfl (lv_at hl 2 rfl) ?_
      refine lv_icmp_ge (pc := 4) (tgt := 38) hx hb dX7_takePlan_4 (by decide) (fun q1 => ?_) (fun q1 => ?_)
      · replace hf := if_t q1 hf
        have hf := Option.some.inj hf
        subst hf
        exact zk_retv (pc := 38) (ww := [xU L b_seedNow b_keptSeed b_isKept, xSh ((L 20)) ((L 21)) ((L 22)) ((L 23)), xI cy ((L 21)) 8 b_shelves.1, xI cy ((L 22)) 8 b_shelves.2.1, xRJ cy ((L 23)) 8 (fun j => [some ((L 24)), some ((L 25)), some ((L 26)), some ((L 27)), some ((L 28)), some ((L 29)), some ((L 30)), some ((L 31))].getD j none), xJ cy ((L 24)) 40 ((b_shelves.2.2 0)), xJ cy ((L 25)) 40 ((b_shelves.2.2 1)), xJ cy ((L 26)) 40 ((b_shelves.2.2 2)), xJ cy ((L 27)) 40 ((b_shelves.2.2 3)), xJ cy ((L 28)) 40 ((b_shelves.2.2 4)), xJ cy ((L 29)) 40 ((b_shelves.2.2 5)), xJ cy ((L 30)) 40 ((b_shelves.2.2 6)), xJ cy ((L 31)) 40 ((b_shelves.2.2 7)), xI cy ((L 46)) 48 b_plan]) C hw hr hQ dX7_takePlan_38
      · replace hf := if_f q1 hf
        refine lv_iload_n (pc := 7) hx hb dX7_takePlan_7 rfl (lv_at hl 3 rfl) ?_
        refine lv_aload_n (pc := 8) hx hb dX7_takePlan_8 rfl (lv_at hl 0 rfl) ?_
        refine zk_gt (pc := 9) C hw zl_X7_73 0 rfl rfl dX7_takePlan_9 ?_
        refine zk_alen (pc := 12) (v := 48) C hw 13 0 rfl rfl rfl dX7_takePlan_12 ?_
        refine lv_icmp_ge (pc := 13) (tgt := 38) hx hb dX7_takePlan_13 (by decide) (fun q2 => ?_) (fun q2 => ?_)
        · replace hf := if_t q2 hf
          have hf := Option.some.inj hf
          subst hf
          exact zk_retv (pc := 38) (ww := [xU L b_seedNow b_keptSeed b_isKept, xSh ((L 20)) ((L 21)) ((L 22)) ((L 23)), xI cy ((L 21)) 8 b_shelves.1, xI cy ((L 22)) 8 b_shelves.2.1, xRJ cy ((L 23)) 8 (fun j => [some ((L 24)), some ((L 25)), some ((L 26)), some ((L 27)), some ((L 28)), some ((L 29)), some ((L 30)), some ((L 31))].getD j none), xJ cy ((L 24)) 40 ((b_shelves.2.2 0)), xJ cy ((L 25)) 40 ((b_shelves.2.2 1)), xJ cy ((L 26)) 40 ((b_shelves.2.2 2)), xJ cy ((L 27)) 40 ((b_shelves.2.2 3)), xJ cy ((L 28)) 40 ((b_shelves.2.2 4)), xJ cy ((L 29)) 40 ((b_shelves.2.2 5)), xJ cy ((L 30)) 40 ((b_shelves.2.2 6)), xJ cy ((L 31)) 40 ((b_shelves.2.2 7)), xI cy ((L 46)) 48 b_plan]) C hw hr hQ dX7_takePlan_38
        · replace hf := if_f q2 hf
          refine lv_aload_n (pc := 16) hx hb dX7_takePlan_16 rfl (lv_at hl 0 rfl) ?_
          refine zk_gt (pc := 17) C hw zl_X7_73 0 rfl rfl dX7_takePlan_17 ?_
          refine lv_iload_n (pc := 20) hx hb dX7_takePlan_20 rfl (lv_at hl 3 rfl) ?_
          refine lv_aload_n (pc := 21) hx hb dX7_takePlan_21 rfl (lv_at hl 0 rfl) ?_
          refine zk_gt (pc := 22) C hw zl_X7_41 0 rfl rfl dX7_takePlan_22 ?_
          refine lv_iload_n (pc := 25) hx hb dX7_takePlan_25 rfl (lv_at hl 1 rfl) ?_
          refine lv_iload_n (pc := 26) hx hb dX7_takePlan_26 rfl (lv_at hl 3 rfl) ?_
          obtain ⟨u3, u3e, hf⟩ := bd hf
          refine zk_cV (pc := 27) (ci := 1) (q0 := 1) (rest := [.int v3, .ref ((L 46))]) (st1 := [.long u3, .int v3, .ref ((L 46))]) (w' := [xU L b_seedNow b_keptSeed b_isKept, xSh ((L 20)) ((L 21)) ((L 22)) ((L 23)), xI cy ((L 21)) 8 b_shelves.1, xI cy ((L 22)) 8 b_shelves.2.1, xRJ cy ((L 23)) 8 (fun j => [some ((L 24)), some ((L 25)), some ((L 26)), some ((L 27)), some ((L 28)), some ((L 29)), some ((L 30)), some ((L 31))].getD j none), xJ cy ((L 24)) 40 ((b_shelves.2.2 0)), xJ cy ((L 25)) 40 ((b_shelves.2.2 1)), xJ cy ((L 26)) 40 ((b_shelves.2.2 2)), xJ cy ((L 27)) 40 ((b_shelves.2.2 3)), xJ cy ((L 28)) 40 ((b_shelves.2.2 4)), xJ cy ((L 29)) 40 ((b_shelves.2.2 5)), xJ cy ((L 30)) 40 ((b_shelves.2.2 6)), xJ cy ((L 31)) 40 ((b_shelves.2.2 7)), xI cy ((L 46)) 48 b_plan]) (mk := [none, none, none, none, none, none, none, none, none, none, none, none, none, none]) C hw (c_X1_elementAt l G cy tt ((L 20)) ((L 21)) ((L 22)) ((L 23)) ((L 24)) ((L 25)) ((L 26)) ((L 27)) ((L 28)) ((L 29)) ((L 30)) ((L 31)) v1 v3 b_shelves _ u3e) zy_X1_elementAt zm_X7_139 rfl rfl rfl [1, 2, 3, 4, 5, 6, 7, 8, 9, 10, 11, 12] rfl rfl rfl rfl rfl rfl rfl rfl hl.1 ⟨rfl, rfl⟩ ⟨Nat.le_of_ble_eq_true rfl, Nat.le_of_ble_eq_true rfl⟩ rfl (Nat.le_of_ble_eq_true rfl) ⟨Nat.zero_le _, Nat.zero_le _⟩ dX7_takePlan_27 (fun H locs hw => ?_)
          refine lv_l2i (pc := 30) (v := u3.toInt32) hx hb dX7_takePlan_30 rfl ?_
          obtain ⟨q4, hf⟩ := ck hf
          refine zk_iast (pc := 31) (w' := [xU L b_seedNow b_keptSeed b_isKept, xSh ((L 20)) ((L 21)) ((L 22)) ((L 23)), xI cy ((L 21)) 8 b_shelves.1, xI cy ((L 22)) 8 b_shelves.2.1, xRJ cy ((L 23)) 8 (fun j => [some ((L 24)), some ((L 25)), some ((L 26)), some ((L 27)), some ((L 28)), some ((L 29)), some ((L 30)), some ((L 31))].getD j none), xJ cy ((L 24)) 40 ((b_shelves.2.2 0)), xJ cy ((L 25)) 40 ((b_shelves.2.2 1)), xJ cy ((L 26)) 40 ((b_shelves.2.2 2)), xJ cy ((L 27)) 40 ((b_shelves.2.2 3)), xJ cy ((L 28)) 40 ((b_shelves.2.2 4)), xJ cy ((L 29)) 40 ((b_shelves.2.2 5)), xJ cy ((L 30)) 40 ((b_shelves.2.2 6)), xJ cy ((L 31)) 40 ((b_shelves.2.2 7)), xI cy ((L 46)) 48 ((upd b_plan v3.toNatClampNeg u3.toInt32))]) C hw 13 rfl q4 rfl dX7_takePlan_31 (fun H locs hw => ?_)
          refine lv_iinc (pc := 32) (v := (v3 + 1)) (lv' := [(3, .int ((v3 + 1))), (0, .ref ((L 0))), (1, .int v1), (2, .int v2)]) hx hb dX7_takePlan_32 hl (k := 3) rfl rfl (by decide) rfl (fun ls hl => ?_)
          refine lv_goto (pc := 35) (tgt := 2) hx hb dX7_takePlan_35 (by decide) ?_
          exact ih v1 v2 ((v3 + 1)) ((upd b_plan v3.toNatClampNeg u3.toInt32)) _ _ _ hf hw (lv_sub hl [1, 2, 3, 0] rfl)
  rw [zf_X7_takePlan] at hf
  refine lv_iconst (pc := 0) (v := 0) hx hb dX7_takePlan_0 (by decide) ?_
  refine lv_istore_n (pc := 1) (lv' := [(3, .int ((0 : Int32))), (0, .ref ((L 0))), (1, .int x1), (2, .int x2)]) hx hb dX7_takePlan_1 rfl hl (by decide) rfl (fun ls hl => ?_)
  exact J2 FU x1 x2 ((0 : Int32)) b_plan _ _ _ hf hw (lv_sub hl [1, 2, 3, 0] rfl)
def zf_X7_takeRoster (x1 : Int32) (x2 : Int32) (x3 : Bool) (b_staff : TSt) (b_shelves : TSh) (b_plan : Nat → Int32) : Option (Int32 × (Nat → Int32)) := (Option.bind (zf_X7_elementsFault x1 x2 (((40 : Int32))) (((1 : Int32))) x3 b_shelves) (fun u1 => (if u1 = 0 then (Option.bind (zf_X7_wrongPlace x1 x2 b_staff b_shelves) (fun u3 => (if u3 = (-1 : Int32) then (Option.bind (zf_X7_takePlan x1 x2 b_shelves b_plan) (fun u5 => some ((0 : Int32), u5))) else some ((-5 : Int32), b_plan)))) else some (u1, b_plan))))
abbrev zr_X7_takeRoster : Room := { frames := 5, cells := 0, slots := 0, locals := 110 }
set_option maxHeartbeats 4000000 in
set_option maxRecDepth 100000 in
theorem c_X7_takeRoster (l : Launch) (G : va_G) (cy : Nat → ClassId) (tt : Nat → Nat) (L : Nat → Nat) (b_seedNow : Int32) (b_keptSeed : Int32) (b_isKept : Bool) (x1 : Int32) (x2 : Int32) (x3 : Bool) (b_staff : TSt) (b_shelves : TSh) (b_plan : Nat → Int32) (res : Int32 × (Nat → Int32)) (hf : zf_X7_takeRoster x1 x2 x3 b_staff b_shelves b_plan = some res) : zCT l yX7_takeRoster cX7_takeRoster 5 (some .int) zr_X7_takeRoster G cy tt [.ref ((L 0)), .int x1, .int x2, .int (bI x3)] [xU L b_seedNow b_keptSeed b_isKept, xSt ((L 5)) ((L 6)) ((L 7)) ((L 8)) ((L 9)) b_staff.1, xI cy ((L 6)) 8 b_staff.2.1, xI cy ((L 7)) 8 b_staff.2.2.1, xI cy ((L 8)) 8 b_staff.2.2.2.1, xI cy ((L 9)) 8 b_staff.2.2.2.2, xSh ((L 20)) ((L 21)) ((L 22)) ((L 23)), xI cy ((L 21)) 8 b_shelves.1, xI cy ((L 22)) 8 b_shelves.2.1, xRJ cy ((L 23)) 8 (fun j => [some ((L 24)), some ((L 25)), some ((L 26)), some ((L 27)), some ((L 28)), some ((L 29)), some ((L 30)), some ((L 31))].getD j none), xJ cy ((L 24)) 40 ((b_shelves.2.2 0)), xJ cy ((L 25)) 40 ((b_shelves.2.2 1)), xJ cy ((L 26)) 40 ((b_shelves.2.2 2)), xJ cy ((L 27)) 40 ((b_shelves.2.2 3)), xJ cy ((L 28)) 40 ((b_shelves.2.2 4)), xJ cy ((L 29)) 40 ((b_shelves.2.2 5)), xJ cy ((L 30)) 40 ((b_shelves.2.2 6)), xJ cy ((L 31)) 40 ((b_shelves.2.2 7)), xI cy ((L 46)) 48 b_plan] (some (.int res.1)) [xU L b_seedNow b_keptSeed b_isKept, xSt ((L 5)) ((L 6)) ((L 7)) ((L 8)) ((L 9)) b_staff.1, xI cy ((L 6)) 8 b_staff.2.1, xI cy ((L 7)) 8 b_staff.2.2.1, xI cy ((L 8)) 8 b_staff.2.2.2.1, xI cy ((L 9)) 8 b_staff.2.2.2.2, xSh ((L 20)) ((L 21)) ((L 22)) ((L 23)), xI cy ((L 21)) 8 b_shelves.1, xI cy ((L 22)) 8 b_shelves.2.1, xRJ cy ((L 23)) 8 (fun j => [some ((L 24)), some ((L 25)), some ((L 26)), some ((L 27)), some ((L 28)), some ((L 29)), some ((L 30)), some ((L 31))].getD j none), xJ cy ((L 24)) 40 ((b_shelves.2.2 0)), xJ cy ((L 25)) 40 ((b_shelves.2.2 1)), xJ cy ((L 26)) 40 ((b_shelves.2.2 2)), xJ cy ((L 27)) 40 ((b_shelves.2.2 3)), xJ cy ((L 28)) 40 ((b_shelves.2.2 4)), xJ cy ((L 29)) 40 ((b_shelves.2.2 5)), xJ cy ((L 30)) 40 ((b_shelves.2.2 6)), xJ cy ((L 31)) 40 ((b_shelves.2.2 7)), xI cy ((L 46)) 48 res.2] := by
  refine zk_start zn_X7 (Nat.le_of_ble_eq_true rfl) ?_
  intro p e s m args below meth c A ls Q C hr hQ hw hl
  have C : zCx p m c s args meth cX7_takeRoster 5 RX7 G cy tt A := C
  have hx := C.1.1
  have hb := C.1.2.1
  have hl : lv_has ls 5 [(0, .ref ((L 0))), (1, .int x1), (2, .int x2), (3, .int (bI x3))] := hl
  rw [zf_X7_takeRoster] at hf
  refine lv_aload_n (pc := 0) hx hb dX7_takeRoster_0 rfl (lv_at hl 0 rfl) ?_
  refine lv_iload_n (pc := 1) hx hb dX7_takeRoster_1 rfl (lv_at hl 1 rfl) ?_
  refine lv_iload_n (pc := 2) hx hb dX7_takeRoster_2 rfl (lv_at hl 2 rfl) ?_
  refine lv_bipush (pc := 3) (v := 40) hx hb dX7_takeRoster_3 (by decide) ?_
  refine lv_iconst (pc := 5) (v := 1) hx hb dX7_takeRoster_5 (by decide) ?_
  refine lv_iload_n (pc := 6) hx hb dX7_takeRoster_6 rfl (lv_at hl 3 rfl) ?_
  obtain ⟨u1, u1e, hf⟩ := bd hf
  refine zk_cV (pc := 7) (ci := 7) (q0 := 0) (rest := []) (st1 := [.int u1]) (w' := [xU L b_seedNow b_keptSeed b_isKept, xSt ((L 5)) ((L 6)) ((L 7)) ((L 8)) ((L 9)) b_staff.1, xI cy ((L 6)) 8 b_staff.2.1, xI cy ((L 7)) 8 b_staff.2.2.1, xI cy ((L 8)) 8 b_staff.2.2.2.1, xI cy ((L 9)) 8 b_staff.2.2.2.2, xSh ((L 20)) ((L 21)) ((L 22)) ((L 23)), xI cy ((L 21)) 8 b_shelves.1, xI cy ((L 22)) 8 b_shelves.2.1, xRJ cy ((L 23)) 8 (fun j => [some ((L 24)), some ((L 25)), some ((L 26)), some ((L 27)), some ((L 28)), some ((L 29)), some ((L 30)), some ((L 31))].getD j none), xJ cy ((L 24)) 40 ((b_shelves.2.2 0)), xJ cy ((L 25)) 40 ((b_shelves.2.2 1)), xJ cy ((L 26)) 40 ((b_shelves.2.2 2)), xJ cy ((L 27)) 40 ((b_shelves.2.2 3)), xJ cy ((L 28)) 40 ((b_shelves.2.2 4)), xJ cy ((L 29)) 40 ((b_shelves.2.2 5)), xJ cy ((L 30)) 40 ((b_shelves.2.2 6)), xJ cy ((L 31)) 40 ((b_shelves.2.2 7)), xI cy ((L 46)) 48 b_plan]) (mk := [none, none, none, none, none, none, none, none, none, none, none, none, none, none, none, none, none, none, none]) C hw (c_X7_elementsFault l G cy tt L b_seedNow b_keptSeed b_isKept x1 x2 (((40 : Int32))) (((1 : Int32))) x3 b_shelves _ u1e) zy_X7_elementsFault zm_X7_262 rfl rfl rfl [0, 6, 7, 8, 9, 10, 11, 12, 13, 14, 15, 16, 17] rfl rfl rfl rfl rfl rfl rfl rfl hl.1 ⟨rfl, rfl⟩ ⟨Nat.le_of_ble_eq_true rfl, Nat.le_of_ble_eq_true rfl⟩ rfl (Nat.le_of_ble_eq_true rfl) ⟨Nat.zero_le _, Nat.zero_le _⟩ dX7_takeRoster_7 (fun H locs hw => ?_)
  refine lv_istore (pc := 10) (lv' := [(4, .int u1), (0, .ref ((L 0))), (1, .int x1), (2, .int x2), (3, .int (bI x3))]) hx hb dX7_takeRoster_10 hl (by decide) rfl (fun ls hl => ?_)
  refine lv_iload (pc := 12) hx hb dX7_takeRoster_12 (lv_at hl 0 rfl) ?_
  refine lv_if_eq (pc := 14) (tgt := 20) hx hb dX7_takeRoster_14 (by decide) (fun q2 => ?_) (fun q2 => ?_)
  · replace hf := if_t q2 hf
    refine lv_aload_n (pc := 20) hx hb dX7_takeRoster_20 rfl (lv_at hl 1 rfl) ?_
    refine lv_iload_n (pc := 21) hx hb dX7_takeRoster_21 rfl (lv_at hl 2 rfl) ?_
    refine lv_iload_n (pc := 22) hx hb dX7_takeRoster_22 rfl (lv_at hl 3 rfl) ?_
    obtain ⟨u3, u3e, hf⟩ := bd hf
    refine zk_cV (pc := 23) (ci := 7) (q0 := 0) (rest := []) (st1 := [.int u3]) (w' := [xU L b_seedNow b_keptSeed b_isKept, xSt ((L 5)) ((L 6)) ((L 7)) ((L 8)) ((L 9)) b_staff.1, xI cy ((L 6)) 8 b_staff.2.1, xI cy ((L 7)) 8 b_staff.2.2.1, xI cy ((L 8)) 8 b_staff.2.2.2.1, xI cy ((L 9)) 8 b_staff.2.2.2.2, xSh ((L 20)) ((L 21)) ((L 22)) ((L 23)), xI cy ((L 21)) 8 b_shelves.1, xI cy ((L 22)) 8 b_shelves.2.1, xRJ cy ((L 23)) 8 (fun j => [some ((L 24)), some ((L 25)), some ((L 26)), some ((L 27)), some ((L 28)), some ((L 29)), some ((L 30)), some ((L 31))].getD j none), xJ cy ((L 24)) 40 ((b_shelves.2.2 0)), xJ cy ((L 25)) 40 ((b_shelves.2.2 1)), xJ cy ((L 26)) 40 ((b_shelves.2.2 2)), xJ cy ((L 27)) 40 ((b_shelves.2.2 3)), xJ cy ((L 28)) 40 ((b_shelves.2.2 4)), xJ cy ((L 29)) 40 ((b_shelves.2.2 5)), xJ cy ((L 30)) 40 ((b_shelves.2.2 6)), xJ cy ((L 31)) 40 ((b_shelves.2.2 7)), xI cy ((L 46)) 48 b_plan]) (mk := [none, none, none, none, none, none, none, none, none, none, none, none, none, none, none, none, none, none, none]) C hw (c_X7_wrongPlace l G cy tt L b_seedNow b_keptSeed b_isKept x1 x2 b_staff b_shelves _ u3e) zy_X7_wrongPlace zm_X7_266 rfl rfl rfl [0, 1, 2, 3, 4, 5, 6, 7, 8, 9, 10, 11, 12, 13, 14, 15, 16, 17] rfl rfl rfl rfl rfl rfl rfl rfl hl.1 ⟨rfl, rfl⟩ ⟨Nat.le_of_ble_eq_true rfl, Nat.le_of_ble_eq_true rfl⟩ rfl (Nat.le_of_ble_eq_true rfl) ⟨Nat.zero_le _, Nat.zero_le _⟩ dX7_takeRoster_23 (fun H locs hw => ?_)
    refine lv_iconst (pc := 26) (v := -1) hx hb dX7_takeRoster_26 (by decide) ?_
    refine lv_icmp_eq (pc := 27) (tgt := 33) hx hb dX7_takeRoster_27 (by decide) (fun q4 => ?_) (fun q4 => ?_)
    · replace hf := if_t q4 hf
      refine lv_aload_n (pc := 33) hx hb dX7_takeRoster_33 rfl (lv_at hl 1 rfl) ?_
      refine lv_iload_n (pc := 34) hx hb dX7_takeRoster_34 rfl (lv_at hl 2 rfl) ?_
      refine lv_iload_n (pc := 35) hx hb dX7_takeRoster_35 rfl (lv_at hl 3 rfl) ?_
      obtain ⟨u5, u5e, hf⟩ := bd hf
      refine zk_cV (pc := 36) (ci := 7) (q0 := 0) (rest := []) (st1 := []) (w' := [xU L b_seedNow b_keptSeed b_isKept, xSt ((L 5)) ((L 6)) ((L 7)) ((L 8)) ((L 9)) b_staff.1, xI cy ((L 6)) 8 b_staff.2.1, xI cy ((L 7)) 8 b_staff.2.2.1, xI cy ((L 8)) 8 b_staff.2.2.2.1, xI cy ((L 9)) 8 b_staff.2.2.2.2, xSh ((L 20)) ((L 21)) ((L 22)) ((L 23)), xI cy ((L 21)) 8 b_shelves.1, xI cy ((L 22)) 8 b_shelves.2.1, xRJ cy ((L 23)) 8 (fun j => [some ((L 24)), some ((L 25)), some ((L 26)), some ((L 27)), some ((L 28)), some ((L 29)), some ((L 30)), some ((L 31))].getD j none), xJ cy ((L 24)) 40 ((b_shelves.2.2 0)), xJ cy ((L 25)) 40 ((b_shelves.2.2 1)), xJ cy ((L 26)) 40 ((b_shelves.2.2 2)), xJ cy ((L 27)) 40 ((b_shelves.2.2 3)), xJ cy ((L 28)) 40 ((b_shelves.2.2 4)), xJ cy ((L 29)) 40 ((b_shelves.2.2 5)), xJ cy ((L 30)) 40 ((b_shelves.2.2 6)), xJ cy ((L 31)) 40 ((b_shelves.2.2 7)), xI cy ((L 46)) 48 u5]) (mk := [none, none, none, none, none, none, none, none, none, none, none, none, none, none, none, none, none, none, some (xI cy ((L 46)) 48 u5)]) C hw (c_X7_takePlan l G cy tt L b_seedNow b_keptSeed b_isKept x1 x2 b_shelves b_plan _ u5e) zy_X7_takePlan zm_X7_400 rfl rfl rfl [0, 6, 7, 8, 9, 10, 11, 12, 13, 14, 15, 16, 17, 18] rfl rfl rfl rfl rfl rfl rfl rfl hl.1 ⟨rfl, rfl⟩ ⟨Nat.le_of_ble_eq_true rfl, Nat.le_of_ble_eq_true rfl⟩ rfl (Nat.le_of_ble_eq_true rfl) ⟨Nat.zero_le _, Nat.zero_le _⟩ dX7_takeRoster_36 (fun H locs hw => ?_)
      refine lv_iconst (pc := 39) (v := 0) hx hb dX7_takeRoster_39 (by decide) ?_
      have hf := Option.some.inj hf
      subst hf
      exact zk_reti (pc := 40) (ww := [xU L b_seedNow b_keptSeed b_isKept, xSt ((L 5)) ((L 6)) ((L 7)) ((L 8)) ((L 9)) b_staff.1, xI cy ((L 6)) 8 b_staff.2.1, xI cy ((L 7)) 8 b_staff.2.2.1, xI cy ((L 8)) 8 b_staff.2.2.2.1, xI cy ((L 9)) 8 b_staff.2.2.2.2, xSh ((L 20)) ((L 21)) ((L 22)) ((L 23)), xI cy ((L 21)) 8 b_shelves.1, xI cy ((L 22)) 8 b_shelves.2.1, xRJ cy ((L 23)) 8 (fun j => [some ((L 24)), some ((L 25)), some ((L 26)), some ((L 27)), some ((L 28)), some ((L 29)), some ((L 30)), some ((L 31))].getD j none), xJ cy ((L 24)) 40 ((b_shelves.2.2 0)), xJ cy ((L 25)) 40 ((b_shelves.2.2 1)), xJ cy ((L 26)) 40 ((b_shelves.2.2 2)), xJ cy ((L 27)) 40 ((b_shelves.2.2 3)), xJ cy ((L 28)) 40 ((b_shelves.2.2 4)), xJ cy ((L 29)) 40 ((b_shelves.2.2 5)), xJ cy ((L 30)) 40 ((b_shelves.2.2 6)), xJ cy ((L 31)) 40 ((b_shelves.2.2 7)), xI cy ((L 46)) 48 u5]) C hw hr hQ dX7_takeRoster_40
    · replace hf := if_f q4 hf
      refine lv_bipush (pc := 30) (v := -5) hx hb dX7_takeRoster_30 (by decide) ?_
      have hf := Option.some.inj hf
      subst hf
      exact zk_reti (pc := 32) (ww := [xU L b_seedNow b_keptSeed b_isKept, xSt ((L 5)) ((L 6)) ((L 7)) ((L 8)) ((L 9)) b_staff.1, xI cy ((L 6)) 8 b_staff.2.1, xI cy ((L 7)) 8 b_staff.2.2.1, xI cy ((L 8)) 8 b_staff.2.2.2.1, xI cy ((L 9)) 8 b_staff.2.2.2.2, xSh ((L 20)) ((L 21)) ((L 22)) ((L 23)), xI cy ((L 21)) 8 b_shelves.1, xI cy ((L 22)) 8 b_shelves.2.1, xRJ cy ((L 23)) 8 (fun j => [some ((L 24)), some ((L 25)), some ((L 26)), some ((L 27)), some ((L 28)), some ((L 29)), some ((L 30)), some ((L 31))].getD j none), xJ cy ((L 24)) 40 ((b_shelves.2.2 0)), xJ cy ((L 25)) 40 ((b_shelves.2.2 1)), xJ cy ((L 26)) 40 ((b_shelves.2.2 2)), xJ cy ((L 27)) 40 ((b_shelves.2.2 3)), xJ cy ((L 28)) 40 ((b_shelves.2.2 4)), xJ cy ((L 29)) 40 ((b_shelves.2.2 5)), xJ cy ((L 30)) 40 ((b_shelves.2.2 6)), xJ cy ((L 31)) 40 ((b_shelves.2.2 7)), xI cy ((L 46)) 48 b_plan]) C hw hr hQ dX7_takeRoster_32
  · replace hf := if_f q2 hf
    refine lv_iload (pc := 17) hx hb dX7_takeRoster_17 (lv_at hl 0 rfl) ?_
    have hf := Option.some.inj hf
    subst hf
    exact zk_reti (pc := 19) (ww := [xU L b_seedNow b_keptSeed b_isKept, xSt ((L 5)) ((L 6)) ((L 7)) ((L 8)) ((L 9)) b_staff.1, xI cy ((L 6)) 8 b_staff.2.1, xI cy ((L 7)) 8 b_staff.2.2.1, xI cy ((L 8)) 8 b_staff.2.2.2.1, xI cy ((L 9)) 8 b_staff.2.2.2.2, xSh ((L 20)) ((L 21)) ((L 22)) ((L 23)), xI cy ((L 21)) 8 b_shelves.1, xI cy ((L 22)) 8 b_shelves.2.1, xRJ cy ((L 23)) 8 (fun j => [some ((L 24)), some ((L 25)), some ((L 26)), some ((L 27)), some ((L 28)), some ((L 29)), some ((L 30)), some ((L 31))].getD j none), xJ cy ((L 24)) 40 ((b_shelves.2.2 0)), xJ cy ((L 25)) 40 ((b_shelves.2.2 1)), xJ cy ((L 26)) 40 ((b_shelves.2.2 2)), xJ cy ((L 27)) 40 ((b_shelves.2.2 3)), xJ cy ((L 28)) 40 ((b_shelves.2.2 4)), xJ cy ((L 29)) 40 ((b_shelves.2.2 5)), xJ cy ((L 30)) 40 ((b_shelves.2.2 6)), xJ cy ((L 31)) 40 ((b_shelves.2.2 7)), xI cy ((L 46)) 48 b_plan]) C hw hr hQ dX7_takeRoster_19
def zf_X6_begin  (b_this : TWa) (b_p1 : TTe) : Option (TWa) := (Option.bind (zf_X5_become b_this.1 b_p1) (fun u1 => some ((u1, (0 : Int32), (0 : Int32), (-1 : Int32), (0 : Int32), b_p1.1, b_p1.1, (0 : Int32), b_p1.2.1))))
abbrev zr_X6_begin : Room := { frames := 1, cells := 0, slots := 0, locals := 21 }
set_option maxHeartbeats 4000000 in
set_option maxRecDepth 100000 in
theorem c_X6_begin (l : Launch) (G : va_G) (cy : Nat → ClassId) (tt : Nat → Nat) (a0 a1 : Nat) (p1_0 : Nat)  (b_this : TWa) (b_p1 : TTe) (res : TWa) (hf : zf_X6_begin b_this b_p1 = some res) : zCT l yX6_begin cX6_begin 2 none zr_X6_begin G cy tt [.ref a0, .ref p1_0] [xWa a0 a1 b_this.2.1 b_this.2.2.1 b_this.2.2.2.1 b_this.2.2.2.2.1 b_this.2.2.2.2.2.1 b_this.2.2.2.2.2.2.1 b_this.2.2.2.2.2.2.2.1 b_this.2.2.2.2.2.2.2.2, xTe a1 b_this.1, xTe p1_0 b_p1] none [xWa a0 a1 res.2.1 res.2.2.1 res.2.2.2.1 res.2.2.2.2.1 res.2.2.2.2.2.1 res.2.2.2.2.2.2.1 res.2.2.2.2.2.2.2.1 res.2.2.2.2.2.2.2.2, xTe a1 res.1, xTe p1_0 b_p1] := by
  refine zk_start zn_X6 (Nat.le_of_ble_eq_true rfl) ?_
  intro p e s m args below meth c A ls Q C hr hQ hw hl
  have C : zCx p m c s args meth cX6_begin 2 RX6 G cy tt A := C
  have hx := C.1.1
  have hb := C.1.2.1
  have hl : lv_has ls 2 [(0, .ref a0), (1, .ref p1_0)] := hl
  rw [zf_X6_begin] at hf
  refine lv_aload_n (pc := 0) hx hb dX6_begin_0 rfl (lv_at hl 0 rfl) ?_
  refine zk_gt (pc := 1) C hw zl_X6_12 0 rfl rfl dX6_begin_1 ?_
  refine lv_aload_n (pc := 4) hx hb dX6_begin_4 rfl (lv_at hl 1 rfl) ?_
  obtain ⟨u1, u1e, hf⟩ := bd hf
  refine zk_cV (pc := 5) (ci := 5) (q0 := 1) (rest := []) (st1 := []) (w' := [xWa a0 a1 b_this.2.1 b_this.2.2.1 b_this.2.2.2.1 b_this.2.2.2.2.1 b_this.2.2.2.2.2.1 b_this.2.2.2.2.2.2.1 b_this.2.2.2.2.2.2.2.1 b_this.2.2.2.2.2.2.2.2, xTe a1 u1, xTe p1_0 b_p1]) (mk := [none, some (xTe a1 u1), none]) C hw (c_X5_become l G cy tt a1 p1_0 b_this.1 b_p1 _ u1e) zy_X5_become zm_X6_55 rfl rfl rfl [1, 2] rfl rfl rfl rfl rfl rfl rfl rfl hl.1 ⟨rfl, rfl⟩ ⟨Nat.le_of_ble_eq_true rfl, Nat.le_of_ble_eq_true rfl⟩ rfl (Nat.le_of_ble_eq_true rfl) ⟨Nat.zero_le _, Nat.zero_le _⟩ dX6_begin_5 (fun H locs hw => ?_)
  refine lv_aload_n (pc := 8) hx hb dX6_begin_8 rfl (lv_at hl 0 rfl) ?_
  refine lv_iconst (pc := 9) (v := 0) hx hb dX6_begin_9 (by decide) ?_
  refine zk_put (pc := 10) (w' := [xWa a0 a1 ((0 : Int32)) b_this.2.2.1 b_this.2.2.2.1 b_this.2.2.2.2.1 b_this.2.2.2.2.2.1 b_this.2.2.2.2.2.2.1 b_this.2.2.2.2.2.2.2.1 b_this.2.2.2.2.2.2.2.2, xTe a1 u1, xTe p1_0 b_p1]) C hw zp_X6_18 0 rfl rfl rfl (Nat.le_of_ble_eq_true rfl) rfl dX6_begin_10 (fun H locs hw => ?_)
  refine lv_aload_n (pc := 13) hx hb dX6_begin_13 rfl (lv_at hl 0 rfl) ?_
  refine lv_iconst (pc := 14) (v := 0) hx hb dX6_begin_14 (by decide) ?_
  refine zk_put (pc := 15) (w' := [xWa a0 a1 ((0 : Int32)) ((0 : Int32)) b_this.2.2.2.1 b_this.2.2.2.2.1 b_this.2.2.2.2.2.1 b_this.2.2.2.2.2.2.1 b_this.2.2.2.2.2.2.2.1 b_this.2.2.2.2.2.2.2.2, xTe a1 u1, xTe p1_0 b_p1]) C hw zp_X6_22 0 rfl rfl rfl (Nat.le_of_ble_eq_true rfl) rfl dX6_begin_15 (fun H locs hw => ?_)
  refine lv_aload_n (pc := 18) hx hb dX6_begin_18 rfl (lv_at hl 0 rfl) ?_
  refine lv_iconst (pc := 19) (v := -1) hx hb dX6_begin_19 (by decide) ?_
  refine zk_put (pc := 20) (w' := [xWa a0 a1 ((0 : Int32)) ((0 : Int32)) ((-1 : Int32)) b_this.2.2.2.2.1 b_this.2.2.2.2.2.1 b_this.2.2.2.2.2.2.1 b_this.2.2.2.2.2.2.2.1 b_this.2.2.2.2.2.2.2.2, xTe a1 u1, xTe p1_0 b_p1]) C hw zp_X6_25 0 rfl rfl rfl (Nat.le_of_ble_eq_true rfl) rfl dX6_begin_20 (fun H locs hw => ?_)
  refine lv_aload_n (pc := 23) hx hb dX6_begin_23 rfl (lv_at hl 0 rfl) ?_
  refine lv_iconst (pc := 24) (v := 0) hx hb dX6_begin_24 (by decide) ?_
  refine zk_put (pc := 25) (w' := [xWa a0 a1 ((0 : Int32)) ((0 : Int32)) ((-1 : Int32)) ((0 : Int32)) b_this.2.2.2.2.2.1 b_this.2.2.2.2.2.2.1 b_this.2.2.2.2.2.2.2.1 b_this.2.2.2.2.2.2.2.2, xTe a1 u1, xTe p1_0 b_p1]) C hw zp_X6_28 0 rfl rfl rfl (Nat.le_of_ble_eq_true rfl) rfl dX6_begin_25 (fun H locs hw => ?_)
  refine lv_aload_n (pc := 28) hx hb dX6_begin_28 rfl (lv_at hl 0 rfl) ?_
  refine lv_aload_n (pc := 29) hx hb dX6_begin_29 rfl (lv_at hl 1 rfl) ?_
  refine zk_gt (pc := 30) C hw zl_X6_58 2 rfl rfl dX6_begin_30 ?_
  refine zk_put (pc := 33) (w' := [xWa a0 a1 ((0 : Int32)) ((0 : Int32)) ((-1 : Int32)) ((0 : Int32)) b_p1.1 b_this.2.2.2.2.2.2.1 b_this.2.2.2.2.2.2.2.1 b_this.2.2.2.2.2.2.2.2, xTe a1 u1, xTe p1_0 b_p1]) C hw zp_X6_31 0 rfl rfl rfl (Nat.le_of_ble_eq_true rfl) rfl dX6_begin_33 (fun H locs hw => ?_)
  refine lv_aload_n (pc := 36) hx hb dX6_begin_36 rfl (lv_at hl 0 rfl) ?_
  refine lv_aload_n (pc := 37) hx hb dX6_begin_37 rfl (lv_at hl 1 rfl) ?_
  refine zk_gt (pc := 38) C hw zl_X6_58 2 rfl rfl dX6_begin_38 ?_
  refine zk_put (pc := 41) (w' := [xWa a0 a1 ((0 : Int32)) ((0 : Int32)) ((-1 : Int32)) ((0 : Int32)) b_p1.1 b_p1.1 b_this.2.2.2.2.2.2.2.1 b_this.2.2.2.2.2.2.2.2, xTe a1 u1, xTe p1_0 b_p1]) C hw zp_X6_34 0 rfl rfl rfl (Nat.le_of_ble_eq_true rfl) rfl dX6_begin_41 (fun H locs hw => ?_)
  refine lv_aload_n (pc := 44) hx hb dX6_begin_44 rfl (lv_at hl 0 rfl) ?_
  refine lv_iconst (pc := 45) (v := 0) hx hb dX6_begin_45 (by decide) ?_
  refine zk_put (pc := 46) (w' := [xWa a0 a1 ((0 : Int32)) ((0 : Int32)) ((-1 : Int32)) ((0 : Int32)) b_p1.1 b_p1.1 ((0 : Int32)) b_this.2.2.2.2.2.2.2.2, xTe a1 u1, xTe p1_0 b_p1]) C hw zp_X6_37 0 rfl rfl rfl (Nat.le_of_ble_eq_true rfl) rfl dX6_begin_46 (fun H locs hw => ?_)
  refine lv_aload_n (pc := 49) hx hb dX6_begin_49 rfl (lv_at hl 0 rfl) ?_
  refine lv_aload_n (pc := 50) hx hb dX6_begin_50 rfl (lv_at hl 1 rfl) ?_
  refine zk_gt (pc := 51) C hw zl_X6_61 2 rfl rfl dX6_begin_51 ?_
  refine zk_put (pc := 54) (w' := [xWa a0 a1 ((0 : Int32)) ((0 : Int32)) ((-1 : Int32)) ((0 : Int32)) b_p1.1 b_p1.1 ((0 : Int32)) b_p1.2.1, xTe a1 u1, xTe p1_0 b_p1]) C hw zp_X6_40 0 rfl rfl rfl (Nat.le_of_ble_eq_true rfl) rfl dX6_begin_54 (fun H locs hw => ?_)
  have hf := Option.some.inj hf
  subst hf
  exact zk_retv (pc := 57) (ww := [xWa a0 a1 ((0 : Int32)) ((0 : Int32)) ((-1 : Int32)) ((0 : Int32)) b_p1.1 b_p1.1 ((0 : Int32)) b_p1.2.1, xTe a1 u1, xTe p1_0 b_p1]) C hw hr hQ dX6_begin_57
def zf_X6_noteHour_102 (b_this : TWa) : Option (TWa) := some ((b_this.1, b_this.2.1, b_this.2.2.1, b_this.2.2.2.1, b_this.2.2.2.2.1, (if b_this.1.1 < b_this.2.2.2.2.2.1 then b_this.1.1 else b_this.2.2.2.2.2.1), b_this.2.2.2.2.2.2.1, b_this.2.2.2.2.2.2.2.1, (if b_this.1.2.1 < b_this.2.2.2.2.2.2.2.2 then b_this.1.2.1 else b_this.2.2.2.2.2.2.2.2)))
def zf_X6_noteHour_70 (v1 : Int32) (b_this : TWa) : Option (TWa) := (if b_this.1.1 ≤ b_this.2.2.2.2.2.2.1 then zf_X6_noteHour_102 b_this else zf_X6_noteHour_102 ((b_this.1, b_this.2.1, b_this.2.2.1, b_this.2.2.2.1, b_this.2.2.2.2.1, b_this.2.2.2.2.2.1, b_this.1.1, (v1 + (1 : Int32)), b_this.2.2.2.2.2.2.2.2)))
def zf_X6_noteHour_53 (v1 : Int32) (b_this : TWa) : Option (TWa) := (if b_this.2.1 = 0 then zf_X6_noteHour_70 v1 ((b_this.1, b_this.2.1, b_this.2.2.1, b_this.2.2.2.1, (b_this.2.2.2.2.1 + (1 : Int32)), b_this.2.2.2.2.2.1, b_this.2.2.2.2.2.2.1, b_this.2.2.2.2.2.2.2.1, b_this.2.2.2.2.2.2.2.2)) else zf_X6_noteHour_70 v1 b_this)
def zf_X6_noteHour_33 (v1 : Int32) (b_this : TWa) : Option (TWa) := (if b_this.1.2.2.2.2.2.1 then zf_X6_noteHour_53 v1 ((b_this.1, (b_this.2.1 + (1 : Int32)), b_this.2.2.1, b_this.2.2.2.1, b_this.2.2.2.2.1, b_this.2.2.2.2.2.1, b_this.2.2.2.2.2.2.1, b_this.2.2.2.2.2.2.2.1, b_this.2.2.2.2.2.2.2.2)) else zf_X6_noteHour_53 v1 b_this)
def zf_X6_noteHour_23 (v1 : Int32) (b_this : TWa) : Option (TWa) := zf_X6_noteHour_33 v1 ((b_this.1, b_this.2.1, (b_this.2.2.1 + (1 : Int32)), b_this.2.2.2.1, b_this.2.2.2.2.1, b_this.2.2.2.2.2.1, b_this.2.2.2.2.2.2.1, b_this.2.2.2.2.2.2.2.1, b_this.2.2.2.2.2.2.2.2))
def zf_X6_noteHour (x1 : Int32) (b_this : TWa) : Option (TWa) := (if b_this.1.2.2.2.2.2.2 = (-1 : Int32) then zf_X6_noteHour_33 x1 b_this else (if b_this.2.2.1 = 0 then zf_X6_noteHour_23 x1 ((b_this.1, b_this.2.1, b_this.2.2.1, x1, b_this.2.2.2.2.1, b_this.2.2.2.2.2.1, b_this.2.2.2.2.2.2.1, b_this.2.2.2.2.2.2.2.1, b_this.2.2.2.2.2.2.2.2)) else zf_X6_noteHour_23 x1 b_this))
abbrev zr_X6_noteHour : Room := { frames := 1, cells := 0, slots := 0, locals := 21 }
set_option maxHeartbeats 4000000 in
set_option maxRecDepth 100000 in
theorem c_X6_noteHour (l : Launch) (G : va_G) (cy : Nat → ClassId) (tt : Nat → Nat) (a0 a1 : Nat) (x1 : Int32) (b_this : TWa) (res : TWa) (hf : zf_X6_noteHour x1 b_this = some res) : zCT l yX6_noteHour cX6_noteHour 2 none zr_X6_noteHour G cy tt [.ref a0, .int x1] [xWa a0 a1 b_this.2.1 b_this.2.2.1 b_this.2.2.2.1 b_this.2.2.2.2.1 b_this.2.2.2.2.2.1 b_this.2.2.2.2.2.2.1 b_this.2.2.2.2.2.2.2.1 b_this.2.2.2.2.2.2.2.2, xTe a1 b_this.1] none [xWa a0 a1 res.2.1 res.2.2.1 res.2.2.2.1 res.2.2.2.2.1 res.2.2.2.2.2.1 res.2.2.2.2.2.2.1 res.2.2.2.2.2.2.2.1 res.2.2.2.2.2.2.2.2, xTe a1 res.1] := by
  refine zk_start zn_X6 (Nat.le_of_ble_eq_true rfl) ?_
  intro p e s m args below meth c A ls Q C hr hQ hw hl
  have C : zCx p m c s args meth cX6_noteHour 2 RX6 G cy tt A := C
  have hx := C.1.1
  have hb := C.1.2.1
  have hl : lv_has ls 2 [(0, .ref a0), (1, .int x1)] := hl
  have J102 : ∀ (b_this : TWa) (H : Heap) (locs : List Loc) (ls : Array Slot), zf_X6_noteHour_102 b_this = some res → zWd G A s.heap H locs [xWa a0 a1 b_this.2.1 b_this.2.2.1 b_this.2.2.2.1 b_this.2.2.2.2.1 b_this.2.2.2.2.2.1 b_this.2.2.2.2.2.2.1 b_this.2.2.2.2.2.2.2.1 b_this.2.2.2.2.2.2.2.2, xTe a1 b_this.1] → lv_has ls 2 [(0, .ref a0)] → W p l e zr_X6_noteHour s m args below meth c H locs 0 0 Q (F0 m 102 ls []) := by
    intro b_this H locs ls hf hw hl
    rw [zf_X6_noteHour_102] at hf
    refine lv_aload_n (pc := 102) hx hb dX6_noteHour_102 rfl (lv_at hl 0 rfl) ?_
    refine lv_aload_n (pc := 103) hx hb dX6_noteHour_103 rfl (lv_at hl 0 rfl) ?_
    refine zk_gt (pc := 104) C hw zl_X6_31 0 rfl rfl dX6_noteHour_104 ?_
    refine lv_aload_n (pc := 107) hx hb dX6_noteHour_107 rfl (lv_at hl 0 rfl) ?_
    refine zk_gt (pc := 108) C hw zl_X6_12 0 rfl rfl dX6_noteHour_108 ?_
    refine zk_gt (pc := 111) C hw zl_X6_58 1 rfl rfl dX6_noteHour_111 ?_
    refine zk_min (pc := 114) C hl.1 zm_X6_71 ⟨Nat.le_of_ble_eq_true rfl, Nat.le_of_ble_eq_true rfl⟩ ⟨Nat.zero_le _, Nat.zero_le _⟩ dX6_noteHour_114 ?_
    refine zk_put (pc := 117) (w' := [xWa a0 a1 b_this.2.1 b_this.2.2.1 b_this.2.2.2.1 b_this.2.2.2.2.1 ((if b_this.1.1 < b_this.2.2.2.2.2.1 then b_this.1.1 else b_this.2.2.2.2.2.1)) b_this.2.2.2.2.2.2.1 b_this.2.2.2.2.2.2.2.1 b_this.2.2.2.2.2.2.2.2, xTe a1 b_this.1]) C hw zp_X6_31 0 rfl rfl rfl (Nat.le_of_ble_eq_true rfl) rfl dX6_noteHour_117 (fun H locs hw => ?_)
    refine lv_aload_n (pc := 120) hx hb dX6_noteHour_120 rfl (lv_at hl 0 rfl) ?_
    refine lv_aload_n (pc := 121) hx hb dX6_noteHour_121 rfl (lv_at hl 0 rfl) ?_
    refine zk_gt (pc := 122) C hw zl_X6_40 0 rfl rfl dX6_noteHour_122 ?_
    refine lv_aload_n (pc := 125) hx hb dX6_noteHour_125 rfl (lv_at hl 0 rfl) ?_
    refine zk_gt (pc := 126) C hw zl_X6_12 0 rfl rfl dX6_noteHour_126 ?_
    refine zk_gt (pc := 129) C hw zl_X6_61 1 rfl rfl dX6_noteHour_129 ?_
    refine zk_min (pc := 132) C hl.1 zm_X6_71 ⟨Nat.le_of_ble_eq_true rfl, Nat.le_of_ble_eq_true rfl⟩ ⟨Nat.zero_le _, Nat.zero_le _⟩ dX6_noteHour_132 ?_
    refine zk_put (pc := 135) (w' := [xWa a0 a1 b_this.2.1 b_this.2.2.1 b_this.2.2.2.1 b_this.2.2.2.2.1 ((if b_this.1.1 < b_this.2.2.2.2.2.1 then b_this.1.1 else b_this.2.2.2.2.2.1)) b_this.2.2.2.2.2.2.1 b_this.2.2.2.2.2.2.2.1 ((if b_this.1.2.1 < b_this.2.2.2.2.2.2.2.2 then b_this.1.2.1 else b_this.2.2.2.2.2.2.2.2)), xTe a1 b_this.1]) C hw zp_X6_40 0 rfl rfl rfl (Nat.le_of_ble_eq_true rfl) rfl dX6_noteHour_135 (fun H locs hw => ?_)
    have hf := Option.some.inj hf
    subst hf
    exact zk_retv (pc := 138) (ww := [xWa a0 a1 b_this.2.1 b_this.2.2.1 b_this.2.2.2.1 b_this.2.2.2.2.1 ((if b_this.1.1 < b_this.2.2.2.2.2.1 then b_this.1.1 else b_this.2.2.2.2.2.1)) b_this.2.2.2.2.2.2.1 b_this.2.2.2.2.2.2.2.1 ((if b_this.1.2.1 < b_this.2.2.2.2.2.2.2.2 then b_this.1.2.1 else b_this.2.2.2.2.2.2.2.2)), xTe a1 b_this.1]) C hw hr hQ dX6_noteHour_138
  have J70 : ∀ (v1 : Int32) (b_this : TWa) (H : Heap) (locs : List Loc) (ls : Array Slot), zf_X6_noteHour_70 v1 b_this = some res → zWd G A s.heap H locs [xWa a0 a1 b_this.2.1 b_this.2.2.1 b_this.2.2.2.1 b_this.2.2.2.2.1 b_this.2.2.2.2.2.1 b_this.2.2.2.2.2.2.1 b_this.2.2.2.2.2.2.2.1 b_this.2.2.2.2.2.2.2.2, xTe a1 b_this.1] → lv_has ls 2 [(0, .ref a0), (1, .int v1)] → W p l e zr_X6_noteHour s m args below meth c H locs 0 0 Q (F0 m 70 ls []) := by
    intro v1 b_this H locs ls hf hw hl
    rw [zf_X6_noteHour_70] at hf
    refine lv_aload_n (pc := 70) hx hb dX6_noteHour_70 rfl (lv_at hl 0 rfl) ?_
    refine zk_gt (pc := 71) C hw zl_X6_12 0 rfl rfl dX6_noteHour_71 ?_
    refine zk_gt (pc := 74) C hw zl_X6_58 1 rfl rfl dX6_noteHour_74 ?_
    refine lv_aload_n (pc := 77) hx hb dX6_noteHour_77 rfl (lv_at hl 0 rfl) ?_
    refine zk_gt (pc := 78) C hw zl_X6_34 0 rfl rfl dX6_noteHour_78 ?_
    refine lv_icmp_le (pc := 81) (tgt := 102) hx hb dX6_noteHour_81 (by decide) (fun q5 => ?_) (fun q5 => ?_)
    · replace hf := if_t q5 hf
      exact J102 b_this _ _ _ hf hw (lv_sub hl [0] rfl)
    · replace hf := if_f q5 hf
      refine lv_aload_n (pc := 84) hx hb dX6_noteHour_84 rfl (lv_at hl 0 rfl) ?_
      refine lv_aload_n (pc := 85) hx hb dX6_noteHour_85 rfl (lv_at hl 0 rfl) ?_
      refine zk_gt (pc := 86) C hw zl_X6_12 0 rfl rfl dX6_noteHour_86 ?_
      refine zk_gt (pc := 89) C hw zl_X6_58 1 rfl rfl dX6_noteHour_89 ?_
      refine zk_put (pc := 92) (w' := [xWa a0 a1 b_this.2.1 b_this.2.2.1 b_this.2.2.2.1 b_this.2.2.2.2.1 b_this.2.2.2.2.2.1 b_this.1.1 b_this.2.2.2.2.2.2.2.1 b_this.2.2.2.2.2.2.2.2, xTe a1 b_this.1]) C hw zp_X6_34 0 rfl rfl rfl (Nat.le_of_ble_eq_true rfl) rfl dX6_noteHour_92 (fun H locs hw => ?_)
      refine lv_aload_n (pc := 95) hx hb dX6_noteHour_95 rfl (lv_at hl 0 rfl) ?_
      refine lv_iload_n (pc := 96) hx hb dX6_noteHour_96 rfl (lv_at hl 1 rfl) ?_
      refine lv_iconst (pc := 97) (v := 1) hx hb dX6_noteHour_97 (by decide) ?_
      refine lv_iadd (pc := 98) hx hb dX6_noteHour_98 ?_
      refine zk_put (pc := 99) (w' := [xWa a0 a1 b_this.2.1 b_this.2.2.1 b_this.2.2.2.1 b_this.2.2.2.2.1 b_this.2.2.2.2.2.1 b_this.1.1 ((v1 + (1 : Int32))) b_this.2.2.2.2.2.2.2.2, xTe a1 b_this.1]) C hw zp_X6_37 0 rfl rfl rfl (Nat.le_of_ble_eq_true rfl) rfl dX6_noteHour_99 (fun H locs hw => ?_)
      exact J102 ((b_this.1, b_this.2.1, b_this.2.2.1, b_this.2.2.2.1, b_this.2.2.2.2.1, b_this.2.2.2.2.2.1, b_this.1.1, (v1 + (1 : Int32)), b_this.2.2.2.2.2.2.2.2)) _ _ _ hf hw (lv_sub hl [0] rfl)
  have J53 : ∀ (v1 : Int32) (b_this : TWa) (H : Heap) (locs : List Loc) (ls : Array Slot), zf_X6_noteHour_53 v1 b_this = some res → zWd G A s.heap H locs [xWa a0 a1 b_this.2.1 b_this.2.2.1 b_this.2.2.2.1 b_this.2.2.2.2.1 b_this.2.2.2.2.2.1 b_this.2.2.2.2.2.2.1 b_this.2.2.2.2.2.2.2.1 b_this.2.2.2.2.2.2.2.2, xTe a1 b_this.1] → lv_has ls 2 [(0, .ref a0), (1, .int v1)] → W p l e zr_X6_noteHour s m args below meth c H locs 0 0 Q (F0 m 53 ls []) := by
    intro v1 b_this H locs ls hf hw hl
    rw [zf_X6_noteHour_53] at hf
    refine lv_aload_n (pc := 53) hx hb dX6_noteHour_53 rfl (lv_at hl 0 rfl) ?_
    refine zk_gt (pc := 54) C hw zl_X6_18 0 rfl rfl dX6_noteHour_54 ?_
    refine lv_if_ne (pc := 57) (tgt := 70) hx hb dX6_noteHour_57 (by decide) (fun q4 => ?_) (fun q4 => ?_)
    · replace hf := if_f q4 hf
      exact J70 v1 b_this _ _ _ hf hw (lv_sub hl [0, 1] rfl)
    · replace hf := if_t q4 hf
      refine lv_aload_n (pc := 60) hx hb dX6_noteHour_60 rfl (lv_at hl 0 rfl) ?_
      refine lv_dup (pc := 61) hx hb dX6_noteHour_61 rfl ?_
      refine zk_gt (pc := 62) C hw zl_X6_28 0 rfl rfl dX6_noteHour_62 ?_
      refine lv_iconst (pc := 65) (v := 1) hx hb dX6_noteHour_65 (by decide) ?_
      refine lv_iadd (pc := 66) hx hb dX6_noteHour_66 ?_
      refine zk_put (pc := 67) (w' := [xWa a0 a1 b_this.2.1 b_this.2.2.1 b_this.2.2.2.1 ((b_this.2.2.2.2.1 + (1 : Int32))) b_this.2.2.2.2.2.1 b_this.2.2.2.2.2.2.1 b_this.2.2.2.2.2.2.2.1 b_this.2.2.2.2.2.2.2.2, xTe a1 b_this.1]) C hw zp_X6_28 0 rfl rfl rfl (Nat.le_of_ble_eq_true rfl) rfl dX6_noteHour_67 (fun H locs hw => ?_)
      exact J70 v1 ((b_this.1, b_this.2.1, b_this.2.2.1, b_this.2.2.2.1, (b_this.2.2.2.2.1 + (1 : Int32)), b_this.2.2.2.2.2.1, b_this.2.2.2.2.2.2.1, b_this.2.2.2.2.2.2.2.1, b_this.2.2.2.2.2.2.2.2)) _ _ _ hf hw (lv_sub hl [0, 1] rfl)
  have J33 : ∀ (v1 : Int32) (b_this : TWa) (H : Heap) (locs : List Loc) (ls : Array Slot), zf_X6_noteHour_33 v1 b_this = some res → zWd G A s.heap H locs [xWa a0 a1 b_this.2.1 b_this.2.2.1 b_this.2.2.2.1 b_this.2.2.2.2.1 b_this.2.2.2.2.2.1 b_this.2.2.2.2.2.2.1 b_this.2.2.2.2.2.2.2.1 b_this.2.2.2.2.2.2.2.2, xTe a1 b_this.1] → lv_has ls 2 [(0, .ref a0), (1, .int v1)] → W p l e zr_X6_noteHour s m args below meth c H locs 0 0 Q (F0 m 33 ls []) := by
    intro v1 b_this H locs ls hf hw hl
    rw [zf_X6_noteHour_33] at hf
    refine lv_aload_n (pc := 33) hx hb dX6_noteHour_33 rfl (lv_at hl 0 rfl) ?_
    refine zk_gt (pc := 34) C hw zl_X6_12 0 rfl rfl dX6_noteHour_34 ?_
    refine zk_gt (pc := 37) C hw zl_X6_67 1 rfl rfl dX6_noteHour_37 ?_
    refine zk_ifz (pc := 40) (tgt := 53) hx hb dX6_noteHour_40 (by decide) (fun q3 => ?_) (fun q3 => ?_)
    · replace hf := if_f q3 hf
      exact J53 v1 b_this _ _ _ hf hw (lv_sub hl [0, 1] rfl)
    · replace hf := if_t q3 hf
      refine lv_aload_n (pc := 43) hx hb dX6_noteHour_43 rfl (lv_at hl 0 rfl) ?_
      refine lv_dup (pc := 44) hx hb dX6_noteHour_44 rfl ?_
      refine zk_gt (pc := 45) C hw zl_X6_18 0 rfl rfl dX6_noteHour_45 ?_
      refine lv_iconst (pc := 48) (v := 1) hx hb dX6_noteHour_48 (by decide) ?_
      refine lv_iadd (pc := 49) hx hb dX6_noteHour_49 ?_
      refine zk_put (pc := 50) (w' := [xWa a0 a1 ((b_this.2.1 + (1 : Int32))) b_this.2.2.1 b_this.2.2.2.1 b_this.2.2.2.2.1 b_this.2.2.2.2.2.1 b_this.2.2.2.2.2.2.1 b_this.2.2.2.2.2.2.2.1 b_this.2.2.2.2.2.2.2.2, xTe a1 b_this.1]) C hw zp_X6_18 0 rfl rfl rfl (Nat.le_of_ble_eq_true rfl) rfl dX6_noteHour_50 (fun H locs hw => ?_)
      exact J53 v1 ((b_this.1, (b_this.2.1 + (1 : Int32)), b_this.2.2.1, b_this.2.2.2.1, b_this.2.2.2.2.1, b_this.2.2.2.2.2.1, b_this.2.2.2.2.2.2.1, b_this.2.2.2.2.2.2.2.1, b_this.2.2.2.2.2.2.2.2)) _ _ _ hf hw (lv_sub hl [0, 1] rfl)
  have J23 : ∀ (v1 : Int32) (b_this : TWa) (H : Heap) (locs : List Loc) (ls : Array Slot), zf_X6_noteHour_23 v1 b_this = some res → zWd G A s.heap H locs [xWa a0 a1 b_this.2.1 b_this.2.2.1 b_this.2.2.2.1 b_this.2.2.2.2.1 b_this.2.2.2.2.2.1 b_this.2.2.2.2.2.2.1 b_this.2.2.2.2.2.2.2.1 b_this.2.2.2.2.2.2.2.2, xTe a1 b_this.1] → lv_has ls 2 [(0, .ref a0), (1, .int v1)] → W p l e zr_X6_noteHour s m args below meth c H locs 0 0 Q (F0 m 23 ls []) := by
    intro v1 b_this H locs ls hf hw hl
    rw [zf_X6_noteHour_23] at hf
    refine lv_aload_n (pc := 23) hx hb dX6_noteHour_23 rfl (lv_at hl 0 rfl) ?_
    refine lv_dup (pc := 24) hx hb dX6_noteHour_24 rfl ?_
    refine zk_gt (pc := 25) C hw zl_X6_22 0 rfl rfl dX6_noteHour_25 ?_
    refine lv_iconst (pc := 28) (v := 1) hx hb dX6_noteHour_28 (by decide) ?_
    refine lv_iadd (pc := 29) hx hb dX6_noteHour_29 ?_
    refine zk_put (pc := 30) (w' := [xWa a0 a1 b_this.2.1 ((b_this.2.2.1 + (1 : Int32))) b_this.2.2.2.1 b_this.2.2.2.2.1 b_this.2.2.2.2.2.1 b_this.2.2.2.2.2.2.1 b_this.2.2.2.2.2.2.2.1 b_this.2.2.2.2.2.2.2.2, xTe a1 b_this.1]) C hw zp_X6_22 0 rfl rfl rfl (Nat.le_of_ble_eq_true rfl) rfl dX6_noteHour_30 (fun H locs hw => ?_)
    exact J33 v1 ((b_this.1, b_this.2.1, (b_this.2.2.1 + (1 : Int32)), b_this.2.2.2.1, b_this.2.2.2.2.1, b_this.2.2.2.2.2.1, b_this.2.2.2.2.2.2.1, b_this.2.2.2.2.2.2.2.1, b_this.2.2.2.2.2.2.2.2)) _ _ _ hf hw (lv_sub hl [0, 1] rfl)
  rw [zf_X6_noteHour] at hf
  refine lv_aload_n (pc := 0) hx hb dX6_noteHour_0 rfl (lv_at hl 0 rfl) ?_
  refine zk_gt (pc := 1) C hw zl_X6_12 0 rfl rfl dX6_noteHour_1 ?_
  refine zk_gt (pc := 4) C hw zl_X6_64 1 rfl rfl dX6_noteHour_4 ?_
  refine lv_iconst (pc := 7) (v := -1) hx hb dX6_noteHour_7 (by decide) ?_
  refine lv_icmp_eq (pc := 8) (tgt := 33) hx hb dX6_noteHour_8 (by decide) (fun q1 => ?_) (fun q1 => ?_)
  · replace hf := if_t q1 hf
    exact J33 x1 b_this _ _ _ hf hw (lv_sub hl [0, 1] rfl)
  · replace hf := if_f q1 hf
    refine lv_aload_n (pc := 11) hx hb dX6_noteHour_11 rfl (lv_at hl 0 rfl) ?_
    refine zk_gt (pc := 12) C hw zl_X6_22 0 rfl rfl dX6_noteHour_12 ?_
    refine lv_if_ne (pc := 15) (tgt := 23) hx hb dX6_noteHour_15 (by decide) (fun q2 => ?_) (fun q2 => ?_)
    · replace hf := if_f q2 hf
      exact J23 x1 b_this _ _ _ hf hw (lv_sub hl [0, 1] rfl)
    · replace hf := if_t q2 hf
      refine lv_aload_n (pc := 18) hx hb dX6_noteHour_18 rfl (lv_at hl 0 rfl) ?_
      refine lv_iload_n (pc := 19) hx hb dX6_noteHour_19 rfl (lv_at hl 1 rfl) ?_
      refine zk_put (pc := 20) (w' := [xWa a0 a1 b_this.2.1 b_this.2.2.1 x1 b_this.2.2.2.2.1 b_this.2.2.2.2.2.1 b_this.2.2.2.2.2.2.1 b_this.2.2.2.2.2.2.2.1 b_this.2.2.2.2.2.2.2.2, xTe a1 b_this.1]) C hw zp_X6_25 0 rfl rfl rfl (Nat.le_of_ble_eq_true rfl) rfl dX6_noteHour_20 (fun H locs hw => ?_)
      exact J23 x1 ((b_this.1, b_this.2.1, b_this.2.2.1, x1, b_this.2.2.2.2.1, b_this.2.2.2.2.2.1, b_this.2.2.2.2.2.2.1, b_this.2.2.2.2.2.2.2.1, b_this.2.2.2.2.2.2.2.2)) _ _ _ hf hw (lv_sub hl [0, 1] rfl)
def zf_X6_along_8 (b_p1 : Nat → Int32) (b_p3 : TTe) (b_p4 : TSt) : Nat → Int32 → Int32 → TWa → Option (TWa)
  | 0, _, _, _ => none
  | n + 1, v2, v5, b_this => (if v2 ≤ v5 then some (b_this) else (if (48 : Int32) ≤ v5 then some (b_this) else (if ix v5 48 then (Option.bind (zf_X5_pass (((b_p1 v5.toNatClampNeg))) b_this.1 b_p4) (fun u5 => (Option.bind (zf_X6_noteHour v5 ((u5, b_this.2.1, b_this.2.2.1, b_this.2.2.2.1, b_this.2.2.2.2.1, b_this.2.2.2.2.2.1, b_this.2.2.2.2.2.2.1, b_this.2.2.2.2.2.2.2.1, b_this.2.2.2.2.2.2.2.2))) (fun u6 => zf_X6_along_8 b_p1 b_p3 b_p4 n v2 ((v5 + 1)) u6)))) else none)))
def zf_X6_along (x2 : Int32) (b_this : TWa) (b_p1 : Nat → Int32) (b_p3 : TTe) (b_p4 : TSt) : Option (TWa) := (Option.bind (zf_X6_begin b_this b_p3) (fun u1 => zf_X6_along_8 b_p1 b_p3 b_p4 FU x2 ((0 : Int32)) u1))
abbrev zr_X6_along : Room := { frames := 3, cells := 0, slots := 0, locals := 68 }
set_option maxHeartbeats 4000000 in
set_option maxRecDepth 100000 in
theorem c_X6_along (l : Launch) (G : va_G) (cy : Nat → ClassId) (tt : Nat → Nat) (a0 a1 : Nat) (p1 : Nat) (p3_0 : Nat) (p4_0 p4_1 p4_2 p4_3 p4_4 : Nat) (x2 : Int32) (b_this : TWa) (b_p1 : Nat → Int32) (b_p3 : TTe) (b_p4 : TSt) (res : TWa) (hf : zf_X6_along x2 b_this b_p1 b_p3 b_p4 = some res) : zCT l yX6_along cX6_along 6 none zr_X6_along G cy tt [.ref a0, .ref p1, .int x2, .ref p3_0, .ref p4_0] [xWa a0 a1 b_this.2.1 b_this.2.2.1 b_this.2.2.2.1 b_this.2.2.2.2.1 b_this.2.2.2.2.2.1 b_this.2.2.2.2.2.2.1 b_this.2.2.2.2.2.2.2.1 b_this.2.2.2.2.2.2.2.2, xTe a1 b_this.1, xI cy p1 48 b_p1, xTe p3_0 b_p3, xSt p4_0 p4_1 p4_2 p4_3 p4_4 b_p4.1, xI cy p4_1 8 b_p4.2.1, xI cy p4_2 8 b_p4.2.2.1, xI cy p4_3 8 b_p4.2.2.2.1, xI cy p4_4 8 b_p4.2.2.2.2] none [xWa a0 a1 res.2.1 res.2.2.1 res.2.2.2.1 res.2.2.2.2.1 res.2.2.2.2.2.1 res.2.2.2.2.2.2.1 res.2.2.2.2.2.2.2.1 res.2.2.2.2.2.2.2.2, xTe a1 res.1, xI cy p1 48 b_p1, xTe p3_0 b_p3, xSt p4_0 p4_1 p4_2 p4_3 p4_4 b_p4.1, xI cy p4_1 8 b_p4.2.1, xI cy p4_2 8 b_p4.2.2.1, xI cy p4_3 8 b_p4.2.2.2.1, xI cy p4_4 8 b_p4.2.2.2.2] := by
  refine zk_start zn_X6 (Nat.le_of_ble_eq_true rfl) ?_
  intro p e s m args below meth c A ls Q C hr hQ hw hl
  have C : zCx p m c s args meth cX6_along 6 RX6 G cy tt A := C
  have hx := C.1.1
  have hb := C.1.2.1
  have hl : lv_has ls 6 [(0, .ref a0), (1, .ref p1), (2, .int x2), (3, .ref p3_0), (4, .ref p4_0)] := hl
  have J8 : ∀ (n : Nat), ∀ (v2 : Int32) (v5 : Int32) (b_this : TWa) (H : Heap) (locs : List Loc) (ls : Array Slot), zf_X6_along_8 b_p1 b_p3 b_p4 n v2 v5 b_this = some res → zWd G A s.heap H locs [xWa a0 a1 b_this.2.1 b_this.2.2.1 b_this.2.2.2.1 b_this.2.2.2.2.1 b_this.2.2.2.2.2.1 b_this.2.2.2.2.2.2.1 b_this.2.2.2.2.2.2.2.1 b_this.2.2.2.2.2.2.2.2, xTe a1 b_this.1, xI cy p1 48 b_p1, xTe p3_0 b_p3, xSt p4_0 p4_1 p4_2 p4_3 p4_4 b_p4.1, xI cy p4_1 8 b_p4.2.1, xI cy p4_2 8 b_p4.2.2.1, xI cy p4_3 8 b_p4.2.2.2.1, xI cy p4_4 8 b_p4.2.2.2.2] → lv_has ls 6 [(0, .ref a0), (1, .ref p1), (2, .int v2), (4, .ref p4_0), (5, .int v5)] → W p l e zr_X6_along s m args below meth c H locs 0 0 Q (F0 m 8 ls []) := by
    intro n
    induction n with
    | zero =>
      intro v2 v5 b_this H locs ls hf hw hl
      rw [zf_X6_along_8] at hf
      cases hf
    | succ n ih =>
      intro v2 v5 b_this H locs ls hf hw hl
      rw [zf_X6_along_8] at hf
      refine lv_iload (pc := 8) hx hb dX6_along_8 (lv_at hl 4 rfl) ?_
      refine lv_iload_n (pc := 10) hx hb dX6_along_10 rfl (lv_at hl 2 rfl) ?_
      refine lv_icmp_ge (pc := 11) (tgt := 46) hx hb dX6_along_11 (by decide) (fun q2 => ?_) (fun q2 => ?_)
      · replace hf := if_t q2 hf
        have hf := Option.some.inj hf
        subst hf
        exact zk_retv (pc := 46) (ww := [xWa a0 a1 b_this.2.1 b_this.2.2.1 b_this.2.2.2.1 b_this.2.2.2.2.1 b_this.2.2.2.2.2.1 b_this.2.2.2.2.2.2.1 b_this.2.2.2.2.2.2.2.1 b_this.2.2.2.2.2.2.2.2, xTe a1 b_this.1, xI cy p1 48 b_p1, xTe p3_0 b_p3, xSt p4_0 p4_1 p4_2 p4_3 p4_4 b_p4.1, xI cy p4_1 8 b_p4.2.1, xI cy p4_2 8 b_p4.2.2.1, xI cy p4_3 8 b_p4.2.2.2.1, xI cy p4_4 8 b_p4.2.2.2.2]) C hw hr hQ dX6_along_46
      · replace hf := if_f q2 hf
        refine lv_iload (pc := 14) hx hb dX6_along_14 (lv_at hl 4 rfl) ?_
        refine lv_aload_n (pc := 16) hx hb dX6_along_16 rfl (lv_at hl 1 rfl) ?_
        refine zk_alen (pc := 17) (v := 48) C hw 2 0 rfl rfl rfl dX6_along_17 ?_
        refine lv_icmp_ge (pc := 18) (tgt := 46) hx hb dX6_along_18 (by decide) (fun q3 => ?_) (fun q3 => ?_)
        · replace hf := if_t q3 hf
          have hf := Option.some.inj hf
          subst hf
          exact zk_retv (pc := 46) (ww := [xWa a0 a1 b_this.2.1 b_this.2.2.1 b_this.2.2.2.1 b_this.2.2.2.2.1 b_this.2.2.2.2.2.1 b_this.2.2.2.2.2.2.1 b_this.2.2.2.2.2.2.2.1 b_this.2.2.2.2.2.2.2.2, xTe a1 b_this.1, xI cy p1 48 b_p1, xTe p3_0 b_p3, xSt p4_0 p4_1 p4_2 p4_3 p4_4 b_p4.1, xI cy p4_1 8 b_p4.2.1, xI cy p4_2 8 b_p4.2.2.1, xI cy p4_3 8 b_p4.2.2.2.1, xI cy p4_4 8 b_p4.2.2.2.2]) C hw hr hQ dX6_along_46
        · replace hf := if_f q3 hf
          refine lv_aload_n (pc := 21) hx hb dX6_along_21 rfl (lv_at hl 0 rfl) ?_
          refine zk_gt (pc := 22) C hw zl_X6_12 0 rfl rfl dX6_along_22 ?_
          refine lv_aload_n (pc := 25) hx hb dX6_along_25 rfl (lv_at hl 1 rfl) ?_
          refine lv_iload (pc := 26) hx hb dX6_along_26 (lv_at hl 4 rfl) ?_
          obtain ⟨q4, hf⟩ := ck hf
          refine zk_iald (pc := 28) C hw 2 rfl q4 dX6_along_28 ?_
          refine lv_aload (pc := 29) hx hb dX6_along_29 (lv_at hl 3 rfl) ?_
          obtain ⟨u5, u5e, hf⟩ := bd hf
          refine zk_cV (pc := 31) (ci := 5) (q0 := 1) (rest := []) (st1 := []) (w' := [xWa a0 a1 b_this.2.1 b_this.2.2.1 b_this.2.2.2.1 b_this.2.2.2.2.1 b_this.2.2.2.2.2.1 b_this.2.2.2.2.2.2.1 b_this.2.2.2.2.2.2.2.1 b_this.2.2.2.2.2.2.2.2, xTe a1 u5, xI cy p1 48 b_p1, xTe p3_0 b_p3, xSt p4_0 p4_1 p4_2 p4_3 p4_4 b_p4.1, xI cy p4_1 8 b_p4.2.1, xI cy p4_2 8 b_p4.2.2.1, xI cy p4_3 8 b_p4.2.2.2.1, xI cy p4_4 8 b_p4.2.2.2.2]) (mk := [none, some (xTe a1 u5), none, none, none, none, none, none, none]) C hw (c_X5_pass l G cy tt a1 p4_0 p4_1 p4_2 p4_3 p4_4 (((b_p1 v5.toNatClampNeg))) b_this.1 b_p4 _ u5e) zy_X5_pass zm_X6_47 rfl rfl rfl [1, 4, 5, 6, 7, 8] rfl rfl rfl rfl rfl rfl rfl rfl hl.1 ⟨rfl, rfl⟩ ⟨Nat.le_of_ble_eq_true rfl, Nat.le_of_ble_eq_true rfl⟩ rfl (Nat.le_of_ble_eq_true rfl) ⟨Nat.zero_le _, Nat.zero_le _⟩ dX6_along_31 (fun H locs hw => ?_)
          refine lv_aload_n (pc := 34) hx hb dX6_along_34 rfl (lv_at hl 0 rfl) ?_
          refine lv_iload (pc := 35) hx hb dX6_along_35 (lv_at hl 4 rfl) ?_
          obtain ⟨u6, u6e, hf⟩ := bd hf
          refine zk_cV (pc := 37) (ci := 6) (q0 := 0) (rest := []) (st1 := []) (w' := [xWa a0 a1 u6.2.1 u6.2.2.1 u6.2.2.2.1 u6.2.2.2.2.1 u6.2.2.2.2.2.1 u6.2.2.2.2.2.2.1 u6.2.2.2.2.2.2.2.1 u6.2.2.2.2.2.2.2.2, xTe a1 u6.1, xI cy p1 48 b_p1, xTe p3_0 b_p3, xSt p4_0 p4_1 p4_2 p4_3 p4_4 b_p4.1, xI cy p4_1 8 b_p4.2.1, xI cy p4_2 8 b_p4.2.2.1, xI cy p4_3 8 b_p4.2.2.2.1, xI cy p4_4 8 b_p4.2.2.2.2]) (mk := [some (xWa a0 a1 u6.2.1 u6.2.2.1 u6.2.2.2.1 u6.2.2.2.2.1 u6.2.2.2.2.2.1 u6.2.2.2.2.2.2.1 u6.2.2.2.2.2.2.2.1 u6.2.2.2.2.2.2.2.2), some (xTe a1 u6.1), none, none, none, none, none, none, none]) C hw (c_X6_noteHour l G cy tt a0 a1 v5 ((u5, b_this.2.1, b_this.2.2.1, b_this.2.2.2.1, b_this.2.2.2.2.1, b_this.2.2.2.2.2.1, b_this.2.2.2.2.2.2.1, b_this.2.2.2.2.2.2.2.1, b_this.2.2.2.2.2.2.2.2)) _ u6e) zy_X6_noteHour zm_X6_51 rfl rfl rfl [0, 1] rfl rfl rfl rfl rfl rfl rfl rfl hl.1 ⟨rfl, rfl⟩ ⟨Nat.le_of_ble_eq_true rfl, Nat.le_of_ble_eq_true rfl⟩ rfl (Nat.le_of_ble_eq_true rfl) ⟨Nat.zero_le _, Nat.zero_le _⟩ dX6_along_37 (fun H locs hw => ?_)
          refine lv_iinc (pc := 40) (v := (v5 + 1)) (lv' := [(5, .int ((v5 + 1))), (0, .ref a0), (1, .ref p1), (2, .int v2), (4, .ref p4_0)]) hx hb dX6_along_40 hl (k := 4) rfl rfl (by decide) rfl (fun ls hl => ?_)
          refine lv_goto (pc := 43) (tgt := 8) hx hb dX6_along_43 (by decide) ?_
          exact ih v2 ((v5 + 1)) u6 _ _ _ hf hw (lv_sub hl [1, 2, 3, 4, 0] rfl)
  rw [zf_X6_along] at hf
  refine lv_aload_n (pc := 0) hx hb dX6_along_0 rfl (lv_at hl 0 rfl) ?_
  refine lv_aload_n (pc := 1) hx hb dX6_along_1 rfl (lv_at hl 3 rfl) ?_
  obtain ⟨u1, u1e, hf⟩ := bd hf
  refine zk_cV (pc := 2) (ci := 6) (q0 := 0) (rest := []) (st1 := []) (w' := [xWa a0 a1 u1.2.1 u1.2.2.1 u1.2.2.2.1 u1.2.2.2.2.1 u1.2.2.2.2.2.1 u1.2.2.2.2.2.2.1 u1.2.2.2.2.2.2.2.1 u1.2.2.2.2.2.2.2.2, xTe a1 u1.1, xI cy p1 48 b_p1, xTe p3_0 b_p3, xSt p4_0 p4_1 p4_2 p4_3 p4_4 b_p4.1, xI cy p4_1 8 b_p4.2.1, xI cy p4_2 8 b_p4.2.2.1, xI cy p4_3 8 b_p4.2.2.2.1, xI cy p4_4 8 b_p4.2.2.2.2]) (mk := [some (xWa a0 a1 u1.2.1 u1.2.2.1 u1.2.2.2.1 u1.2.2.2.2.1 u1.2.2.2.2.2.1 u1.2.2.2.2.2.2.1 u1.2.2.2.2.2.2.2.1 u1.2.2.2.2.2.2.2.2), some (xTe a1 u1.1), none, none, none, none, none, none, none]) C hw (c_X6_begin l G cy tt a0 a1 p3_0 b_this b_p3 _ u1e) zy_X6_begin zm_X6_43 rfl rfl rfl [0, 1, 3] rfl rfl rfl rfl rfl rfl rfl rfl hl.1 ⟨rfl, rfl⟩ ⟨Nat.le_of_ble_eq_true rfl, Nat.le_of_ble_eq_true rfl⟩ rfl (Nat.le_of_ble_eq_true rfl) ⟨Nat.zero_le _, Nat.zero_le _⟩ dX6_along_2 (fun H locs hw => ?_)
  refine lv_iconst (pc := 5) (v := 0) hx hb dX6_along_5 (by decide) ?_
  refine lv_istore (pc := 6) (lv' := [(5, .int ((0 : Int32))), (0, .ref a0), (1, .ref p1), (2, .int x2), (3, .ref p3_0), (4, .ref p4_0)]) hx hb dX6_along_6 hl (by decide) rfl (fun ls hl => ?_)
  exact J8 FU x2 ((0 : Int32)) u1 _ _ _ hf hw (lv_sub hl [1, 2, 3, 5, 0] rfl)
def zf_X7_behind (x1 : Int32) (x2 : Int32) (x3 : Int32) (b_now : TTe) (b_staff : TSt) (b_shelves : TSh) (b_walk : TWa) (b_plan : Nat → Int32) (b_refusals : Nat → Int32) : Option (Int32 × TWa × (Nat → Int32) × (Nat → Int32)) := (Option.bind (zf_X7_isWithin x3 (((0 : Int32))) (((4 : Int32)))) (fun u1 => (Option.bind (zf_X7_takeRoster x1 x2 u1 b_staff b_shelves b_plan) (fun u2 => (if u2.1 = 0 then (Option.bind (zf_X6_along x2 b_walk u2.2 b_now b_staff) (fun u4 => (if x3 = 3 then some (u4.2.1, u4, u2.2, b_refusals) else (if x3 = 4 then some (u4.2.2.1, u4, u2.2, b_refusals) else (Option.bind (zf_X5_measure x3 u4.1) (fun u7 => some (u7, u4, u2.2, b_refusals))))))) else (Option.bind (zf_X7_refused u2.1 b_refusals) (fun u8 => some (u8.1, b_walk, u2.2, u8.2))))))))
abbrev zr_X7_behind : Room := { frames := 6, cells := 0, slots := 0, locals := 134 }
set_option maxHeartbeats 4000000 in
set_option maxRecDepth 100000 in
theorem c_X7_behind (l : Launch) (G : va_G) (cy : Nat → ClassId) (tt : Nat → Nat) (L : Nat → Nat) (b_seedNow : Int32) (b_keptSeed : Int32) (b_isKept : Bool) (x1 : Int32) (x2 : Int32) (x3 : Int32) (b_now : TTe) (b_staff : TSt) (b_shelves : TSh) (b_walk : TWa) (b_plan : Nat → Int32) (b_refusals : Nat → Int32) (res : Int32 × TWa × (Nat → Int32) × (Nat → Int32)) (hf : zf_X7_behind x1 x2 x3 b_now b_staff b_shelves b_walk b_plan b_refusals = some res) : zCT l yX7_behind cX7_behind 5 (some .int) zr_X7_behind G cy tt [.ref ((L 0)), .int x1, .int x2, .int x3] [xU L b_seedNow b_keptSeed b_isKept, xTe ((L 1)) b_now, xSt ((L 5)) ((L 6)) ((L 7)) ((L 8)) ((L 9)) b_staff.1, xI cy ((L 6)) 8 b_staff.2.1, xI cy ((L 7)) 8 b_staff.2.2.1, xI cy ((L 8)) 8 b_staff.2.2.2.1, xI cy ((L 9)) 8 b_staff.2.2.2.2, xSh ((L 20)) ((L 21)) ((L 22)) ((L 23)), xI cy ((L 21)) 8 b_shelves.1, xI cy ((L 22)) 8 b_shelves.2.1, xRJ cy ((L 23)) 8 (fun j => [some ((L 24)), some ((L 25)), some ((L 26)), some ((L 27)), some ((L 28)), some ((L 29)), some ((L 30)), some ((L 31))].getD j none), xJ cy ((L 24)) 40 ((b_shelves.2.2 0)), xJ cy ((L 25)) 40 ((b_shelves.2.2 1)), xJ cy ((L 26)) 40 ((b_shelves.2.2 2)), xJ cy ((L 27)) 40 ((b_shelves.2.2 3)), xJ cy ((L 28)) 40 ((b_shelves.2.2 4)), xJ cy ((L 29)) 40 ((b_shelves.2.2 5)), xJ cy ((L 30)) 40 ((b_shelves.2.2 6)), xJ cy ((L 31)) 40 ((b_shelves.2.2 7)), xWa ((L 34)) ((L 35)) b_walk.2.1 b_walk.2.2.1 b_walk.2.2.2.1 b_walk.2.2.2.2.1 b_walk.2.2.2.2.2.1 b_walk.2.2.2.2.2.2.1 b_walk.2.2.2.2.2.2.2.1 b_walk.2.2.2.2.2.2.2.2, xTe ((L 35)) b_walk.1, xI cy ((L 46)) 48 b_plan, xI cy ((L 48)) 5 b_refusals] (some (.int res.1)) [xU L b_seedNow b_keptSeed b_isKept, xTe ((L 1)) b_now, xSt ((L 5)) ((L 6)) ((L 7)) ((L 8)) ((L 9)) b_staff.1, xI cy ((L 6)) 8 b_staff.2.1, xI cy ((L 7)) 8 b_staff.2.2.1, xI cy ((L 8)) 8 b_staff.2.2.2.1, xI cy ((L 9)) 8 b_staff.2.2.2.2, xSh ((L 20)) ((L 21)) ((L 22)) ((L 23)), xI cy ((L 21)) 8 b_shelves.1, xI cy ((L 22)) 8 b_shelves.2.1, xRJ cy ((L 23)) 8 (fun j => [some ((L 24)), some ((L 25)), some ((L 26)), some ((L 27)), some ((L 28)), some ((L 29)), some ((L 30)), some ((L 31))].getD j none), xJ cy ((L 24)) 40 ((b_shelves.2.2 0)), xJ cy ((L 25)) 40 ((b_shelves.2.2 1)), xJ cy ((L 26)) 40 ((b_shelves.2.2 2)), xJ cy ((L 27)) 40 ((b_shelves.2.2 3)), xJ cy ((L 28)) 40 ((b_shelves.2.2 4)), xJ cy ((L 29)) 40 ((b_shelves.2.2 5)), xJ cy ((L 30)) 40 ((b_shelves.2.2 6)), xJ cy ((L 31)) 40 ((b_shelves.2.2 7)), xWa ((L 34)) ((L 35)) res.2.1.2.1 res.2.1.2.2.1 res.2.1.2.2.2.1 res.2.1.2.2.2.2.1 res.2.1.2.2.2.2.2.1 res.2.1.2.2.2.2.2.2.1 res.2.1.2.2.2.2.2.2.2.1 res.2.1.2.2.2.2.2.2.2.2, xTe ((L 35)) res.2.1.1, xI cy ((L 46)) 48 res.2.2.1, xI cy ((L 48)) 5 res.2.2.2] := by
  refine zk_start zn_X7 (Nat.le_of_ble_eq_true rfl) ?_
  intro p e s m args below meth c A ls Q C hr hQ hw hl
  have C : zCx p m c s args meth cX7_behind 5 RX7 G cy tt A := C
  have hx := C.1.1
  have hb := C.1.2.1
  have hl : lv_has ls 5 [(0, .ref ((L 0))), (1, .int x1), (2, .int x2), (3, .int x3)] := hl
  rw [zf_X7_behind] at hf
  refine lv_aload_n (pc := 0) hx hb dX7_behind_0 rfl (lv_at hl 0 rfl) ?_
  refine lv_iload_n (pc := 1) hx hb dX7_behind_1 rfl (lv_at hl 1 rfl) ?_
  refine lv_iload_n (pc := 2) hx hb dX7_behind_2 rfl (lv_at hl 2 rfl) ?_
  refine lv_iload_n (pc := 3) hx hb dX7_behind_3 rfl (lv_at hl 3 rfl) ?_
  refine lv_iconst (pc := 4) (v := 0) hx hb dX7_behind_4 (by decide) ?_
  refine lv_iconst (pc := 5) (v := 4) hx hb dX7_behind_5 (by decide) ?_
  obtain ⟨u1, u1e, hf⟩ := bd hf
  refine zk_cS (pc := 6) (rest := [.int x2, .int x1, .ref ((L 0))]) (st1 := [.int (bI u1), .int x2, .int x1, .ref ((L 0))]) (w' := [xU L b_seedNow b_keptSeed b_isKept, xTe ((L 1)) b_now, xSt ((L 5)) ((L 6)) ((L 7)) ((L 8)) ((L 9)) b_staff.1, xI cy ((L 6)) 8 b_staff.2.1, xI cy ((L 7)) 8 b_staff.2.2.1, xI cy ((L 8)) 8 b_staff.2.2.2.1, xI cy ((L 9)) 8 b_staff.2.2.2.2, xSh ((L 20)) ((L 21)) ((L 22)) ((L 23)), xI cy ((L 21)) 8 b_shelves.1, xI cy ((L 22)) 8 b_shelves.2.1, xRJ cy ((L 23)) 8 (fun j => [some ((L 24)), some ((L 25)), some ((L 26)), some ((L 27)), some ((L 28)), some ((L 29)), some ((L 30)), some ((L 31))].getD j none), xJ cy ((L 24)) 40 ((b_shelves.2.2 0)), xJ cy ((L 25)) 40 ((b_shelves.2.2 1)), xJ cy ((L 26)) 40 ((b_shelves.2.2 2)), xJ cy ((L 27)) 40 ((b_shelves.2.2 3)), xJ cy ((L 28)) 40 ((b_shelves.2.2 4)), xJ cy ((L 29)) 40 ((b_shelves.2.2 5)), xJ cy ((L 30)) 40 ((b_shelves.2.2 6)), xJ cy ((L 31)) 40 ((b_shelves.2.2 7)), xWa ((L 34)) ((L 35)) b_walk.2.1 b_walk.2.2.1 b_walk.2.2.2.1 b_walk.2.2.2.2.1 b_walk.2.2.2.2.2.1 b_walk.2.2.2.2.2.2.1 b_walk.2.2.2.2.2.2.2.1 b_walk.2.2.2.2.2.2.2.2, xTe ((L 35)) b_walk.1, xI cy ((L 46)) 48 b_plan, xI cy ((L 48)) 5 b_refusals]) (mk := [none, none, none, none, none, none, none, none, none, none, none, none, none, none, none, none, none, none, none, none, none, none, none]) C hw (c_X7_isWithin l G cy tt x3 (((0 : Int32))) (((4 : Int32))) _ u1e) zy_X7_isWithin zm_X7_99 [] rfl rfl rfl rfl rfl rfl rfl rfl hl.1 ⟨rfl, rfl⟩ ⟨Nat.le_of_ble_eq_true rfl, Nat.le_of_ble_eq_true rfl⟩ rfl (Nat.le_of_ble_eq_true rfl) ⟨Nat.zero_le _, Nat.zero_le _⟩ dX7_behind_6 (fun H locs hw => ?_)
  obtain ⟨u2, u2e, hf⟩ := bd hf
  refine zk_cV (pc := 9) (ci := 7) (q0 := 0) (rest := []) (st1 := [.int u2.1]) (w' := [xU L b_seedNow b_keptSeed b_isKept, xTe ((L 1)) b_now, xSt ((L 5)) ((L 6)) ((L 7)) ((L 8)) ((L 9)) b_staff.1, xI cy ((L 6)) 8 b_staff.2.1, xI cy ((L 7)) 8 b_staff.2.2.1, xI cy ((L 8)) 8 b_staff.2.2.2.1, xI cy ((L 9)) 8 b_staff.2.2.2.2, xSh ((L 20)) ((L 21)) ((L 22)) ((L 23)), xI cy ((L 21)) 8 b_shelves.1, xI cy ((L 22)) 8 b_shelves.2.1, xRJ cy ((L 23)) 8 (fun j => [some ((L 24)), some ((L 25)), some ((L 26)), some ((L 27)), some ((L 28)), some ((L 29)), some ((L 30)), some ((L 31))].getD j none), xJ cy ((L 24)) 40 ((b_shelves.2.2 0)), xJ cy ((L 25)) 40 ((b_shelves.2.2 1)), xJ cy ((L 26)) 40 ((b_shelves.2.2 2)), xJ cy ((L 27)) 40 ((b_shelves.2.2 3)), xJ cy ((L 28)) 40 ((b_shelves.2.2 4)), xJ cy ((L 29)) 40 ((b_shelves.2.2 5)), xJ cy ((L 30)) 40 ((b_shelves.2.2 6)), xJ cy ((L 31)) 40 ((b_shelves.2.2 7)), xWa ((L 34)) ((L 35)) b_walk.2.1 b_walk.2.2.1 b_walk.2.2.2.1 b_walk.2.2.2.2.1 b_walk.2.2.2.2.2.1 b_walk.2.2.2.2.2.2.1 b_walk.2.2.2.2.2.2.2.1 b_walk.2.2.2.2.2.2.2.2, xTe ((L 35)) b_walk.1, xI cy ((L 46)) 48 u2.2, xI cy ((L 48)) 5 b_refusals]) (mk := [none, none, none, none, none, none, none, none, none, none, none, none, none, none, none, none, none, none, none, none, none, some (xI cy ((L 46)) 48 u2.2), none]) C hw (c_X7_takeRoster l G cy tt L b_seedNow b_keptSeed b_isKept x1 x2 u1 b_staff b_shelves b_plan _ u2e) zy_X7_takeRoster zm_X7_242 rfl rfl rfl [0, 2, 3, 4, 5, 6, 7, 8, 9, 10, 11, 12, 13, 14, 15, 16, 17, 18, 21] rfl rfl rfl rfl rfl rfl rfl rfl hl.1 ⟨rfl, rfl⟩ ⟨Nat.le_of_ble_eq_true rfl, Nat.le_of_ble_eq_true rfl⟩ rfl (Nat.le_of_ble_eq_true rfl) ⟨Nat.zero_le _, Nat.zero_le _⟩ dX7_behind_9 (fun H locs hw => ?_)
  refine lv_istore (pc := 12) (lv' := [(4, .int u2.1), (0, .ref ((L 0))), (1, .int x1), (2, .int x2), (3, .int x3)]) hx hb dX7_behind_12 hl (by decide) rfl (fun ls hl => ?_)
  refine lv_iload (pc := 14) hx hb dX7_behind_14 (lv_at hl 0 rfl) ?_
  refine lv_if_eq (pc := 16) (tgt := 26) hx hb dX7_behind_16 (by decide) (fun q3 => ?_) (fun q3 => ?_)
  · replace hf := if_t q3 hf
    refine lv_aload_n (pc := 26) hx hb dX7_behind_26 rfl (lv_at hl 1 rfl) ?_
    refine zk_gt (pc := 27) C hw zl_X7_55 0 rfl rfl dX7_behind_27 ?_
    refine lv_aload_n (pc := 30) hx hb dX7_behind_30 rfl (lv_at hl 1 rfl) ?_
    refine zk_gt (pc := 31) C hw zl_X7_73 0 rfl rfl dX7_behind_31 ?_
    refine lv_iload_n (pc := 34) hx hb dX7_behind_34 rfl (lv_at hl 3 rfl) ?_
    refine lv_aload_n (pc := 35) hx hb dX7_behind_35 rfl (lv_at hl 1 rfl) ?_
    refine zk_gt (pc := 36) C hw zl_X7_10 0 rfl rfl dX7_behind_36 ?_
    refine lv_aload_n (pc := 39) hx hb dX7_behind_39 rfl (lv_at hl 1 rfl) ?_
    refine zk_gt (pc := 40) C hw zl_X7_28 0 rfl rfl dX7_behind_40 ?_
    obtain ⟨u4, u4e, hf⟩ := bd hf
    refine zk_cV (pc := 43) (ci := 6) (q0 := 19) (rest := []) (st1 := []) (w' := [xU L b_seedNow b_keptSeed b_isKept, xTe ((L 1)) b_now, xSt ((L 5)) ((L 6)) ((L 7)) ((L 8)) ((L 9)) b_staff.1, xI cy ((L 6)) 8 b_staff.2.1, xI cy ((L 7)) 8 b_staff.2.2.1, xI cy ((L 8)) 8 b_staff.2.2.2.1, xI cy ((L 9)) 8 b_staff.2.2.2.2, xSh ((L 20)) ((L 21)) ((L 22)) ((L 23)), xI cy ((L 21)) 8 b_shelves.1, xI cy ((L 22)) 8 b_shelves.2.1, xRJ cy ((L 23)) 8 (fun j => [some ((L 24)), some ((L 25)), some ((L 26)), some ((L 27)), some ((L 28)), some ((L 29)), some ((L 30)), some ((L 31))].getD j none), xJ cy ((L 24)) 40 ((b_shelves.2.2 0)), xJ cy ((L 25)) 40 ((b_shelves.2.2 1)), xJ cy ((L 26)) 40 ((b_shelves.2.2 2)), xJ cy ((L 27)) 40 ((b_shelves.2.2 3)), xJ cy ((L 28)) 40 ((b_shelves.2.2 4)), xJ cy ((L 29)) 40 ((b_shelves.2.2 5)), xJ cy ((L 30)) 40 ((b_shelves.2.2 6)), xJ cy ((L 31)) 40 ((b_shelves.2.2 7)), xWa ((L 34)) ((L 35)) u4.2.1 u4.2.2.1 u4.2.2.2.1 u4.2.2.2.2.1 u4.2.2.2.2.2.1 u4.2.2.2.2.2.2.1 u4.2.2.2.2.2.2.2.1 u4.2.2.2.2.2.2.2.2, xTe ((L 35)) u4.1, xI cy ((L 46)) 48 u2.2, xI cy ((L 48)) 5 b_refusals]) (mk := [none, none, none, none, none, none, none, none, none, none, none, none, none, none, none, none, none, none, none, some (xWa ((L 34)) ((L 35)) u4.2.1 u4.2.2.1 u4.2.2.2.1 u4.2.2.2.2.1 u4.2.2.2.2.2.1 u4.2.2.2.2.2.2.1 u4.2.2.2.2.2.2.2.1 u4.2.2.2.2.2.2.2.2), some (xTe ((L 35)) u4.1), none, none]) C hw (c_X6_along l G cy tt ((L 34)) ((L 35)) ((L 46)) ((L 1)) ((L 5)) ((L 6)) ((L 7)) ((L 8)) ((L 9)) x2 b_walk u2.2 b_now b_staff _ u4e) zy_X6_along zm_X7_246 rfl rfl rfl [19, 20, 21, 1, 2, 3, 4, 5, 6] rfl rfl rfl rfl rfl rfl rfl rfl hl.1 ⟨rfl, rfl⟩ ⟨Nat.le_of_ble_eq_true rfl, Nat.le_of_ble_eq_true rfl⟩ rfl (Nat.le_of_ble_eq_true rfl) ⟨Nat.zero_le _, Nat.zero_le _⟩ dX7_behind_43 (fun H locs hw => ?_)
    refine lv_iload_n (pc := 46) hx hb dX7_behind_46 rfl (lv_at hl 4 rfl) ?_
    by_cases q5 : x3 = (3 : Int32)
    · replace hf := if_t q5 hf
      refine zk_lkIn (pc := 47) (off := 25) (tgt := 72) q5 C dX7_behind_47 (by decide +kernel) (by decide +kernel) (by decide) ?_
      refine lv_aload_n (pc := 72) hx hb dX7_behind_72 rfl (lv_at hl 1 rfl) ?_
      refine zk_gt (pc := 73) C hw zl_X7_55 0 rfl rfl dX7_behind_73 ?_
      refine zk_gt (pc := 76) C hw zl_X7_250 19 rfl rfl dX7_behind_76 ?_
      have hf := Option.some.inj hf
      subst hf
      exact zk_reti (pc := 79) (ww := [xU L b_seedNow b_keptSeed b_isKept, xTe ((L 1)) b_now, xSt ((L 5)) ((L 6)) ((L 7)) ((L 8)) ((L 9)) b_staff.1, xI cy ((L 6)) 8 b_staff.2.1, xI cy ((L 7)) 8 b_staff.2.2.1, xI cy ((L 8)) 8 b_staff.2.2.2.1, xI cy ((L 9)) 8 b_staff.2.2.2.2, xSh ((L 20)) ((L 21)) ((L 22)) ((L 23)), xI cy ((L 21)) 8 b_shelves.1, xI cy ((L 22)) 8 b_shelves.2.1, xRJ cy ((L 23)) 8 (fun j => [some ((L 24)), some ((L 25)), some ((L 26)), some ((L 27)), some ((L 28)), some ((L 29)), some ((L 30)), some ((L 31))].getD j none), xJ cy ((L 24)) 40 ((b_shelves.2.2 0)), xJ cy ((L 25)) 40 ((b_shelves.2.2 1)), xJ cy ((L 26)) 40 ((b_shelves.2.2 2)), xJ cy ((L 27)) 40 ((b_shelves.2.2 3)), xJ cy ((L 28)) 40 ((b_shelves.2.2 4)), xJ cy ((L 29)) 40 ((b_shelves.2.2 5)), xJ cy ((L 30)) 40 ((b_shelves.2.2 6)), xJ cy ((L 31)) 40 ((b_shelves.2.2 7)), xWa ((L 34)) ((L 35)) u4.2.1 u4.2.2.1 u4.2.2.2.1 u4.2.2.2.2.1 u4.2.2.2.2.2.1 u4.2.2.2.2.2.2.1 u4.2.2.2.2.2.2.2.1 u4.2.2.2.2.2.2.2.2, xTe ((L 35)) u4.1, xI cy ((L 46)) 48 u2.2, xI cy ((L 48)) 5 b_refusals]) C hw hr hQ dX7_behind_79
    · replace hf := if_f q5 hf
      by_cases q6 : x3 = (4 : Int32)
      · replace hf := if_t q6 hf
        refine zk_lkIn (pc := 47) (off := 33) (tgt := 80) q6 C dX7_behind_47 (by decide +kernel) (by decide +kernel) (by decide) ?_
        refine lv_aload_n (pc := 80) hx hb dX7_behind_80 rfl (lv_at hl 1 rfl) ?_
        refine zk_gt (pc := 81) C hw zl_X7_55 0 rfl rfl dX7_behind_81 ?_
        refine zk_gt (pc := 84) C hw zl_X7_253 19 rfl rfl dX7_behind_84 ?_
        have hf := Option.some.inj hf
        subst hf
        exact zk_reti (pc := 87) (ww := [xU L b_seedNow b_keptSeed b_isKept, xTe ((L 1)) b_now, xSt ((L 5)) ((L 6)) ((L 7)) ((L 8)) ((L 9)) b_staff.1, xI cy ((L 6)) 8 b_staff.2.1, xI cy ((L 7)) 8 b_staff.2.2.1, xI cy ((L 8)) 8 b_staff.2.2.2.1, xI cy ((L 9)) 8 b_staff.2.2.2.2, xSh ((L 20)) ((L 21)) ((L 22)) ((L 23)), xI cy ((L 21)) 8 b_shelves.1, xI cy ((L 22)) 8 b_shelves.2.1, xRJ cy ((L 23)) 8 (fun j => [some ((L 24)), some ((L 25)), some ((L 26)), some ((L 27)), some ((L 28)), some ((L 29)), some ((L 30)), some ((L 31))].getD j none), xJ cy ((L 24)) 40 ((b_shelves.2.2 0)), xJ cy ((L 25)) 40 ((b_shelves.2.2 1)), xJ cy ((L 26)) 40 ((b_shelves.2.2 2)), xJ cy ((L 27)) 40 ((b_shelves.2.2 3)), xJ cy ((L 28)) 40 ((b_shelves.2.2 4)), xJ cy ((L 29)) 40 ((b_shelves.2.2 5)), xJ cy ((L 30)) 40 ((b_shelves.2.2 6)), xJ cy ((L 31)) 40 ((b_shelves.2.2 7)), xWa ((L 34)) ((L 35)) u4.2.1 u4.2.2.1 u4.2.2.2.1 u4.2.2.2.2.1 u4.2.2.2.2.2.1 u4.2.2.2.2.2.2.1 u4.2.2.2.2.2.2.2.1 u4.2.2.2.2.2.2.2.2, xTe ((L 35)) u4.1, xI cy ((L 46)) 48 u2.2, xI cy ((L 48)) 5 b_refusals]) C hw hr hQ dX7_behind_87
      · replace hf := if_f q6 hf
        have eq5 := i32_ne (n := 3) (by decide) q5
        have eq6 := i32_ne (n := 4) (by decide) q6
        refine lv_lookup (pc := 47) (off := 41) (tgt := 88) hx hb dX7_behind_47 (by decide +kernel) (by simp [Op.lookupswitch.offset, Ne.symm eq5, Ne.symm eq6]; done) (by decide) ?_
        refine lv_aload_n (pc := 88) hx hb dX7_behind_88 rfl (lv_at hl 1 rfl) ?_
        refine zk_gt (pc := 89) C hw zl_X7_55 0 rfl rfl dX7_behind_89 ?_
        refine zk_gt (pc := 92) C hw zl_X7_256 19 rfl rfl dX7_behind_92 ?_
        refine lv_iload_n (pc := 95) hx hb dX7_behind_95 rfl (lv_at hl 4 rfl) ?_
        obtain ⟨u7, u7e, hf⟩ := bd hf
        refine zk_cV (pc := 96) (ci := 5) (q0 := 20) (rest := []) (st1 := [.int u7]) (w' := [xU L b_seedNow b_keptSeed b_isKept, xTe ((L 1)) b_now, xSt ((L 5)) ((L 6)) ((L 7)) ((L 8)) ((L 9)) b_staff.1, xI cy ((L 6)) 8 b_staff.2.1, xI cy ((L 7)) 8 b_staff.2.2.1, xI cy ((L 8)) 8 b_staff.2.2.2.1, xI cy ((L 9)) 8 b_staff.2.2.2.2, xSh ((L 20)) ((L 21)) ((L 22)) ((L 23)), xI cy ((L 21)) 8 b_shelves.1, xI cy ((L 22)) 8 b_shelves.2.1, xRJ cy ((L 23)) 8 (fun j => [some ((L 24)), some ((L 25)), some ((L 26)), some ((L 27)), some ((L 28)), some ((L 29)), some ((L 30)), some ((L 31))].getD j none), xJ cy ((L 24)) 40 ((b_shelves.2.2 0)), xJ cy ((L 25)) 40 ((b_shelves.2.2 1)), xJ cy ((L 26)) 40 ((b_shelves.2.2 2)), xJ cy ((L 27)) 40 ((b_shelves.2.2 3)), xJ cy ((L 28)) 40 ((b_shelves.2.2 4)), xJ cy ((L 29)) 40 ((b_shelves.2.2 5)), xJ cy ((L 30)) 40 ((b_shelves.2.2 6)), xJ cy ((L 31)) 40 ((b_shelves.2.2 7)), xWa ((L 34)) ((L 35)) u4.2.1 u4.2.2.1 u4.2.2.2.1 u4.2.2.2.2.1 u4.2.2.2.2.2.1 u4.2.2.2.2.2.2.1 u4.2.2.2.2.2.2.2.1 u4.2.2.2.2.2.2.2.2, xTe ((L 35)) u4.1, xI cy ((L 46)) 48 u2.2, xI cy ((L 48)) 5 b_refusals]) (mk := [none, none, none, none, none, none, none, none, none, none, none, none, none, none, none, none, none, none, none, none, none, none, none]) C hw (c_X5_measure l G cy tt ((L 35)) x3 u4.1 _ u7e) zy_X5_measure zm_X7_180 rfl rfl rfl [20] rfl rfl rfl rfl rfl rfl rfl rfl hl.1 ⟨rfl, rfl⟩ ⟨Nat.le_of_ble_eq_true rfl, Nat.le_of_ble_eq_true rfl⟩ rfl (Nat.le_of_ble_eq_true rfl) ⟨Nat.zero_le _, Nat.zero_le _⟩ dX7_behind_96 (fun H locs hw => ?_)
        have hf := Option.some.inj hf
        subst hf
        exact zk_reti (pc := 99) (ww := [xU L b_seedNow b_keptSeed b_isKept, xTe ((L 1)) b_now, xSt ((L 5)) ((L 6)) ((L 7)) ((L 8)) ((L 9)) b_staff.1, xI cy ((L 6)) 8 b_staff.2.1, xI cy ((L 7)) 8 b_staff.2.2.1, xI cy ((L 8)) 8 b_staff.2.2.2.1, xI cy ((L 9)) 8 b_staff.2.2.2.2, xSh ((L 20)) ((L 21)) ((L 22)) ((L 23)), xI cy ((L 21)) 8 b_shelves.1, xI cy ((L 22)) 8 b_shelves.2.1, xRJ cy ((L 23)) 8 (fun j => [some ((L 24)), some ((L 25)), some ((L 26)), some ((L 27)), some ((L 28)), some ((L 29)), some ((L 30)), some ((L 31))].getD j none), xJ cy ((L 24)) 40 ((b_shelves.2.2 0)), xJ cy ((L 25)) 40 ((b_shelves.2.2 1)), xJ cy ((L 26)) 40 ((b_shelves.2.2 2)), xJ cy ((L 27)) 40 ((b_shelves.2.2 3)), xJ cy ((L 28)) 40 ((b_shelves.2.2 4)), xJ cy ((L 29)) 40 ((b_shelves.2.2 5)), xJ cy ((L 30)) 40 ((b_shelves.2.2 6)), xJ cy ((L 31)) 40 ((b_shelves.2.2 7)), xWa ((L 34)) ((L 35)) u4.2.1 u4.2.2.1 u4.2.2.2.1 u4.2.2.2.2.1 u4.2.2.2.2.2.1 u4.2.2.2.2.2.2.1 u4.2.2.2.2.2.2.2.1 u4.2.2.2.2.2.2.2.2, xTe ((L 35)) u4.1, xI cy ((L 46)) 48 u2.2, xI cy ((L 48)) 5 b_refusals]) C hw hr hQ dX7_behind_99
  · replace hf := if_f q3 hf
    refine lv_aload_n (pc := 19) hx hb dX7_behind_19 rfl (lv_at hl 1 rfl) ?_
    refine lv_iload (pc := 20) hx hb dX7_behind_20 (lv_at hl 0 rfl) ?_
    obtain ⟨u8, u8e, hf⟩ := bd hf
    refine zk_cV (pc := 22) (ci := 7) (q0 := 0) (rest := []) (st1 := [.int u8.1]) (w' := [xU L b_seedNow b_keptSeed b_isKept, xTe ((L 1)) b_now, xSt ((L 5)) ((L 6)) ((L 7)) ((L 8)) ((L 9)) b_staff.1, xI cy ((L 6)) 8 b_staff.2.1, xI cy ((L 7)) 8 b_staff.2.2.1, xI cy ((L 8)) 8 b_staff.2.2.2.1, xI cy ((L 9)) 8 b_staff.2.2.2.2, xSh ((L 20)) ((L 21)) ((L 22)) ((L 23)), xI cy ((L 21)) 8 b_shelves.1, xI cy ((L 22)) 8 b_shelves.2.1, xRJ cy ((L 23)) 8 (fun j => [some ((L 24)), some ((L 25)), some ((L 26)), some ((L 27)), some ((L 28)), some ((L 29)), some ((L 30)), some ((L 31))].getD j none), xJ cy ((L 24)) 40 ((b_shelves.2.2 0)), xJ cy ((L 25)) 40 ((b_shelves.2.2 1)), xJ cy ((L 26)) 40 ((b_shelves.2.2 2)), xJ cy ((L 27)) 40 ((b_shelves.2.2 3)), xJ cy ((L 28)) 40 ((b_shelves.2.2 4)), xJ cy ((L 29)) 40 ((b_shelves.2.2 5)), xJ cy ((L 30)) 40 ((b_shelves.2.2 6)), xJ cy ((L 31)) 40 ((b_shelves.2.2 7)), xWa ((L 34)) ((L 35)) b_walk.2.1 b_walk.2.2.1 b_walk.2.2.2.1 b_walk.2.2.2.2.1 b_walk.2.2.2.2.2.1 b_walk.2.2.2.2.2.2.1 b_walk.2.2.2.2.2.2.2.1 b_walk.2.2.2.2.2.2.2.2, xTe ((L 35)) b_walk.1, xI cy ((L 46)) 48 u2.2, xI cy ((L 48)) 5 u8.2]) (mk := [none, none, none, none, none, none, none, none, none, none, none, none, none, none, none, none, none, none, none, none, none, none, some (xI cy ((L 48)) 5 u8.2)]) C hw (c_X7_refused l G cy tt L b_seedNow b_keptSeed b_isKept u2.1 b_refusals _ u8e) zy_X7_refused zm_X7_103 rfl rfl rfl [0, 22] rfl rfl rfl rfl rfl rfl rfl rfl hl.1 ⟨rfl, rfl⟩ ⟨Nat.le_of_ble_eq_true rfl, Nat.le_of_ble_eq_true rfl⟩ rfl (Nat.le_of_ble_eq_true rfl) ⟨Nat.zero_le _, Nat.zero_le _⟩ dX7_behind_22 (fun H locs hw => ?_)
    have hf := Option.some.inj hf
    subst hf
    exact zk_reti (pc := 25) (ww := [xU L b_seedNow b_keptSeed b_isKept, xTe ((L 1)) b_now, xSt ((L 5)) ((L 6)) ((L 7)) ((L 8)) ((L 9)) b_staff.1, xI cy ((L 6)) 8 b_staff.2.1, xI cy ((L 7)) 8 b_staff.2.2.1, xI cy ((L 8)) 8 b_staff.2.2.2.1, xI cy ((L 9)) 8 b_staff.2.2.2.2, xSh ((L 20)) ((L 21)) ((L 22)) ((L 23)), xI cy ((L 21)) 8 b_shelves.1, xI cy ((L 22)) 8 b_shelves.2.1, xRJ cy ((L 23)) 8 (fun j => [some ((L 24)), some ((L 25)), some ((L 26)), some ((L 27)), some ((L 28)), some ((L 29)), some ((L 30)), some ((L 31))].getD j none), xJ cy ((L 24)) 40 ((b_shelves.2.2 0)), xJ cy ((L 25)) 40 ((b_shelves.2.2 1)), xJ cy ((L 26)) 40 ((b_shelves.2.2 2)), xJ cy ((L 27)) 40 ((b_shelves.2.2 3)), xJ cy ((L 28)) 40 ((b_shelves.2.2 4)), xJ cy ((L 29)) 40 ((b_shelves.2.2 5)), xJ cy ((L 30)) 40 ((b_shelves.2.2 6)), xJ cy ((L 31)) 40 ((b_shelves.2.2 7)), xWa ((L 34)) ((L 35)) b_walk.2.1 b_walk.2.2.1 b_walk.2.2.2.1 b_walk.2.2.2.2.1 b_walk.2.2.2.2.2.1 b_walk.2.2.2.2.2.2.1 b_walk.2.2.2.2.2.2.2.1 b_walk.2.2.2.2.2.2.2.2, xTe ((L 35)) b_walk.1, xI cy ((L 46)) 48 u2.2, xI cy ((L 48)) 5 u8.2]) C hw hr hQ dX7_behind_25
def zf_X7_unkept (x1 : Int32) (x2 : Int32) (b_now : TTe) (b_staff : TSt) (b_shelves : TSh) (b_walk : TWa) (b_plan : Nat → Int32) (b_refusals : Nat → Int32) : Option (Int32 × TWa × (Nat → Int32) × (Nat → Int32)) := (Option.bind (zf_X7_takeRoster x1 x2 true b_staff b_shelves b_plan) (fun u1 => (if u1.1 = 0 then (Option.bind (zf_X6_along x2 b_walk u1.2 b_now b_staff) (fun u3 => some (u3.2.2.2.1, u3, u1.2, b_refusals))) else (Option.bind (zf_X7_refused u1.1 b_refusals) (fun u4 => some (u4.1, b_walk, u1.2, u4.2))))))
abbrev zr_X7_unkept : Room := { frames := 6, cells := 0, slots := 0, locals := 134 }
set_option maxHeartbeats 4000000 in
set_option maxRecDepth 100000 in
theorem c_X7_unkept (l : Launch) (G : va_G) (cy : Nat → ClassId) (tt : Nat → Nat) (L : Nat → Nat) (b_seedNow : Int32) (b_keptSeed : Int32) (b_isKept : Bool) (x1 : Int32) (x2 : Int32) (b_now : TTe) (b_staff : TSt) (b_shelves : TSh) (b_walk : TWa) (b_plan : Nat → Int32) (b_refusals : Nat → Int32) (res : Int32 × TWa × (Nat → Int32) × (Nat → Int32)) (hf : zf_X7_unkept x1 x2 b_now b_staff b_shelves b_walk b_plan b_refusals = some res) : zCT l yX7_unkept cX7_unkept 4 (some .int) zr_X7_unkept G cy tt [.ref ((L 0)), .int x1, .int x2] [xU L b_seedNow b_keptSeed b_isKept, xTe ((L 1)) b_now, xSt ((L 5)) ((L 6)) ((L 7)) ((L 8)) ((L 9)) b_staff.1, xI cy ((L 6)) 8 b_staff.2.1, xI cy ((L 7)) 8 b_staff.2.2.1, xI cy ((L 8)) 8 b_staff.2.2.2.1, xI cy ((L 9)) 8 b_staff.2.2.2.2, xSh ((L 20)) ((L 21)) ((L 22)) ((L 23)), xI cy ((L 21)) 8 b_shelves.1, xI cy ((L 22)) 8 b_shelves.2.1, xRJ cy ((L 23)) 8 (fun j => [some ((L 24)), some ((L 25)), some ((L 26)), some ((L 27)), some ((L 28)), some ((L 29)), some ((L 30)), some ((L 31))].getD j none), xJ cy ((L 24)) 40 ((b_shelves.2.2 0)), xJ cy ((L 25)) 40 ((b_shelves.2.2 1)), xJ cy ((L 26)) 40 ((b_shelves.2.2 2)), xJ cy ((L 27)) 40 ((b_shelves.2.2 3)), xJ cy ((L 28)) 40 ((b_shelves.2.2 4)), xJ cy ((L 29)) 40 ((b_shelves.2.2 5)), xJ cy ((L 30)) 40 ((b_shelves.2.2 6)), xJ cy ((L 31)) 40 ((b_shelves.2.2 7)), xWa ((L 34)) ((L 35)) b_walk.2.1 b_walk.2.2.1 b_walk.2.2.2.1 b_walk.2.2.2.2.1 b_walk.2.2.2.2.2.1 b_walk.2.2.2.2.2.2.1 b_walk.2.2.2.2.2.2.2.1 b_walk.2.2.2.2.2.2.2.2, xTe ((L 35)) b_walk.1, xI cy ((L 46)) 48 b_plan, xI cy ((L 48)) 5 b_refusals] (some (.int res.1)) [xU L b_seedNow b_keptSeed b_isKept, xTe ((L 1)) b_now, xSt ((L 5)) ((L 6)) ((L 7)) ((L 8)) ((L 9)) b_staff.1, xI cy ((L 6)) 8 b_staff.2.1, xI cy ((L 7)) 8 b_staff.2.2.1, xI cy ((L 8)) 8 b_staff.2.2.2.1, xI cy ((L 9)) 8 b_staff.2.2.2.2, xSh ((L 20)) ((L 21)) ((L 22)) ((L 23)), xI cy ((L 21)) 8 b_shelves.1, xI cy ((L 22)) 8 b_shelves.2.1, xRJ cy ((L 23)) 8 (fun j => [some ((L 24)), some ((L 25)), some ((L 26)), some ((L 27)), some ((L 28)), some ((L 29)), some ((L 30)), some ((L 31))].getD j none), xJ cy ((L 24)) 40 ((b_shelves.2.2 0)), xJ cy ((L 25)) 40 ((b_shelves.2.2 1)), xJ cy ((L 26)) 40 ((b_shelves.2.2 2)), xJ cy ((L 27)) 40 ((b_shelves.2.2 3)), xJ cy ((L 28)) 40 ((b_shelves.2.2 4)), xJ cy ((L 29)) 40 ((b_shelves.2.2 5)), xJ cy ((L 30)) 40 ((b_shelves.2.2 6)), xJ cy ((L 31)) 40 ((b_shelves.2.2 7)), xWa ((L 34)) ((L 35)) res.2.1.2.1 res.2.1.2.2.1 res.2.1.2.2.2.1 res.2.1.2.2.2.2.1 res.2.1.2.2.2.2.2.1 res.2.1.2.2.2.2.2.2.1 res.2.1.2.2.2.2.2.2.2.1 res.2.1.2.2.2.2.2.2.2.2, xTe ((L 35)) res.2.1.1, xI cy ((L 46)) 48 res.2.2.1, xI cy ((L 48)) 5 res.2.2.2] := by
  refine zk_start zn_X7 (Nat.le_of_ble_eq_true rfl) ?_
  intro p e s m args below meth c A ls Q C hr hQ hw hl
  have C : zCx p m c s args meth cX7_unkept 4 RX7 G cy tt A := C
  have hx := C.1.1
  have hb := C.1.2.1
  have hl : lv_has ls 4 [(0, .ref ((L 0))), (1, .int x1), (2, .int x2)] := hl
  rw [zf_X7_unkept] at hf
  refine lv_aload_n (pc := 0) hx hb dX7_unkept_0 rfl (lv_at hl 0 rfl) ?_
  refine lv_iload_n (pc := 1) hx hb dX7_unkept_1 rfl (lv_at hl 1 rfl) ?_
  refine lv_iload_n (pc := 2) hx hb dX7_unkept_2 rfl (lv_at hl 2 rfl) ?_
  refine lv_iconst (pc := 3) (v := 1) hx hb dX7_unkept_3 (by decide) ?_
  obtain ⟨u1, u1e, hf⟩ := bd hf
  refine zk_cV (pc := 4) (ci := 7) (q0 := 0) (rest := []) (st1 := [.int u1.1]) (w' := [xU L b_seedNow b_keptSeed b_isKept, xTe ((L 1)) b_now, xSt ((L 5)) ((L 6)) ((L 7)) ((L 8)) ((L 9)) b_staff.1, xI cy ((L 6)) 8 b_staff.2.1, xI cy ((L 7)) 8 b_staff.2.2.1, xI cy ((L 8)) 8 b_staff.2.2.2.1, xI cy ((L 9)) 8 b_staff.2.2.2.2, xSh ((L 20)) ((L 21)) ((L 22)) ((L 23)), xI cy ((L 21)) 8 b_shelves.1, xI cy ((L 22)) 8 b_shelves.2.1, xRJ cy ((L 23)) 8 (fun j => [some ((L 24)), some ((L 25)), some ((L 26)), some ((L 27)), some ((L 28)), some ((L 29)), some ((L 30)), some ((L 31))].getD j none), xJ cy ((L 24)) 40 ((b_shelves.2.2 0)), xJ cy ((L 25)) 40 ((b_shelves.2.2 1)), xJ cy ((L 26)) 40 ((b_shelves.2.2 2)), xJ cy ((L 27)) 40 ((b_shelves.2.2 3)), xJ cy ((L 28)) 40 ((b_shelves.2.2 4)), xJ cy ((L 29)) 40 ((b_shelves.2.2 5)), xJ cy ((L 30)) 40 ((b_shelves.2.2 6)), xJ cy ((L 31)) 40 ((b_shelves.2.2 7)), xWa ((L 34)) ((L 35)) b_walk.2.1 b_walk.2.2.1 b_walk.2.2.2.1 b_walk.2.2.2.2.1 b_walk.2.2.2.2.2.1 b_walk.2.2.2.2.2.2.1 b_walk.2.2.2.2.2.2.2.1 b_walk.2.2.2.2.2.2.2.2, xTe ((L 35)) b_walk.1, xI cy ((L 46)) 48 u1.2, xI cy ((L 48)) 5 b_refusals]) (mk := [none, none, none, none, none, none, none, none, none, none, none, none, none, none, none, none, none, none, none, none, none, some (xI cy ((L 46)) 48 u1.2), none]) C hw (c_X7_takeRoster l G cy tt L b_seedNow b_keptSeed b_isKept x1 x2 true b_staff b_shelves b_plan _ u1e) zy_X7_takeRoster zm_X7_242 rfl rfl rfl [0, 2, 3, 4, 5, 6, 7, 8, 9, 10, 11, 12, 13, 14, 15, 16, 17, 18, 21] rfl rfl rfl rfl rfl rfl rfl rfl hl.1 ⟨rfl, rfl⟩ ⟨Nat.le_of_ble_eq_true rfl, Nat.le_of_ble_eq_true rfl⟩ rfl (Nat.le_of_ble_eq_true rfl) ⟨Nat.zero_le _, Nat.zero_le _⟩ dX7_unkept_4 (fun H locs hw => ?_)
  refine lv_istore_n (pc := 7) (lv' := [(3, .int u1.1), (0, .ref ((L 0))), (1, .int x1), (2, .int x2)]) hx hb dX7_unkept_7 rfl hl (by decide) rfl (fun ls hl => ?_)
  refine lv_iload_n (pc := 8) hx hb dX7_unkept_8 rfl (lv_at hl 0 rfl) ?_
  refine lv_if_eq (pc := 9) (tgt := 18) hx hb dX7_unkept_9 (by decide) (fun q2 => ?_) (fun q2 => ?_)
  · replace hf := if_t q2 hf
    refine lv_aload_n (pc := 18) hx hb dX7_unkept_18 rfl (lv_at hl 1 rfl) ?_
    refine zk_gt (pc := 19) C hw zl_X7_55 0 rfl rfl dX7_unkept_19 ?_
    refine lv_aload_n (pc := 22) hx hb dX7_unkept_22 rfl (lv_at hl 1 rfl) ?_
    refine zk_gt (pc := 23) C hw zl_X7_73 0 rfl rfl dX7_unkept_23 ?_
    refine lv_iload_n (pc := 26) hx hb dX7_unkept_26 rfl (lv_at hl 3 rfl) ?_
    refine lv_aload_n (pc := 27) hx hb dX7_unkept_27 rfl (lv_at hl 1 rfl) ?_
    refine zk_gt (pc := 28) C hw zl_X7_10 0 rfl rfl dX7_unkept_28 ?_
    refine lv_aload_n (pc := 31) hx hb dX7_unkept_31 rfl (lv_at hl 1 rfl) ?_
    refine zk_gt (pc := 32) C hw zl_X7_28 0 rfl rfl dX7_unkept_32 ?_
    obtain ⟨u3, u3e, hf⟩ := bd hf
    refine zk_cV (pc := 35) (ci := 6) (q0 := 19) (rest := []) (st1 := []) (w' := [xU L b_seedNow b_keptSeed b_isKept, xTe ((L 1)) b_now, xSt ((L 5)) ((L 6)) ((L 7)) ((L 8)) ((L 9)) b_staff.1, xI cy ((L 6)) 8 b_staff.2.1, xI cy ((L 7)) 8 b_staff.2.2.1, xI cy ((L 8)) 8 b_staff.2.2.2.1, xI cy ((L 9)) 8 b_staff.2.2.2.2, xSh ((L 20)) ((L 21)) ((L 22)) ((L 23)), xI cy ((L 21)) 8 b_shelves.1, xI cy ((L 22)) 8 b_shelves.2.1, xRJ cy ((L 23)) 8 (fun j => [some ((L 24)), some ((L 25)), some ((L 26)), some ((L 27)), some ((L 28)), some ((L 29)), some ((L 30)), some ((L 31))].getD j none), xJ cy ((L 24)) 40 ((b_shelves.2.2 0)), xJ cy ((L 25)) 40 ((b_shelves.2.2 1)), xJ cy ((L 26)) 40 ((b_shelves.2.2 2)), xJ cy ((L 27)) 40 ((b_shelves.2.2 3)), xJ cy ((L 28)) 40 ((b_shelves.2.2 4)), xJ cy ((L 29)) 40 ((b_shelves.2.2 5)), xJ cy ((L 30)) 40 ((b_shelves.2.2 6)), xJ cy ((L 31)) 40 ((b_shelves.2.2 7)), xWa ((L 34)) ((L 35)) u3.2.1 u3.2.2.1 u3.2.2.2.1 u3.2.2.2.2.1 u3.2.2.2.2.2.1 u3.2.2.2.2.2.2.1 u3.2.2.2.2.2.2.2.1 u3.2.2.2.2.2.2.2.2, xTe ((L 35)) u3.1, xI cy ((L 46)) 48 u1.2, xI cy ((L 48)) 5 b_refusals]) (mk := [none, none, none, none, none, none, none, none, none, none, none, none, none, none, none, none, none, none, none, some (xWa ((L 34)) ((L 35)) u3.2.1 u3.2.2.1 u3.2.2.2.1 u3.2.2.2.2.1 u3.2.2.2.2.2.1 u3.2.2.2.2.2.2.1 u3.2.2.2.2.2.2.2.1 u3.2.2.2.2.2.2.2.2), some (xTe ((L 35)) u3.1), none, none]) C hw (c_X6_along l G cy tt ((L 34)) ((L 35)) ((L 46)) ((L 1)) ((L 5)) ((L 6)) ((L 7)) ((L 8)) ((L 9)) x2 b_walk u1.2 b_now b_staff _ u3e) zy_X6_along zm_X7_246 rfl rfl rfl [19, 20, 21, 1, 2, 3, 4, 5, 6] rfl rfl rfl rfl rfl rfl rfl rfl hl.1 ⟨rfl, rfl⟩ ⟨Nat.le_of_ble_eq_true rfl, Nat.le_of_ble_eq_true rfl⟩ rfl (Nat.le_of_ble_eq_true rfl) ⟨Nat.zero_le _, Nat.zero_le _⟩ dX7_unkept_35 (fun H locs hw => ?_)
    refine lv_aload_n (pc := 38) hx hb dX7_unkept_38 rfl (lv_at hl 1 rfl) ?_
    refine zk_gt (pc := 39) C hw zl_X7_55 0 rfl rfl dX7_unkept_39 ?_
    refine zk_gt (pc := 42) C hw zl_X7_259 19 rfl rfl dX7_unkept_42 ?_
    have hf := Option.some.inj hf
    subst hf
    exact zk_reti (pc := 45) (ww := [xU L b_seedNow b_keptSeed b_isKept, xTe ((L 1)) b_now, xSt ((L 5)) ((L 6)) ((L 7)) ((L 8)) ((L 9)) b_staff.1, xI cy ((L 6)) 8 b_staff.2.1, xI cy ((L 7)) 8 b_staff.2.2.1, xI cy ((L 8)) 8 b_staff.2.2.2.1, xI cy ((L 9)) 8 b_staff.2.2.2.2, xSh ((L 20)) ((L 21)) ((L 22)) ((L 23)), xI cy ((L 21)) 8 b_shelves.1, xI cy ((L 22)) 8 b_shelves.2.1, xRJ cy ((L 23)) 8 (fun j => [some ((L 24)), some ((L 25)), some ((L 26)), some ((L 27)), some ((L 28)), some ((L 29)), some ((L 30)), some ((L 31))].getD j none), xJ cy ((L 24)) 40 ((b_shelves.2.2 0)), xJ cy ((L 25)) 40 ((b_shelves.2.2 1)), xJ cy ((L 26)) 40 ((b_shelves.2.2 2)), xJ cy ((L 27)) 40 ((b_shelves.2.2 3)), xJ cy ((L 28)) 40 ((b_shelves.2.2 4)), xJ cy ((L 29)) 40 ((b_shelves.2.2 5)), xJ cy ((L 30)) 40 ((b_shelves.2.2 6)), xJ cy ((L 31)) 40 ((b_shelves.2.2 7)), xWa ((L 34)) ((L 35)) u3.2.1 u3.2.2.1 u3.2.2.2.1 u3.2.2.2.2.1 u3.2.2.2.2.2.1 u3.2.2.2.2.2.2.1 u3.2.2.2.2.2.2.2.1 u3.2.2.2.2.2.2.2.2, xTe ((L 35)) u3.1, xI cy ((L 46)) 48 u1.2, xI cy ((L 48)) 5 b_refusals]) C hw hr hQ dX7_unkept_45
  · replace hf := if_f q2 hf
    refine lv_aload_n (pc := 12) hx hb dX7_unkept_12 rfl (lv_at hl 1 rfl) ?_
    refine lv_iload_n (pc := 13) hx hb dX7_unkept_13 rfl (lv_at hl 0 rfl) ?_
    obtain ⟨u4, u4e, hf⟩ := bd hf
    refine zk_cV (pc := 14) (ci := 7) (q0 := 0) (rest := []) (st1 := [.int u4.1]) (w' := [xU L b_seedNow b_keptSeed b_isKept, xTe ((L 1)) b_now, xSt ((L 5)) ((L 6)) ((L 7)) ((L 8)) ((L 9)) b_staff.1, xI cy ((L 6)) 8 b_staff.2.1, xI cy ((L 7)) 8 b_staff.2.2.1, xI cy ((L 8)) 8 b_staff.2.2.2.1, xI cy ((L 9)) 8 b_staff.2.2.2.2, xSh ((L 20)) ((L 21)) ((L 22)) ((L 23)), xI cy ((L 21)) 8 b_shelves.1, xI cy ((L 22)) 8 b_shelves.2.1, xRJ cy ((L 23)) 8 (fun j => [some ((L 24)), some ((L 25)), some ((L 26)), some ((L 27)), some ((L 28)), some ((L 29)), some ((L 30)), some ((L 31))].getD j none), xJ cy ((L 24)) 40 ((b_shelves.2.2 0)), xJ cy ((L 25)) 40 ((b_shelves.2.2 1)), xJ cy ((L 26)) 40 ((b_shelves.2.2 2)), xJ cy ((L 27)) 40 ((b_shelves.2.2 3)), xJ cy ((L 28)) 40 ((b_shelves.2.2 4)), xJ cy ((L 29)) 40 ((b_shelves.2.2 5)), xJ cy ((L 30)) 40 ((b_shelves.2.2 6)), xJ cy ((L 31)) 40 ((b_shelves.2.2 7)), xWa ((L 34)) ((L 35)) b_walk.2.1 b_walk.2.2.1 b_walk.2.2.2.1 b_walk.2.2.2.2.1 b_walk.2.2.2.2.2.1 b_walk.2.2.2.2.2.2.1 b_walk.2.2.2.2.2.2.2.1 b_walk.2.2.2.2.2.2.2.2, xTe ((L 35)) b_walk.1, xI cy ((L 46)) 48 u1.2, xI cy ((L 48)) 5 u4.2]) (mk := [none, none, none, none, none, none, none, none, none, none, none, none, none, none, none, none, none, none, none, none, none, none, some (xI cy ((L 48)) 5 u4.2)]) C hw (c_X7_refused l G cy tt L b_seedNow b_keptSeed b_isKept u1.1 b_refusals _ u4e) zy_X7_refused zm_X7_103 rfl rfl rfl [0, 22] rfl rfl rfl rfl rfl rfl rfl rfl hl.1 ⟨rfl, rfl⟩ ⟨Nat.le_of_ble_eq_true rfl, Nat.le_of_ble_eq_true rfl⟩ rfl (Nat.le_of_ble_eq_true rfl) ⟨Nat.zero_le _, Nat.zero_le _⟩ dX7_unkept_14 (fun H locs hw => ?_)
    have hf := Option.some.inj hf
    subst hf
    exact zk_reti (pc := 17) (ww := [xU L b_seedNow b_keptSeed b_isKept, xTe ((L 1)) b_now, xSt ((L 5)) ((L 6)) ((L 7)) ((L 8)) ((L 9)) b_staff.1, xI cy ((L 6)) 8 b_staff.2.1, xI cy ((L 7)) 8 b_staff.2.2.1, xI cy ((L 8)) 8 b_staff.2.2.2.1, xI cy ((L 9)) 8 b_staff.2.2.2.2, xSh ((L 20)) ((L 21)) ((L 22)) ((L 23)), xI cy ((L 21)) 8 b_shelves.1, xI cy ((L 22)) 8 b_shelves.2.1, xRJ cy ((L 23)) 8 (fun j => [some ((L 24)), some ((L 25)), some ((L 26)), some ((L 27)), some ((L 28)), some ((L 29)), some ((L 30)), some ((L 31))].getD j none), xJ cy ((L 24)) 40 ((b_shelves.2.2 0)), xJ cy ((L 25)) 40 ((b_shelves.2.2 1)), xJ cy ((L 26)) 40 ((b_shelves.2.2 2)), xJ cy ((L 27)) 40 ((b_shelves.2.2 3)), xJ cy ((L 28)) 40 ((b_shelves.2.2 4)), xJ cy ((L 29)) 40 ((b_shelves.2.2 5)), xJ cy ((L 30)) 40 ((b_shelves.2.2 6)), xJ cy ((L 31)) 40 ((b_shelves.2.2 7)), xWa ((L 34)) ((L 35)) b_walk.2.1 b_walk.2.2.1 b_walk.2.2.2.1 b_walk.2.2.2.2.1 b_walk.2.2.2.2.2.1 b_walk.2.2.2.2.2.2.1 b_walk.2.2.2.2.2.2.2.1 b_walk.2.2.2.2.2.2.2.2, xTe ((L 35)) b_walk.1, xI cy ((L 46)) 48 u1.2, xI cy ((L 48)) 5 u4.2]) C hw hr hQ dX7_unkept_17
def zf_X7_judge (x1 : Int32) (x2 : Int32) (b_staff : TSt) (b_shelves : TSh) (b_refusals : Nat → Int32) : Option (Int32 × (Nat → Int32)) := (Option.bind (zf_X7_elementsFault x1 x2 (((40 : Int32))) (((1 : Int32))) true b_shelves) (fun u1 => (if u1 = 0 then (Option.bind (zf_X7_wrongPlace x1 x2 b_staff b_shelves) (fun u3 => some (u3, b_refusals))) else (Option.bind (zf_X7_refused u1 b_refusals) (fun u4 => some (u4.1, u4.2))))))
abbrev zr_X7_judge : Room := { frames := 5, cells := 0, slots := 0, locals := 110 }
set_option maxHeartbeats 4000000 in
set_option maxRecDepth 100000 in
theorem c_X7_judge (l : Launch) (G : va_G) (cy : Nat → ClassId) (tt : Nat → Nat) (L : Nat → Nat) (b_seedNow : Int32) (b_keptSeed : Int32) (b_isKept : Bool) (x1 : Int32) (x2 : Int32) (b_staff : TSt) (b_shelves : TSh) (b_refusals : Nat → Int32) (res : Int32 × (Nat → Int32)) (hf : zf_X7_judge x1 x2 b_staff b_shelves b_refusals = some res) : zCT l yX7_judge cX7_judge 4 (some .int) zr_X7_judge G cy tt [.ref ((L 0)), .int x1, .int x2] [xU L b_seedNow b_keptSeed b_isKept, xSt ((L 5)) ((L 6)) ((L 7)) ((L 8)) ((L 9)) b_staff.1, xI cy ((L 6)) 8 b_staff.2.1, xI cy ((L 7)) 8 b_staff.2.2.1, xI cy ((L 8)) 8 b_staff.2.2.2.1, xI cy ((L 9)) 8 b_staff.2.2.2.2, xSh ((L 20)) ((L 21)) ((L 22)) ((L 23)), xI cy ((L 21)) 8 b_shelves.1, xI cy ((L 22)) 8 b_shelves.2.1, xRJ cy ((L 23)) 8 (fun j => [some ((L 24)), some ((L 25)), some ((L 26)), some ((L 27)), some ((L 28)), some ((L 29)), some ((L 30)), some ((L 31))].getD j none), xJ cy ((L 24)) 40 ((b_shelves.2.2 0)), xJ cy ((L 25)) 40 ((b_shelves.2.2 1)), xJ cy ((L 26)) 40 ((b_shelves.2.2 2)), xJ cy ((L 27)) 40 ((b_shelves.2.2 3)), xJ cy ((L 28)) 40 ((b_shelves.2.2 4)), xJ cy ((L 29)) 40 ((b_shelves.2.2 5)), xJ cy ((L 30)) 40 ((b_shelves.2.2 6)), xJ cy ((L 31)) 40 ((b_shelves.2.2 7)), xI cy ((L 48)) 5 b_refusals] (some (.int res.1)) [xU L b_seedNow b_keptSeed b_isKept, xSt ((L 5)) ((L 6)) ((L 7)) ((L 8)) ((L 9)) b_staff.1, xI cy ((L 6)) 8 b_staff.2.1, xI cy ((L 7)) 8 b_staff.2.2.1, xI cy ((L 8)) 8 b_staff.2.2.2.1, xI cy ((L 9)) 8 b_staff.2.2.2.2, xSh ((L 20)) ((L 21)) ((L 22)) ((L 23)), xI cy ((L 21)) 8 b_shelves.1, xI cy ((L 22)) 8 b_shelves.2.1, xRJ cy ((L 23)) 8 (fun j => [some ((L 24)), some ((L 25)), some ((L 26)), some ((L 27)), some ((L 28)), some ((L 29)), some ((L 30)), some ((L 31))].getD j none), xJ cy ((L 24)) 40 ((b_shelves.2.2 0)), xJ cy ((L 25)) 40 ((b_shelves.2.2 1)), xJ cy ((L 26)) 40 ((b_shelves.2.2 2)), xJ cy ((L 27)) 40 ((b_shelves.2.2 3)), xJ cy ((L 28)) 40 ((b_shelves.2.2 4)), xJ cy ((L 29)) 40 ((b_shelves.2.2 5)), xJ cy ((L 30)) 40 ((b_shelves.2.2 6)), xJ cy ((L 31)) 40 ((b_shelves.2.2 7)), xI cy ((L 48)) 5 res.2] := by
  refine zk_start zn_X7 (Nat.le_of_ble_eq_true rfl) ?_
  intro p e s m args below meth c A ls Q C hr hQ hw hl
  have C : zCx p m c s args meth cX7_judge 4 RX7 G cy tt A := C
  have hx := C.1.1
  have hb := C.1.2.1
  have hl : lv_has ls 4 [(0, .ref ((L 0))), (1, .int x1), (2, .int x2)] := hl
  rw [zf_X7_judge] at hf
  refine lv_aload_n (pc := 0) hx hb dX7_judge_0 rfl (lv_at hl 0 rfl) ?_
  refine lv_iload_n (pc := 1) hx hb dX7_judge_1 rfl (lv_at hl 1 rfl) ?_
  refine lv_iload_n (pc := 2) hx hb dX7_judge_2 rfl (lv_at hl 2 rfl) ?_
  refine lv_bipush (pc := 3) (v := 40) hx hb dX7_judge_3 (by decide) ?_
  refine lv_iconst (pc := 5) (v := 1) hx hb dX7_judge_5 (by decide) ?_
  refine lv_iconst (pc := 6) (v := 1) hx hb dX7_judge_6 (by decide) ?_
  obtain ⟨u1, u1e, hf⟩ := bd hf
  refine zk_cV (pc := 7) (ci := 7) (q0 := 0) (rest := []) (st1 := [.int u1]) (w' := [xU L b_seedNow b_keptSeed b_isKept, xSt ((L 5)) ((L 6)) ((L 7)) ((L 8)) ((L 9)) b_staff.1, xI cy ((L 6)) 8 b_staff.2.1, xI cy ((L 7)) 8 b_staff.2.2.1, xI cy ((L 8)) 8 b_staff.2.2.2.1, xI cy ((L 9)) 8 b_staff.2.2.2.2, xSh ((L 20)) ((L 21)) ((L 22)) ((L 23)), xI cy ((L 21)) 8 b_shelves.1, xI cy ((L 22)) 8 b_shelves.2.1, xRJ cy ((L 23)) 8 (fun j => [some ((L 24)), some ((L 25)), some ((L 26)), some ((L 27)), some ((L 28)), some ((L 29)), some ((L 30)), some ((L 31))].getD j none), xJ cy ((L 24)) 40 ((b_shelves.2.2 0)), xJ cy ((L 25)) 40 ((b_shelves.2.2 1)), xJ cy ((L 26)) 40 ((b_shelves.2.2 2)), xJ cy ((L 27)) 40 ((b_shelves.2.2 3)), xJ cy ((L 28)) 40 ((b_shelves.2.2 4)), xJ cy ((L 29)) 40 ((b_shelves.2.2 5)), xJ cy ((L 30)) 40 ((b_shelves.2.2 6)), xJ cy ((L 31)) 40 ((b_shelves.2.2 7)), xI cy ((L 48)) 5 b_refusals]) (mk := [none, none, none, none, none, none, none, none, none, none, none, none, none, none, none, none, none, none, none]) C hw (c_X7_elementsFault l G cy tt L b_seedNow b_keptSeed b_isKept x1 x2 (((40 : Int32))) (((1 : Int32))) true b_shelves _ u1e) zy_X7_elementsFault zm_X7_262 rfl rfl rfl [0, 6, 7, 8, 9, 10, 11, 12, 13, 14, 15, 16, 17] rfl rfl rfl rfl rfl rfl rfl rfl hl.1 ⟨rfl, rfl⟩ ⟨Nat.le_of_ble_eq_true rfl, Nat.le_of_ble_eq_true rfl⟩ rfl (Nat.le_of_ble_eq_true rfl) ⟨Nat.zero_le _, Nat.zero_le _⟩ dX7_judge_7 (fun H locs hw => ?_)
  refine lv_istore_n (pc := 10) (lv' := [(3, .int u1), (0, .ref ((L 0))), (1, .int x1), (2, .int x2)]) hx hb dX7_judge_10 rfl hl (by decide) rfl (fun ls hl => ?_)
  refine lv_iload_n (pc := 11) hx hb dX7_judge_11 rfl (lv_at hl 0 rfl) ?_
  refine lv_if_eq (pc := 12) (tgt := 21) hx hb dX7_judge_12 (by decide) (fun q2 => ?_) (fun q2 => ?_)
  · replace hf := if_t q2 hf
    refine lv_aload_n (pc := 21) hx hb dX7_judge_21 rfl (lv_at hl 1 rfl) ?_
    refine lv_iload_n (pc := 22) hx hb dX7_judge_22 rfl (lv_at hl 2 rfl) ?_
    refine lv_iload_n (pc := 23) hx hb dX7_judge_23 rfl (lv_at hl 3 rfl) ?_
    obtain ⟨u3, u3e, hf⟩ := bd hf
    refine zk_cV (pc := 24) (ci := 7) (q0 := 0) (rest := []) (st1 := [.int u3]) (w' := [xU L b_seedNow b_keptSeed b_isKept, xSt ((L 5)) ((L 6)) ((L 7)) ((L 8)) ((L 9)) b_staff.1, xI cy ((L 6)) 8 b_staff.2.1, xI cy ((L 7)) 8 b_staff.2.2.1, xI cy ((L 8)) 8 b_staff.2.2.2.1, xI cy ((L 9)) 8 b_staff.2.2.2.2, xSh ((L 20)) ((L 21)) ((L 22)) ((L 23)), xI cy ((L 21)) 8 b_shelves.1, xI cy ((L 22)) 8 b_shelves.2.1, xRJ cy ((L 23)) 8 (fun j => [some ((L 24)), some ((L 25)), some ((L 26)), some ((L 27)), some ((L 28)), some ((L 29)), some ((L 30)), some ((L 31))].getD j none), xJ cy ((L 24)) 40 ((b_shelves.2.2 0)), xJ cy ((L 25)) 40 ((b_shelves.2.2 1)), xJ cy ((L 26)) 40 ((b_shelves.2.2 2)), xJ cy ((L 27)) 40 ((b_shelves.2.2 3)), xJ cy ((L 28)) 40 ((b_shelves.2.2 4)), xJ cy ((L 29)) 40 ((b_shelves.2.2 5)), xJ cy ((L 30)) 40 ((b_shelves.2.2 6)), xJ cy ((L 31)) 40 ((b_shelves.2.2 7)), xI cy ((L 48)) 5 b_refusals]) (mk := [none, none, none, none, none, none, none, none, none, none, none, none, none, none, none, none, none, none, none]) C hw (c_X7_wrongPlace l G cy tt L b_seedNow b_keptSeed b_isKept x1 x2 b_staff b_shelves _ u3e) zy_X7_wrongPlace zm_X7_266 rfl rfl rfl [0, 1, 2, 3, 4, 5, 6, 7, 8, 9, 10, 11, 12, 13, 14, 15, 16, 17] rfl rfl rfl rfl rfl rfl rfl rfl hl.1 ⟨rfl, rfl⟩ ⟨Nat.le_of_ble_eq_true rfl, Nat.le_of_ble_eq_true rfl⟩ rfl (Nat.le_of_ble_eq_true rfl) ⟨Nat.zero_le _, Nat.zero_le _⟩ dX7_judge_24 (fun H locs hw => ?_)
    have hf := Option.some.inj hf
    subst hf
    exact zk_reti (pc := 27) (ww := [xU L b_seedNow b_keptSeed b_isKept, xSt ((L 5)) ((L 6)) ((L 7)) ((L 8)) ((L 9)) b_staff.1, xI cy ((L 6)) 8 b_staff.2.1, xI cy ((L 7)) 8 b_staff.2.2.1, xI cy ((L 8)) 8 b_staff.2.2.2.1, xI cy ((L 9)) 8 b_staff.2.2.2.2, xSh ((L 20)) ((L 21)) ((L 22)) ((L 23)), xI cy ((L 21)) 8 b_shelves.1, xI cy ((L 22)) 8 b_shelves.2.1, xRJ cy ((L 23)) 8 (fun j => [some ((L 24)), some ((L 25)), some ((L 26)), some ((L 27)), some ((L 28)), some ((L 29)), some ((L 30)), some ((L 31))].getD j none), xJ cy ((L 24)) 40 ((b_shelves.2.2 0)), xJ cy ((L 25)) 40 ((b_shelves.2.2 1)), xJ cy ((L 26)) 40 ((b_shelves.2.2 2)), xJ cy ((L 27)) 40 ((b_shelves.2.2 3)), xJ cy ((L 28)) 40 ((b_shelves.2.2 4)), xJ cy ((L 29)) 40 ((b_shelves.2.2 5)), xJ cy ((L 30)) 40 ((b_shelves.2.2 6)), xJ cy ((L 31)) 40 ((b_shelves.2.2 7)), xI cy ((L 48)) 5 b_refusals]) C hw hr hQ dX7_judge_27
  · replace hf := if_f q2 hf
    refine lv_aload_n (pc := 15) hx hb dX7_judge_15 rfl (lv_at hl 1 rfl) ?_
    refine lv_iload_n (pc := 16) hx hb dX7_judge_16 rfl (lv_at hl 0 rfl) ?_
    obtain ⟨u4, u4e, hf⟩ := bd hf
    refine zk_cV (pc := 17) (ci := 7) (q0 := 0) (rest := []) (st1 := [.int u4.1]) (w' := [xU L b_seedNow b_keptSeed b_isKept, xSt ((L 5)) ((L 6)) ((L 7)) ((L 8)) ((L 9)) b_staff.1, xI cy ((L 6)) 8 b_staff.2.1, xI cy ((L 7)) 8 b_staff.2.2.1, xI cy ((L 8)) 8 b_staff.2.2.2.1, xI cy ((L 9)) 8 b_staff.2.2.2.2, xSh ((L 20)) ((L 21)) ((L 22)) ((L 23)), xI cy ((L 21)) 8 b_shelves.1, xI cy ((L 22)) 8 b_shelves.2.1, xRJ cy ((L 23)) 8 (fun j => [some ((L 24)), some ((L 25)), some ((L 26)), some ((L 27)), some ((L 28)), some ((L 29)), some ((L 30)), some ((L 31))].getD j none), xJ cy ((L 24)) 40 ((b_shelves.2.2 0)), xJ cy ((L 25)) 40 ((b_shelves.2.2 1)), xJ cy ((L 26)) 40 ((b_shelves.2.2 2)), xJ cy ((L 27)) 40 ((b_shelves.2.2 3)), xJ cy ((L 28)) 40 ((b_shelves.2.2 4)), xJ cy ((L 29)) 40 ((b_shelves.2.2 5)), xJ cy ((L 30)) 40 ((b_shelves.2.2 6)), xJ cy ((L 31)) 40 ((b_shelves.2.2 7)), xI cy ((L 48)) 5 u4.2]) (mk := [none, none, none, none, none, none, none, none, none, none, none, none, none, none, none, none, none, none, some (xI cy ((L 48)) 5 u4.2)]) C hw (c_X7_refused l G cy tt L b_seedNow b_keptSeed b_isKept u1 b_refusals _ u4e) zy_X7_refused zm_X7_103 rfl rfl rfl [0, 18] rfl rfl rfl rfl rfl rfl rfl rfl hl.1 ⟨rfl, rfl⟩ ⟨Nat.le_of_ble_eq_true rfl, Nat.le_of_ble_eq_true rfl⟩ rfl (Nat.le_of_ble_eq_true rfl) ⟨Nat.zero_le _, Nat.zero_le _⟩ dX7_judge_17 (fun H locs hw => ?_)
    have hf := Option.some.inj hf
    subst hf
    exact zk_reti (pc := 20) (ww := [xU L b_seedNow b_keptSeed b_isKept, xSt ((L 5)) ((L 6)) ((L 7)) ((L 8)) ((L 9)) b_staff.1, xI cy ((L 6)) 8 b_staff.2.1, xI cy ((L 7)) 8 b_staff.2.2.1, xI cy ((L 8)) 8 b_staff.2.2.2.1, xI cy ((L 9)) 8 b_staff.2.2.2.2, xSh ((L 20)) ((L 21)) ((L 22)) ((L 23)), xI cy ((L 21)) 8 b_shelves.1, xI cy ((L 22)) 8 b_shelves.2.1, xRJ cy ((L 23)) 8 (fun j => [some ((L 24)), some ((L 25)), some ((L 26)), some ((L 27)), some ((L 28)), some ((L 29)), some ((L 30)), some ((L 31))].getD j none), xJ cy ((L 24)) 40 ((b_shelves.2.2 0)), xJ cy ((L 25)) 40 ((b_shelves.2.2 1)), xJ cy ((L 26)) 40 ((b_shelves.2.2 2)), xJ cy ((L 27)) 40 ((b_shelves.2.2 3)), xJ cy ((L 28)) 40 ((b_shelves.2.2 4)), xJ cy ((L 29)) 40 ((b_shelves.2.2 5)), xJ cy ((L 30)) 40 ((b_shelves.2.2 6)), xJ cy ((L 31)) 40 ((b_shelves.2.2 7)), xI cy ((L 48)) 5 u4.2]) C hw hr hQ dX7_judge_20
def zf_X0_compare_l0_81 : Nat → Int32 → Int32 → TSe → Option (TSe)
  | 0, _, _, _ => none
  | n + 1, v1, v5, b_this => (if v1 ≤ v5 then some (b_this) else (if (4 : Int32) ≤ v5 then some (b_this) else (if ix v5 4 then (if ix v5 4 then zf_X0_compare_l0_81 n v1 ((v5 + 1)) ((b_this.1, b_this.2.1, b_this.2.2.1, b_this.2.2.2.1, (upd b_this.2.2.2.2.1 v5.toNatClampNeg ((b_this.2.2.2.1 v5.toNatClampNeg))), b_this.2.2.2.2.2)) else none) else none)))
def zf_X0_compare_l0_62 (v1 : Int32) (v2 : Int32) (v4 : Int32) (b_this : TSe) : Option (TSe) := zf_X0_compare_l0_81 FU v1 ((0 : Int32)) ((v2, v4, true, b_this.2.2.2.1, b_this.2.2.2.2.1, b_this.2.2.2.2.2))
def zf_X0_compare_l0_27 (v1 : Int32) (v2 : Int32) (t0 : Int32) (b_this : TSe) : Option (TSe) := (if b_this.2.2.1 then (if b_this.1 < v2 then some (b_this) else (if v2 = b_this.1 then (if t0 < b_this.2.1 then zf_X0_compare_l0_62 v1 v2 t0 b_this else some (b_this)) else zf_X0_compare_l0_62 v1 v2 t0 b_this)) else zf_X0_compare_l0_62 v1 v2 t0 b_this)
def zf_X0_compare_l0_25 (v1 : Int32) (v2 : Int32) (b_this : TSe) : Option (TSe) := zf_X0_compare_l0_27 v1 v2 ((99 : Int32)) b_this
def zf_X0_compare_l0 (x1 : Int32) (x2 : Int32) (b_this : TSe) : Option (TSe) := (if (0 : Int32) < 0 then zf_X0_compare_l0_25 x1 x2 b_this else (if (5 : Int32) ≤ (0 : Int32) then zf_X0_compare_l0_25 x1 x2 b_this else zf_X0_compare_l0_27 x1 x2 (((b_this.2.2.2.2.2 0)).1) b_this))
abbrev zr_X0_compare_l0 : Room := { frames := 0, cells := 0, slots := 0, locals := 0 }
set_option maxHeartbeats 4000000 in
set_option maxRecDepth 100000 in
theorem c_X0_compare_l0 (l : Launch) (G : va_G) (cy : Nat → ClassId) (tt : Nat → Nat) (a0 a1 a2 a3 a4 a5 a6 a7 a8 : Nat) (x1 : Int32) (x2 : Int32) (b_this : TSe) (res : TSe) (hf : zf_X0_compare_l0 x1 x2 b_this = some res) : zCT l yX0_compare cX0_compare 6 none zr_X0_compare_l0 G cy tt [.ref a0, .int x1, .int x2, .int ((0 : Int32))] [xSe a0 a1 a2 a3 b_this.1 b_this.2.1 b_this.2.2.1, xI cy a1 4 b_this.2.2.2.1, xI cy a2 4 b_this.2.2.2.2.1, xRT cy a3 5 (fun j => [some a4, some a5, some a6, some a7, some a8].getD j none), xTe a4 ((b_this.2.2.2.2.2 0)), xTe a5 ((b_this.2.2.2.2.2 1)), xTe a6 ((b_this.2.2.2.2.2 2)), xTe a7 ((b_this.2.2.2.2.2 3)), xTe a8 ((b_this.2.2.2.2.2 4))] none [xSe a0 a1 a2 a3 res.1 res.2.1 res.2.2.1, xI cy a1 4 res.2.2.2.1, xI cy a2 4 res.2.2.2.2.1, xRT cy a3 5 (fun j => [some a4, some a5, some a6, some a7, some a8].getD j none), xTe a4 ((res.2.2.2.2.2 0)), xTe a5 ((res.2.2.2.2.2 1)), xTe a6 ((res.2.2.2.2.2 2)), xTe a7 ((res.2.2.2.2.2 3)), xTe a8 ((res.2.2.2.2.2 4))] := by
  refine zk_start zn_X0 (Nat.le_of_ble_eq_true rfl) ?_
  intro p e s m args below meth c A ls Q C hr hQ hw hl
  have C : zCx p m c s args meth cX0_compare 6 RX0 G cy tt A := C
  have hx := C.1.1
  have hb := C.1.2.1
  have hl : lv_has ls 6 [(0, .ref a0), (1, .int x1), (2, .int x2), (3, .int ((0 : Int32)))] := hl
  have J81 : ∀ (n : Nat), ∀ (v1 : Int32) (v5 : Int32) (b_this : TSe) (H : Heap) (locs : List Loc) (ls : Array Slot), zf_X0_compare_l0_81 n v1 v5 b_this = some res → zWd G A s.heap H locs [xSe a0 a1 a2 a3 b_this.1 b_this.2.1 b_this.2.2.1, xI cy a1 4 b_this.2.2.2.1, xI cy a2 4 b_this.2.2.2.2.1, xRT cy a3 5 (fun j => [some a4, some a5, some a6, some a7, some a8].getD j none), xTe a4 ((b_this.2.2.2.2.2 0)), xTe a5 ((b_this.2.2.2.2.2 1)), xTe a6 ((b_this.2.2.2.2.2 2)), xTe a7 ((b_this.2.2.2.2.2 3)), xTe a8 ((b_this.2.2.2.2.2 4))] → lv_has ls 6 [(0, .ref a0), (1, .int v1), (5, .int v5)] → W p l e zr_X0_compare_l0 s m args below meth c H locs 0 0 Q (F0 m 81 ls []) := by
    intro n
    induction n with
    | zero =>
      intro v1 v5 b_this H locs ls hf hw hl
      rw [zf_X0_compare_l0_81] at hf
      cases hf
    | succ n ih =>
      intro v1 v5 b_this H locs ls hf hw hl
      rw [zf_X0_compare_l0_81] at hf
      refine lv_iload (pc := 81) hx hb dX0_compare_81 (lv_at hl 2 rfl) ?_
      refine lv_iload_n (pc := 83) hx hb dX0_compare_83 rfl (lv_at hl 1 rfl) ?_
      refine lv_icmp_ge (pc := 84) (tgt := 113) hx hb dX0_compare_84 (by decide) (fun q7 => ?_) (fun q7 => ?_)
      · replace hf := if_t q7 hf
        have hf := Option.some.inj hf
        subst hf
        exact zk_retv (pc := 113) (ww := [xSe a0 a1 a2 a3 b_this.1 b_this.2.1 b_this.2.2.1, xI cy a1 4 b_this.2.2.2.1, xI cy a2 4 b_this.2.2.2.2.1, xRT cy a3 5 (fun j => [some a4, some a5, some a6, some a7, some a8].getD j none), xTe a4 ((b_this.2.2.2.2.2 0)), xTe a5 ((b_this.2.2.2.2.2 1)), xTe a6 ((b_this.2.2.2.2.2 2)), xTe a7 ((b_this.2.2.2.2.2 3)), xTe a8 ((b_this.2.2.2.2.2 4))]) C hw hr hQ dX0_compare_113
      · replace hf := if_f q7 hf
        refine lv_iload (pc := 87) hx hb dX0_compare_87 (lv_at hl 2 rfl) ?_
        refine lv_iconst (pc := 89) (v := 4) hx hb dX0_compare_89 (by decide) ?_
        refine lv_icmp_ge (pc := 90) (tgt := 113) hx hb dX0_compare_90 (by decide) (fun q8 => ?_) (fun q8 => ?_)
        · replace hf := if_t q8 hf
          have hf := Option.some.inj hf
          subst hf
          exact zk_retv (pc := 113) (ww := [xSe a0 a1 a2 a3 b_this.1 b_this.2.1 b_this.2.2.1, xI cy a1 4 b_this.2.2.2.1, xI cy a2 4 b_this.2.2.2.2.1, xRT cy a3 5 (fun j => [some a4, some a5, some a6, some a7, some a8].getD j none), xTe a4 ((b_this.2.2.2.2.2 0)), xTe a5 ((b_this.2.2.2.2.2 1)), xTe a6 ((b_this.2.2.2.2.2 2)), xTe a7 ((b_this.2.2.2.2.2 3)), xTe a8 ((b_this.2.2.2.2.2 4))]) C hw hr hQ dX0_compare_113
        · replace hf := if_f q8 hf
          refine lv_aload_n (pc := 93) hx hb dX0_compare_93 rfl (lv_at hl 0 rfl) ?_
          refine zk_gt (pc := 94) C hw zl_X0_26 0 rfl rfl dX0_compare_94 ?_
          refine lv_iload (pc := 97) hx hb dX0_compare_97 (lv_at hl 2 rfl) ?_
          refine lv_aload_n (pc := 99) hx hb dX0_compare_99 rfl (lv_at hl 0 rfl) ?_
          refine zk_gt (pc := 100) C hw zl_X0_22 0 rfl rfl dX0_compare_100 ?_
          refine lv_iload (pc := 103) hx hb dX0_compare_103 (lv_at hl 2 rfl) ?_
          obtain ⟨q9, hf⟩ := ck hf
          refine zk_iald (pc := 105) C hw 1 rfl q9 dX0_compare_105 ?_
          obtain ⟨q10, hf⟩ := ck hf
          refine zk_iast (pc := 106) (w' := [xSe a0 a1 a2 a3 b_this.1 b_this.2.1 b_this.2.2.1, xI cy a1 4 b_this.2.2.2.1, xI cy a2 4 ((upd b_this.2.2.2.2.1 v5.toNatClampNeg ((b_this.2.2.2.1 v5.toNatClampNeg)))), xRT cy a3 5 (fun j => [some a4, some a5, some a6, some a7, some a8].getD j none), xTe a4 ((b_this.2.2.2.2.2 0)), xTe a5 ((b_this.2.2.2.2.2 1)), xTe a6 ((b_this.2.2.2.2.2 2)), xTe a7 ((b_this.2.2.2.2.2 3)), xTe a8 ((b_this.2.2.2.2.2 4))]) C hw 2 rfl q10 rfl dX0_compare_106 (fun H locs hw => ?_)
          refine lv_iinc (pc := 107) (v := (v5 + 1)) (lv' := [(5, .int ((v5 + 1))), (0, .ref a0), (1, .int v1)]) hx hb dX0_compare_107 hl (k := 2) rfl rfl (by decide) rfl (fun ls hl => ?_)
          refine lv_goto (pc := 110) (tgt := 81) hx hb dX0_compare_110 (by decide) ?_
          exact ih v1 ((v5 + 1)) ((b_this.1, b_this.2.1, b_this.2.2.1, b_this.2.2.2.1, (upd b_this.2.2.2.2.1 v5.toNatClampNeg ((b_this.2.2.2.1 v5.toNatClampNeg))), b_this.2.2.2.2.2)) _ _ _ hf hw (lv_sub hl [1, 2, 0] rfl)
  have J62 : ∀ (v1 : Int32) (v2 : Int32) (v4 : Int32) (b_this : TSe) (H : Heap) (locs : List Loc) (ls : Array Slot), zf_X0_compare_l0_62 v1 v2 v4 b_this = some res → zWd G A s.heap H locs [xSe a0 a1 a2 a3 b_this.1 b_this.2.1 b_this.2.2.1, xI cy a1 4 b_this.2.2.2.1, xI cy a2 4 b_this.2.2.2.2.1, xRT cy a3 5 (fun j => [some a4, some a5, some a6, some a7, some a8].getD j none), xTe a4 ((b_this.2.2.2.2.2 0)), xTe a5 ((b_this.2.2.2.2.2 1)), xTe a6 ((b_this.2.2.2.2.2 2)), xTe a7 ((b_this.2.2.2.2.2 3)), xTe a8 ((b_this.2.2.2.2.2 4))] → lv_has ls 6 [(0, .ref a0), (1, .int v1), (2, .int v2), (4, .int v4)] → W p l e zr_X0_compare_l0 s m args below meth c H locs 0 0 Q (F0 m 62 ls []) := by
    intro v1 v2 v4 b_this H locs ls hf hw hl
    rw [zf_X0_compare_l0_62] at hf
    refine lv_aload_n (pc := 62) hx hb dX0_compare_62 rfl (lv_at hl 0 rfl) ?_
    refine lv_iconst (pc := 63) (v := 1) hx hb dX0_compare_63 (by decide) ?_
    refine zk_put (pc := 64) (v := .int (bI true)) (w' := [xSe a0 a1 a2 a3 b_this.1 b_this.2.1 true, xI cy a1 4 b_this.2.2.2.1, xI cy a2 4 b_this.2.2.2.2.1, xRT cy a3 5 (fun j => [some a4, some a5, some a6, some a7, some a8].getD j none), xTe a4 ((b_this.2.2.2.2.2 0)), xTe a5 ((b_this.2.2.2.2.2 1)), xTe a6 ((b_this.2.2.2.2.2 2)), xTe a7 ((b_this.2.2.2.2.2 3)), xTe a8 ((b_this.2.2.2.2.2 4))]) C hw zp_X0_18 0 rfl (bI_nar _) (bI_fit _) (Nat.le_of_ble_eq_true rfl) rfl dX0_compare_64 (fun H locs hw => ?_)
    refine lv_aload_n (pc := 67) hx hb dX0_compare_67 rfl (lv_at hl 0 rfl) ?_
    refine lv_iload_n (pc := 68) hx hb dX0_compare_68 rfl (lv_at hl 2 rfl) ?_
    refine zk_put (pc := 69) (w' := [xSe a0 a1 a2 a3 v2 b_this.2.1 true, xI cy a1 4 b_this.2.2.2.1, xI cy a2 4 b_this.2.2.2.2.1, xRT cy a3 5 (fun j => [some a4, some a5, some a6, some a7, some a8].getD j none), xTe a4 ((b_this.2.2.2.2.2 0)), xTe a5 ((b_this.2.2.2.2.2 1)), xTe a6 ((b_this.2.2.2.2.2 2)), xTe a7 ((b_this.2.2.2.2.2 3)), xTe a8 ((b_this.2.2.2.2.2 4))]) C hw zp_X0_9 0 rfl rfl rfl (Nat.le_of_ble_eq_true rfl) rfl dX0_compare_69 (fun H locs hw => ?_)
    refine lv_aload_n (pc := 72) hx hb dX0_compare_72 rfl (lv_at hl 0 rfl) ?_
    refine lv_iload (pc := 73) hx hb dX0_compare_73 (lv_at hl 3 rfl) ?_
    refine zk_put (pc := 75) (w' := [xSe a0 a1 a2 a3 v2 v4 true, xI cy a1 4 b_this.2.2.2.1, xI cy a2 4 b_this.2.2.2.2.1, xRT cy a3 5 (fun j => [some a4, some a5, some a6, some a7, some a8].getD j none), xTe a4 ((b_this.2.2.2.2.2 0)), xTe a5 ((b_this.2.2.2.2.2 1)), xTe a6 ((b_this.2.2.2.2.2 2)), xTe a7 ((b_this.2.2.2.2.2 3)), xTe a8 ((b_this.2.2.2.2.2 4))]) C hw zp_X0_15 0 rfl rfl rfl (Nat.le_of_ble_eq_true rfl) rfl dX0_compare_75 (fun H locs hw => ?_)
    refine lv_iconst (pc := 78) (v := 0) hx hb dX0_compare_78 (by decide) ?_
    refine lv_istore (pc := 79) (lv' := [(5, .int ((0 : Int32))), (0, .ref a0), (1, .int v1), (2, .int v2), (4, .int v4)]) hx hb dX0_compare_79 hl (by decide) rfl (fun ls hl => ?_)
    exact J81 FU v1 ((0 : Int32)) ((v2, v4, true, b_this.2.2.2.1, b_this.2.2.2.2.1, b_this.2.2.2.2.2)) _ _ _ hf hw (lv_sub hl [1, 2, 0] rfl)
  have J27 : ∀ (v1 : Int32) (v2 : Int32) (t0 : Int32) (b_this : TSe) (H : Heap) (locs : List Loc) (ls : Array Slot), zf_X0_compare_l0_27 v1 v2 t0 b_this = some res → zWd G A s.heap H locs [xSe a0 a1 a2 a3 b_this.1 b_this.2.1 b_this.2.2.1, xI cy a1 4 b_this.2.2.2.1, xI cy a2 4 b_this.2.2.2.2.1, xRT cy a3 5 (fun j => [some a4, some a5, some a6, some a7, some a8].getD j none), xTe a4 ((b_this.2.2.2.2.2 0)), xTe a5 ((b_this.2.2.2.2.2 1)), xTe a6 ((b_this.2.2.2.2.2 2)), xTe a7 ((b_this.2.2.2.2.2 3)), xTe a8 ((b_this.2.2.2.2.2 4))] → lv_has ls 6 [(0, .ref a0), (1, .int v1), (2, .int v2)] → W p l e zr_X0_compare_l0 s m args below meth c H locs 0 0 Q (F0 m 27 ls [.int t0]) := by
    intro v1 v2 t0 b_this H locs ls hf hw hl
    rw [zf_X0_compare_l0_27] at hf
    refine lv_istore (pc := 27) (lv' := [(4, .int t0), (0, .ref a0), (1, .int v1), (2, .int v2)]) hx hb dX0_compare_27 hl (by decide) rfl (fun ls hl => ?_)
    refine lv_aload_n (pc := 29) hx hb dX0_compare_29 rfl (lv_at hl 1 rfl) ?_
    refine zk_gt (pc := 30) C hw zl_X0_18 0 rfl rfl dX0_compare_30 ?_
    refine zk_ifz (pc := 33) (tgt := 62) hx hb dX0_compare_33 (by decide) (fun q3 => ?_) (fun q3 => ?_)
    · replace hf := if_f q3 hf
      exact J62 v1 v2 t0 b_this _ _ _ hf hw (lv_sub hl [1, 2, 3, 0] rfl)
    · replace hf := if_t q3 hf
      refine lv_iload_n (pc := 36) hx hb dX0_compare_36 rfl (lv_at hl 3 rfl) ?_
      refine lv_aload_n (pc := 37) hx hb dX0_compare_37 rfl (lv_at hl 1 rfl) ?_
      refine zk_gt (pc := 38) C hw zl_X0_9 0 rfl rfl dX0_compare_38 ?_
      refine lv_icmp_gt (pc := 41) (tgt := 61) hx hb dX0_compare_41 (by decide) (fun q4 => ?_) (fun q4 => ?_)
      · replace hf := if_t q4 hf
        have hf := Option.some.inj hf
        subst hf
        exact zk_retv (pc := 61) (ww := [xSe a0 a1 a2 a3 b_this.1 b_this.2.1 b_this.2.2.1, xI cy a1 4 b_this.2.2.2.1, xI cy a2 4 b_this.2.2.2.2.1, xRT cy a3 5 (fun j => [some a4, some a5, some a6, some a7, some a8].getD j none), xTe a4 ((b_this.2.2.2.2.2 0)), xTe a5 ((b_this.2.2.2.2.2 1)), xTe a6 ((b_this.2.2.2.2.2 2)), xTe a7 ((b_this.2.2.2.2.2 3)), xTe a8 ((b_this.2.2.2.2.2 4))]) C hw hr hQ dX0_compare_61
      · replace hf := if_f q4 hf
        refine lv_iload_n (pc := 44) hx hb dX0_compare_44 rfl (lv_at hl 3 rfl) ?_
        refine lv_aload_n (pc := 45) hx hb dX0_compare_45 rfl (lv_at hl 1 rfl) ?_
        refine zk_gt (pc := 46) C hw zl_X0_9 0 rfl rfl dX0_compare_46 ?_
        refine lv_icmp_ne (pc := 49) (tgt := 62) hx hb dX0_compare_49 (by decide) (fun q5 => ?_) (fun q5 => ?_)
        · replace hf := if_f q5 hf
          exact J62 v1 v2 t0 b_this _ _ _ hf hw (lv_sub hl [1, 2, 3, 0] rfl)
        · replace hf := if_t q5 hf
          refine lv_iload (pc := 52) hx hb dX0_compare_52 (lv_at hl 0 rfl) ?_
          refine lv_aload_n (pc := 54) hx hb dX0_compare_54 rfl (lv_at hl 1 rfl) ?_
          refine zk_gt (pc := 55) C hw zl_X0_15 0 rfl rfl dX0_compare_55 ?_
          refine lv_icmp_lt (pc := 58) (tgt := 62) hx hb dX0_compare_58 (by decide) (fun q6 => ?_) (fun q6 => ?_)
          · replace hf := if_t q6 hf
            exact J62 v1 v2 t0 b_this _ _ _ hf hw (lv_sub hl [1, 2, 3, 0] rfl)
          · replace hf := if_f q6 hf
            have hf := Option.some.inj hf
            subst hf
            exact zk_retv (pc := 61) (ww := [xSe a0 a1 a2 a3 b_this.1 b_this.2.1 b_this.2.2.1, xI cy a1 4 b_this.2.2.2.1, xI cy a2 4 b_this.2.2.2.2.1, xRT cy a3 5 (fun j => [some a4, some a5, some a6, some a7, some a8].getD j none), xTe a4 ((b_this.2.2.2.2.2 0)), xTe a5 ((b_this.2.2.2.2.2 1)), xTe a6 ((b_this.2.2.2.2.2 2)), xTe a7 ((b_this.2.2.2.2.2 3)), xTe a8 ((b_this.2.2.2.2.2 4))]) C hw hr hQ dX0_compare_61
  have J25 : ∀ (v1 : Int32) (v2 : Int32) (b_this : TSe) (H : Heap) (locs : List Loc) (ls : Array Slot), zf_X0_compare_l0_25 v1 v2 b_this = some res → zWd G A s.heap H locs [xSe a0 a1 a2 a3 b_this.1 b_this.2.1 b_this.2.2.1, xI cy a1 4 b_this.2.2.2.1, xI cy a2 4 b_this.2.2.2.2.1, xRT cy a3 5 (fun j => [some a4, some a5, some a6, some a7, some a8].getD j none), xTe a4 ((b_this.2.2.2.2.2 0)), xTe a5 ((b_this.2.2.2.2.2 1)), xTe a6 ((b_this.2.2.2.2.2 2)), xTe a7 ((b_this.2.2.2.2.2 3)), xTe a8 ((b_this.2.2.2.2.2 4))] → lv_has ls 6 [(0, .ref a0), (1, .int v1), (2, .int v2)] → W p l e zr_X0_compare_l0 s m args below meth c H locs 0 0 Q (F0 m 25 ls []) := by
    intro v1 v2 b_this H locs ls hf hw hl
    rw [zf_X0_compare_l0_25] at hf
    refine lv_bipush (pc := 25) (v := 99) hx hb dX0_compare_25 (by decide) ?_
    exact J27 v1 v2 ((99 : Int32)) b_this _ _ _ hf hw (lv_sub hl [0, 1, 2] rfl)
  rw [zf_X0_compare_l0] at hf
  refine lv_iload_n (pc := 0) hx hb dX0_compare_0 rfl (lv_at hl 3 rfl) ?_
  refine lv_if_lt (pc := 1) (tgt := 25) hx hb dX0_compare_1 (by decide) (fun q1 => ?_) (fun q1 => ?_)
  · replace hf := if_t q1 hf
    exact J25 x1 x2 b_this _ _ _ hf hw (lv_sub hl [0, 1, 2] rfl)
  · replace hf := if_f q1 hf
    refine lv_iload_n (pc := 4) hx hb dX0_compare_4 rfl (lv_at hl 3 rfl) ?_
    refine lv_aload_n (pc := 5) hx hb dX0_compare_5 rfl (lv_at hl 0 rfl) ?_
    refine zk_gt (pc := 6) C hw zl_X0_32 0 rfl rfl dX0_compare_6 ?_
    refine zk_alen (pc := 9) (v := 5) C hw 3 4 rfl rfl rfl dX0_compare_9 ?_
    refine lv_icmp_ge (pc := 10) (tgt := 25) hx hb dX0_compare_10 (by decide) (fun q2 => ?_) (fun q2 => ?_)
    · replace hf := if_t q2 hf
      exact J25 x1 x2 b_this _ _ _ hf hw (lv_sub hl [0, 1, 2] rfl)
    · replace hf := if_f q2 hf
      refine lv_aload_n (pc := 13) hx hb dX0_compare_13 rfl (lv_at hl 0 rfl) ?_
      refine zk_gt (pc := 14) C hw zl_X0_32 0 rfl rfl dX0_compare_14 ?_
      refine lv_iload_n (pc := 17) hx hb dX0_compare_17 rfl (lv_at hl 3 rfl) ?_
      refine zk_aaldT (pc := 18) (a' := a4) 0 (by decide) C hw 3 rfl (by decide) rfl dX0_compare_18 ?_
      refine zk_gt (pc := 19) C hw zl_X0_71 4 rfl rfl dX0_compare_19 ?_
      refine lv_goto (pc := 22) (tgt := 27) hx hb dX0_compare_22 (by decide) ?_
      exact J27 x1 x2 (((b_this.2.2.2.2.2 0)).1) b_this _ _ _ hf hw (lv_sub hl [0, 1, 2] rfl)
def zf_X0_compare_l1_81 : Nat → Int32 → Int32 → TSe → Option (TSe)
  | 0, _, _, _ => none
  | n + 1, v1, v5, b_this => (if v1 ≤ v5 then some (b_this) else (if (4 : Int32) ≤ v5 then some (b_this) else (if ix v5 4 then (if ix v5 4 then zf_X0_compare_l1_81 n v1 ((v5 + 1)) ((b_this.1, b_this.2.1, b_this.2.2.1, b_this.2.2.2.1, (upd b_this.2.2.2.2.1 v5.toNatClampNeg ((b_this.2.2.2.1 v5.toNatClampNeg))), b_this.2.2.2.2.2)) else none) else none)))
def zf_X0_compare_l1_62 (v1 : Int32) (v2 : Int32) (v4 : Int32) (b_this : TSe) : Option (TSe) := zf_X0_compare_l1_81 FU v1 ((0 : Int32)) ((v2, v4, true, b_this.2.2.2.1, b_this.2.2.2.2.1, b_this.2.2.2.2.2))
def zf_X0_compare_l1_27 (v1 : Int32) (v2 : Int32) (t0 : Int32) (b_this : TSe) : Option (TSe) := (if b_this.2.2.1 then (if b_this.1 < v2 then some (b_this) else (if v2 = b_this.1 then (if t0 < b_this.2.1 then zf_X0_compare_l1_62 v1 v2 t0 b_this else some (b_this)) else zf_X0_compare_l1_62 v1 v2 t0 b_this)) else zf_X0_compare_l1_62 v1 v2 t0 b_this)
def zf_X0_compare_l1_25 (v1 : Int32) (v2 : Int32) (b_this : TSe) : Option (TSe) := zf_X0_compare_l1_27 v1 v2 ((99 : Int32)) b_this
def zf_X0_compare_l1 (x1 : Int32) (x2 : Int32) (b_this : TSe) : Option (TSe) := (if (1 : Int32) < 0 then zf_X0_compare_l1_25 x1 x2 b_this else (if (5 : Int32) ≤ (1 : Int32) then zf_X0_compare_l1_25 x1 x2 b_this else zf_X0_compare_l1_27 x1 x2 (((b_this.2.2.2.2.2 1)).1) b_this))
abbrev zr_X0_compare_l1 : Room := { frames := 0, cells := 0, slots := 0, locals := 0 }
set_option maxHeartbeats 4000000 in
set_option maxRecDepth 100000 in
theorem c_X0_compare_l1 (l : Launch) (G : va_G) (cy : Nat → ClassId) (tt : Nat → Nat) (a0 a1 a2 a3 a4 a5 a6 a7 a8 : Nat) (x1 : Int32) (x2 : Int32) (b_this : TSe) (res : TSe) (hf : zf_X0_compare_l1 x1 x2 b_this = some res) : zCT l yX0_compare cX0_compare 6 none zr_X0_compare_l1 G cy tt [.ref a0, .int x1, .int x2, .int ((1 : Int32))] [xSe a0 a1 a2 a3 b_this.1 b_this.2.1 b_this.2.2.1, xI cy a1 4 b_this.2.2.2.1, xI cy a2 4 b_this.2.2.2.2.1, xRT cy a3 5 (fun j => [some a4, some a5, some a6, some a7, some a8].getD j none), xTe a4 ((b_this.2.2.2.2.2 0)), xTe a5 ((b_this.2.2.2.2.2 1)), xTe a6 ((b_this.2.2.2.2.2 2)), xTe a7 ((b_this.2.2.2.2.2 3)), xTe a8 ((b_this.2.2.2.2.2 4))] none [xSe a0 a1 a2 a3 res.1 res.2.1 res.2.2.1, xI cy a1 4 res.2.2.2.1, xI cy a2 4 res.2.2.2.2.1, xRT cy a3 5 (fun j => [some a4, some a5, some a6, some a7, some a8].getD j none), xTe a4 ((res.2.2.2.2.2 0)), xTe a5 ((res.2.2.2.2.2 1)), xTe a6 ((res.2.2.2.2.2 2)), xTe a7 ((res.2.2.2.2.2 3)), xTe a8 ((res.2.2.2.2.2 4))] := by
  refine zk_start zn_X0 (Nat.le_of_ble_eq_true rfl) ?_
  intro p e s m args below meth c A ls Q C hr hQ hw hl
  have C : zCx p m c s args meth cX0_compare 6 RX0 G cy tt A := C
  have hx := C.1.1
  have hb := C.1.2.1
  have hl : lv_has ls 6 [(0, .ref a0), (1, .int x1), (2, .int x2), (3, .int ((1 : Int32)))] := hl
  have J81 : ∀ (n : Nat), ∀ (v1 : Int32) (v5 : Int32) (b_this : TSe) (H : Heap) (locs : List Loc) (ls : Array Slot), zf_X0_compare_l1_81 n v1 v5 b_this = some res → zWd G A s.heap H locs [xSe a0 a1 a2 a3 b_this.1 b_this.2.1 b_this.2.2.1, xI cy a1 4 b_this.2.2.2.1, xI cy a2 4 b_this.2.2.2.2.1, xRT cy a3 5 (fun j => [some a4, some a5, some a6, some a7, some a8].getD j none), xTe a4 ((b_this.2.2.2.2.2 0)), xTe a5 ((b_this.2.2.2.2.2 1)), xTe a6 ((b_this.2.2.2.2.2 2)), xTe a7 ((b_this.2.2.2.2.2 3)), xTe a8 ((b_this.2.2.2.2.2 4))] → lv_has ls 6 [(0, .ref a0), (1, .int v1), (5, .int v5)] → W p l e zr_X0_compare_l1 s m args below meth c H locs 0 0 Q (F0 m 81 ls []) := by
    intro n
    induction n with
    | zero =>
      intro v1 v5 b_this H locs ls hf hw hl
      rw [zf_X0_compare_l1_81] at hf
      cases hf
    | succ n ih =>
      intro v1 v5 b_this H locs ls hf hw hl
      rw [zf_X0_compare_l1_81] at hf
      refine lv_iload (pc := 81) hx hb dX0_compare_81 (lv_at hl 2 rfl) ?_
      refine lv_iload_n (pc := 83) hx hb dX0_compare_83 rfl (lv_at hl 1 rfl) ?_
      refine lv_icmp_ge (pc := 84) (tgt := 113) hx hb dX0_compare_84 (by decide) (fun q7 => ?_) (fun q7 => ?_)
      · replace hf := if_t q7 hf
        have hf := Option.some.inj hf
        subst hf
        exact zk_retv (pc := 113) (ww := [xSe a0 a1 a2 a3 b_this.1 b_this.2.1 b_this.2.2.1, xI cy a1 4 b_this.2.2.2.1, xI cy a2 4 b_this.2.2.2.2.1, xRT cy a3 5 (fun j => [some a4, some a5, some a6, some a7, some a8].getD j none), xTe a4 ((b_this.2.2.2.2.2 0)), xTe a5 ((b_this.2.2.2.2.2 1)), xTe a6 ((b_this.2.2.2.2.2 2)), xTe a7 ((b_this.2.2.2.2.2 3)), xTe a8 ((b_this.2.2.2.2.2 4))]) C hw hr hQ dX0_compare_113
      · replace hf := if_f q7 hf
        refine lv_iload (pc := 87) hx hb dX0_compare_87 (lv_at hl 2 rfl) ?_
        refine lv_iconst (pc := 89) (v := 4) hx hb dX0_compare_89 (by decide) ?_
        refine lv_icmp_ge (pc := 90) (tgt := 113) hx hb dX0_compare_90 (by decide) (fun q8 => ?_) (fun q8 => ?_)
        · replace hf := if_t q8 hf
          have hf := Option.some.inj hf
          subst hf
          exact zk_retv (pc := 113) (ww := [xSe a0 a1 a2 a3 b_this.1 b_this.2.1 b_this.2.2.1, xI cy a1 4 b_this.2.2.2.1, xI cy a2 4 b_this.2.2.2.2.1, xRT cy a3 5 (fun j => [some a4, some a5, some a6, some a7, some a8].getD j none), xTe a4 ((b_this.2.2.2.2.2 0)), xTe a5 ((b_this.2.2.2.2.2 1)), xTe a6 ((b_this.2.2.2.2.2 2)), xTe a7 ((b_this.2.2.2.2.2 3)), xTe a8 ((b_this.2.2.2.2.2 4))]) C hw hr hQ dX0_compare_113
        · replace hf := if_f q8 hf
          refine lv_aload_n (pc := 93) hx hb dX0_compare_93 rfl (lv_at hl 0 rfl) ?_
          refine zk_gt (pc := 94) C hw zl_X0_26 0 rfl rfl dX0_compare_94 ?_
          refine lv_iload (pc := 97) hx hb dX0_compare_97 (lv_at hl 2 rfl) ?_
          refine lv_aload_n (pc := 99) hx hb dX0_compare_99 rfl (lv_at hl 0 rfl) ?_
          refine zk_gt (pc := 100) C hw zl_X0_22 0 rfl rfl dX0_compare_100 ?_
          refine lv_iload (pc := 103) hx hb dX0_compare_103 (lv_at hl 2 rfl) ?_
          obtain ⟨q9, hf⟩ := ck hf
          refine zk_iald (pc := 105) C hw 1 rfl q9 dX0_compare_105 ?_
          obtain ⟨q10, hf⟩ := ck hf
          refine zk_iast (pc := 106) (w' := [xSe a0 a1 a2 a3 b_this.1 b_this.2.1 b_this.2.2.1, xI cy a1 4 b_this.2.2.2.1, xI cy a2 4 ((upd b_this.2.2.2.2.1 v5.toNatClampNeg ((b_this.2.2.2.1 v5.toNatClampNeg)))), xRT cy a3 5 (fun j => [some a4, some a5, some a6, some a7, some a8].getD j none), xTe a4 ((b_this.2.2.2.2.2 0)), xTe a5 ((b_this.2.2.2.2.2 1)), xTe a6 ((b_this.2.2.2.2.2 2)), xTe a7 ((b_this.2.2.2.2.2 3)), xTe a8 ((b_this.2.2.2.2.2 4))]) C hw 2 rfl q10 rfl dX0_compare_106 (fun H locs hw => ?_)
          refine lv_iinc (pc := 107) (v := (v5 + 1)) (lv' := [(5, .int ((v5 + 1))), (0, .ref a0), (1, .int v1)]) hx hb dX0_compare_107 hl (k := 2) rfl rfl (by decide) rfl (fun ls hl => ?_)
          refine lv_goto (pc := 110) (tgt := 81) hx hb dX0_compare_110 (by decide) ?_
          exact ih v1 ((v5 + 1)) ((b_this.1, b_this.2.1, b_this.2.2.1, b_this.2.2.2.1, (upd b_this.2.2.2.2.1 v5.toNatClampNeg ((b_this.2.2.2.1 v5.toNatClampNeg))), b_this.2.2.2.2.2)) _ _ _ hf hw (lv_sub hl [1, 2, 0] rfl)
  have J62 : ∀ (v1 : Int32) (v2 : Int32) (v4 : Int32) (b_this : TSe) (H : Heap) (locs : List Loc) (ls : Array Slot), zf_X0_compare_l1_62 v1 v2 v4 b_this = some res → zWd G A s.heap H locs [xSe a0 a1 a2 a3 b_this.1 b_this.2.1 b_this.2.2.1, xI cy a1 4 b_this.2.2.2.1, xI cy a2 4 b_this.2.2.2.2.1, xRT cy a3 5 (fun j => [some a4, some a5, some a6, some a7, some a8].getD j none), xTe a4 ((b_this.2.2.2.2.2 0)), xTe a5 ((b_this.2.2.2.2.2 1)), xTe a6 ((b_this.2.2.2.2.2 2)), xTe a7 ((b_this.2.2.2.2.2 3)), xTe a8 ((b_this.2.2.2.2.2 4))] → lv_has ls 6 [(0, .ref a0), (1, .int v1), (2, .int v2), (4, .int v4)] → W p l e zr_X0_compare_l1 s m args below meth c H locs 0 0 Q (F0 m 62 ls []) := by
    intro v1 v2 v4 b_this H locs ls hf hw hl
    rw [zf_X0_compare_l1_62] at hf
    refine lv_aload_n (pc := 62) hx hb dX0_compare_62 rfl (lv_at hl 0 rfl) ?_
    refine lv_iconst (pc := 63) (v := 1) hx hb dX0_compare_63 (by decide) ?_
    refine zk_put (pc := 64) (v := .int (bI true)) (w' := [xSe a0 a1 a2 a3 b_this.1 b_this.2.1 true, xI cy a1 4 b_this.2.2.2.1, xI cy a2 4 b_this.2.2.2.2.1, xRT cy a3 5 (fun j => [some a4, some a5, some a6, some a7, some a8].getD j none), xTe a4 ((b_this.2.2.2.2.2 0)), xTe a5 ((b_this.2.2.2.2.2 1)), xTe a6 ((b_this.2.2.2.2.2 2)), xTe a7 ((b_this.2.2.2.2.2 3)), xTe a8 ((b_this.2.2.2.2.2 4))]) C hw zp_X0_18 0 rfl (bI_nar _) (bI_fit _) (Nat.le_of_ble_eq_true rfl) rfl dX0_compare_64 (fun H locs hw => ?_)
    refine lv_aload_n (pc := 67) hx hb dX0_compare_67 rfl (lv_at hl 0 rfl) ?_
    refine lv_iload_n (pc := 68) hx hb dX0_compare_68 rfl (lv_at hl 2 rfl) ?_
    refine zk_put (pc := 69) (w' := [xSe a0 a1 a2 a3 v2 b_this.2.1 true, xI cy a1 4 b_this.2.2.2.1, xI cy a2 4 b_this.2.2.2.2.1, xRT cy a3 5 (fun j => [some a4, some a5, some a6, some a7, some a8].getD j none), xTe a4 ((b_this.2.2.2.2.2 0)), xTe a5 ((b_this.2.2.2.2.2 1)), xTe a6 ((b_this.2.2.2.2.2 2)), xTe a7 ((b_this.2.2.2.2.2 3)), xTe a8 ((b_this.2.2.2.2.2 4))]) C hw zp_X0_9 0 rfl rfl rfl (Nat.le_of_ble_eq_true rfl) rfl dX0_compare_69 (fun H locs hw => ?_)
    refine lv_aload_n (pc := 72) hx hb dX0_compare_72 rfl (lv_at hl 0 rfl) ?_
    refine lv_iload (pc := 73) hx hb dX0_compare_73 (lv_at hl 3 rfl) ?_
    refine zk_put (pc := 75) (w' := [xSe a0 a1 a2 a3 v2 v4 true, xI cy a1 4 b_this.2.2.2.1, xI cy a2 4 b_this.2.2.2.2.1, xRT cy a3 5 (fun j => [some a4, some a5, some a6, some a7, some a8].getD j none), xTe a4 ((b_this.2.2.2.2.2 0)), xTe a5 ((b_this.2.2.2.2.2 1)), xTe a6 ((b_this.2.2.2.2.2 2)), xTe a7 ((b_this.2.2.2.2.2 3)), xTe a8 ((b_this.2.2.2.2.2 4))]) C hw zp_X0_15 0 rfl rfl rfl (Nat.le_of_ble_eq_true rfl) rfl dX0_compare_75 (fun H locs hw => ?_)
    refine lv_iconst (pc := 78) (v := 0) hx hb dX0_compare_78 (by decide) ?_
    refine lv_istore (pc := 79) (lv' := [(5, .int ((0 : Int32))), (0, .ref a0), (1, .int v1), (2, .int v2), (4, .int v4)]) hx hb dX0_compare_79 hl (by decide) rfl (fun ls hl => ?_)
    exact J81 FU v1 ((0 : Int32)) ((v2, v4, true, b_this.2.2.2.1, b_this.2.2.2.2.1, b_this.2.2.2.2.2)) _ _ _ hf hw (lv_sub hl [1, 2, 0] rfl)
  have J27 : ∀ (v1 : Int32) (v2 : Int32) (t0 : Int32) (b_this : TSe) (H : Heap) (locs : List Loc) (ls : Array Slot), zf_X0_compare_l1_27 v1 v2 t0 b_this = some res → zWd G A s.heap H locs [xSe a0 a1 a2 a3 b_this.1 b_this.2.1 b_this.2.2.1, xI cy a1 4 b_this.2.2.2.1, xI cy a2 4 b_this.2.2.2.2.1, xRT cy a3 5 (fun j => [some a4, some a5, some a6, some a7, some a8].getD j none), xTe a4 ((b_this.2.2.2.2.2 0)), xTe a5 ((b_this.2.2.2.2.2 1)), xTe a6 ((b_this.2.2.2.2.2 2)), xTe a7 ((b_this.2.2.2.2.2 3)), xTe a8 ((b_this.2.2.2.2.2 4))] → lv_has ls 6 [(0, .ref a0), (1, .int v1), (2, .int v2)] → W p l e zr_X0_compare_l1 s m args below meth c H locs 0 0 Q (F0 m 27 ls [.int t0]) := by
    intro v1 v2 t0 b_this H locs ls hf hw hl
    rw [zf_X0_compare_l1_27] at hf
    refine lv_istore (pc := 27) (lv' := [(4, .int t0), (0, .ref a0), (1, .int v1), (2, .int v2)]) hx hb dX0_compare_27 hl (by decide) rfl (fun ls hl => ?_)
    refine lv_aload_n (pc := 29) hx hb dX0_compare_29 rfl (lv_at hl 1 rfl) ?_
    refine zk_gt (pc := 30) C hw zl_X0_18 0 rfl rfl dX0_compare_30 ?_
    refine zk_ifz (pc := 33) (tgt := 62) hx hb dX0_compare_33 (by decide) (fun q3 => ?_) (fun q3 => ?_)
    · replace hf := if_f q3 hf
      exact J62 v1 v2 t0 b_this _ _ _ hf hw (lv_sub hl [1, 2, 3, 0] rfl)
    · replace hf := if_t q3 hf
      refine lv_iload_n (pc := 36) hx hb dX0_compare_36 rfl (lv_at hl 3 rfl) ?_
      refine lv_aload_n (pc := 37) hx hb dX0_compare_37 rfl (lv_at hl 1 rfl) ?_
      refine zk_gt (pc := 38) C hw zl_X0_9 0 rfl rfl dX0_compare_38 ?_
      refine lv_icmp_gt (pc := 41) (tgt := 61) hx hb dX0_compare_41 (by decide) (fun q4 => ?_) (fun q4 => ?_)
      · replace hf := if_t q4 hf
        have hf := Option.some.inj hf
        subst hf
        exact zk_retv (pc := 61) (ww := [xSe a0 a1 a2 a3 b_this.1 b_this.2.1 b_this.2.2.1, xI cy a1 4 b_this.2.2.2.1, xI cy a2 4 b_this.2.2.2.2.1, xRT cy a3 5 (fun j => [some a4, some a5, some a6, some a7, some a8].getD j none), xTe a4 ((b_this.2.2.2.2.2 0)), xTe a5 ((b_this.2.2.2.2.2 1)), xTe a6 ((b_this.2.2.2.2.2 2)), xTe a7 ((b_this.2.2.2.2.2 3)), xTe a8 ((b_this.2.2.2.2.2 4))]) C hw hr hQ dX0_compare_61
      · replace hf := if_f q4 hf
        refine lv_iload_n (pc := 44) hx hb dX0_compare_44 rfl (lv_at hl 3 rfl) ?_
        refine lv_aload_n (pc := 45) hx hb dX0_compare_45 rfl (lv_at hl 1 rfl) ?_
        refine zk_gt (pc := 46) C hw zl_X0_9 0 rfl rfl dX0_compare_46 ?_
        refine lv_icmp_ne (pc := 49) (tgt := 62) hx hb dX0_compare_49 (by decide) (fun q5 => ?_) (fun q5 => ?_)
        · replace hf := if_f q5 hf
          exact J62 v1 v2 t0 b_this _ _ _ hf hw (lv_sub hl [1, 2, 3, 0] rfl)
        · replace hf := if_t q5 hf
          refine lv_iload (pc := 52) hx hb dX0_compare_52 (lv_at hl 0 rfl) ?_
          refine lv_aload_n (pc := 54) hx hb dX0_compare_54 rfl (lv_at hl 1 rfl) ?_
          refine zk_gt (pc := 55) C hw zl_X0_15 0 rfl rfl dX0_compare_55 ?_
          refine lv_icmp_lt (pc := 58) (tgt := 62) hx hb dX0_compare_58 (by decide) (fun q6 => ?_) (fun q6 => ?_)
          · replace hf := if_t q6 hf
            exact J62 v1 v2 t0 b_this _ _ _ hf hw (lv_sub hl [1, 2, 3, 0] rfl)
          · replace hf := if_f q6 hf
            have hf := Option.some.inj hf
            subst hf
            exact zk_retv (pc := 61) (ww := [xSe a0 a1 a2 a3 b_this.1 b_this.2.1 b_this.2.2.1, xI cy a1 4 b_this.2.2.2.1, xI cy a2 4 b_this.2.2.2.2.1, xRT cy a3 5 (fun j => [some a4, some a5, some a6, some a7, some a8].getD j none), xTe a4 ((b_this.2.2.2.2.2 0)), xTe a5 ((b_this.2.2.2.2.2 1)), xTe a6 ((b_this.2.2.2.2.2 2)), xTe a7 ((b_this.2.2.2.2.2 3)), xTe a8 ((b_this.2.2.2.2.2 4))]) C hw hr hQ dX0_compare_61
  have J25 : ∀ (v1 : Int32) (v2 : Int32) (b_this : TSe) (H : Heap) (locs : List Loc) (ls : Array Slot), zf_X0_compare_l1_25 v1 v2 b_this = some res → zWd G A s.heap H locs [xSe a0 a1 a2 a3 b_this.1 b_this.2.1 b_this.2.2.1, xI cy a1 4 b_this.2.2.2.1, xI cy a2 4 b_this.2.2.2.2.1, xRT cy a3 5 (fun j => [some a4, some a5, some a6, some a7, some a8].getD j none), xTe a4 ((b_this.2.2.2.2.2 0)), xTe a5 ((b_this.2.2.2.2.2 1)), xTe a6 ((b_this.2.2.2.2.2 2)), xTe a7 ((b_this.2.2.2.2.2 3)), xTe a8 ((b_this.2.2.2.2.2 4))] → lv_has ls 6 [(0, .ref a0), (1, .int v1), (2, .int v2)] → W p l e zr_X0_compare_l1 s m args below meth c H locs 0 0 Q (F0 m 25 ls []) := by
    intro v1 v2 b_this H locs ls hf hw hl
    rw [zf_X0_compare_l1_25] at hf
    refine lv_bipush (pc := 25) (v := 99) hx hb dX0_compare_25 (by decide) ?_
    exact J27 v1 v2 ((99 : Int32)) b_this _ _ _ hf hw (lv_sub hl [0, 1, 2] rfl)
  rw [zf_X0_compare_l1] at hf
  refine lv_iload_n (pc := 0) hx hb dX0_compare_0 rfl (lv_at hl 3 rfl) ?_
  refine lv_if_lt (pc := 1) (tgt := 25) hx hb dX0_compare_1 (by decide) (fun q1 => ?_) (fun q1 => ?_)
  · replace hf := if_t q1 hf
    exact J25 x1 x2 b_this _ _ _ hf hw (lv_sub hl [0, 1, 2] rfl)
  · replace hf := if_f q1 hf
    refine lv_iload_n (pc := 4) hx hb dX0_compare_4 rfl (lv_at hl 3 rfl) ?_
    refine lv_aload_n (pc := 5) hx hb dX0_compare_5 rfl (lv_at hl 0 rfl) ?_
    refine zk_gt (pc := 6) C hw zl_X0_32 0 rfl rfl dX0_compare_6 ?_
    refine zk_alen (pc := 9) (v := 5) C hw 3 4 rfl rfl rfl dX0_compare_9 ?_
    refine lv_icmp_ge (pc := 10) (tgt := 25) hx hb dX0_compare_10 (by decide) (fun q2 => ?_) (fun q2 => ?_)
    · replace hf := if_t q2 hf
      exact J25 x1 x2 b_this _ _ _ hf hw (lv_sub hl [0, 1, 2] rfl)
    · replace hf := if_f q2 hf
      refine lv_aload_n (pc := 13) hx hb dX0_compare_13 rfl (lv_at hl 0 rfl) ?_
      refine zk_gt (pc := 14) C hw zl_X0_32 0 rfl rfl dX0_compare_14 ?_
      refine lv_iload_n (pc := 17) hx hb dX0_compare_17 rfl (lv_at hl 3 rfl) ?_
      refine zk_aaldT (pc := 18) (a' := a5) 1 (by decide) C hw 3 rfl (by decide) rfl dX0_compare_18 ?_
      refine zk_gt (pc := 19) C hw zl_X0_71 5 rfl rfl dX0_compare_19 ?_
      refine lv_goto (pc := 22) (tgt := 27) hx hb dX0_compare_22 (by decide) ?_
      exact J27 x1 x2 (((b_this.2.2.2.2.2 1)).1) b_this _ _ _ hf hw (lv_sub hl [0, 1, 2] rfl)
def zf_X0_compare_l2_81 : Nat → Int32 → Int32 → TSe → Option (TSe)
  | 0, _, _, _ => none
  | n + 1, v1, v5, b_this => (if v1 ≤ v5 then some (b_this) else (if (4 : Int32) ≤ v5 then some (b_this) else (if ix v5 4 then (if ix v5 4 then zf_X0_compare_l2_81 n v1 ((v5 + 1)) ((b_this.1, b_this.2.1, b_this.2.2.1, b_this.2.2.2.1, (upd b_this.2.2.2.2.1 v5.toNatClampNeg ((b_this.2.2.2.1 v5.toNatClampNeg))), b_this.2.2.2.2.2)) else none) else none)))
def zf_X0_compare_l2_62 (v1 : Int32) (v2 : Int32) (v4 : Int32) (b_this : TSe) : Option (TSe) := zf_X0_compare_l2_81 FU v1 ((0 : Int32)) ((v2, v4, true, b_this.2.2.2.1, b_this.2.2.2.2.1, b_this.2.2.2.2.2))
def zf_X0_compare_l2_27 (v1 : Int32) (v2 : Int32) (t0 : Int32) (b_this : TSe) : Option (TSe) := (if b_this.2.2.1 then (if b_this.1 < v2 then some (b_this) else (if v2 = b_this.1 then (if t0 < b_this.2.1 then zf_X0_compare_l2_62 v1 v2 t0 b_this else some (b_this)) else zf_X0_compare_l2_62 v1 v2 t0 b_this)) else zf_X0_compare_l2_62 v1 v2 t0 b_this)
def zf_X0_compare_l2_25 (v1 : Int32) (v2 : Int32) (b_this : TSe) : Option (TSe) := zf_X0_compare_l2_27 v1 v2 ((99 : Int32)) b_this
def zf_X0_compare_l2 (x1 : Int32) (x2 : Int32) (b_this : TSe) : Option (TSe) := (if (2 : Int32) < 0 then zf_X0_compare_l2_25 x1 x2 b_this else (if (5 : Int32) ≤ (2 : Int32) then zf_X0_compare_l2_25 x1 x2 b_this else zf_X0_compare_l2_27 x1 x2 (((b_this.2.2.2.2.2 2)).1) b_this))
abbrev zr_X0_compare_l2 : Room := { frames := 0, cells := 0, slots := 0, locals := 0 }
set_option maxHeartbeats 4000000 in
set_option maxRecDepth 100000 in
theorem c_X0_compare_l2 (l : Launch) (G : va_G) (cy : Nat → ClassId) (tt : Nat → Nat) (a0 a1 a2 a3 a4 a5 a6 a7 a8 : Nat) (x1 : Int32) (x2 : Int32) (b_this : TSe) (res : TSe) (hf : zf_X0_compare_l2 x1 x2 b_this = some res) : zCT l yX0_compare cX0_compare 6 none zr_X0_compare_l2 G cy tt [.ref a0, .int x1, .int x2, .int ((2 : Int32))] [xSe a0 a1 a2 a3 b_this.1 b_this.2.1 b_this.2.2.1, xI cy a1 4 b_this.2.2.2.1, xI cy a2 4 b_this.2.2.2.2.1, xRT cy a3 5 (fun j => [some a4, some a5, some a6, some a7, some a8].getD j none), xTe a4 ((b_this.2.2.2.2.2 0)), xTe a5 ((b_this.2.2.2.2.2 1)), xTe a6 ((b_this.2.2.2.2.2 2)), xTe a7 ((b_this.2.2.2.2.2 3)), xTe a8 ((b_this.2.2.2.2.2 4))] none [xSe a0 a1 a2 a3 res.1 res.2.1 res.2.2.1, xI cy a1 4 res.2.2.2.1, xI cy a2 4 res.2.2.2.2.1, xRT cy a3 5 (fun j => [some a4, some a5, some a6, some a7, some a8].getD j none), xTe a4 ((res.2.2.2.2.2 0)), xTe a5 ((res.2.2.2.2.2 1)), xTe a6 ((res.2.2.2.2.2 2)), xTe a7 ((res.2.2.2.2.2 3)), xTe a8 ((res.2.2.2.2.2 4))] := by
  refine zk_start zn_X0 (Nat.le_of_ble_eq_true rfl) ?_
  intro p e s m args below meth c A ls Q C hr hQ hw hl
  have C : zCx p m c s args meth cX0_compare 6 RX0 G cy tt A := C
  have hx := C.1.1
  have hb := C.1.2.1
  have hl : lv_has ls 6 [(0, .ref a0), (1, .int x1), (2, .int x2), (3, .int ((2 : Int32)))] := hl
  have J81 : ∀ (n : Nat), ∀ (v1 : Int32) (v5 : Int32) (b_this : TSe) (H : Heap) (locs : List Loc) (ls : Array Slot), zf_X0_compare_l2_81 n v1 v5 b_this = some res → zWd G A s.heap H locs [xSe a0 a1 a2 a3 b_this.1 b_this.2.1 b_this.2.2.1, xI cy a1 4 b_this.2.2.2.1, xI cy a2 4 b_this.2.2.2.2.1, xRT cy a3 5 (fun j => [some a4, some a5, some a6, some a7, some a8].getD j none), xTe a4 ((b_this.2.2.2.2.2 0)), xTe a5 ((b_this.2.2.2.2.2 1)), xTe a6 ((b_this.2.2.2.2.2 2)), xTe a7 ((b_this.2.2.2.2.2 3)), xTe a8 ((b_this.2.2.2.2.2 4))] → lv_has ls 6 [(0, .ref a0), (1, .int v1), (5, .int v5)] → W p l e zr_X0_compare_l2 s m args below meth c H locs 0 0 Q (F0 m 81 ls []) := by
    intro n
    induction n with
    | zero =>
      intro v1 v5 b_this H locs ls hf hw hl
      rw [zf_X0_compare_l2_81] at hf
      cases hf
    | succ n ih =>
      intro v1 v5 b_this H locs ls hf hw hl
      rw [zf_X0_compare_l2_81] at hf
      refine lv_iload (pc := 81) hx hb dX0_compare_81 (lv_at hl 2 rfl) ?_
      refine lv_iload_n (pc := 83) hx hb dX0_compare_83 rfl (lv_at hl 1 rfl) ?_
      refine lv_icmp_ge (pc := 84) (tgt := 113) hx hb dX0_compare_84 (by decide) (fun q7 => ?_) (fun q7 => ?_)
      · replace hf := if_t q7 hf
        have hf := Option.some.inj hf
        subst hf
        exact zk_retv (pc := 113) (ww := [xSe a0 a1 a2 a3 b_this.1 b_this.2.1 b_this.2.2.1, xI cy a1 4 b_this.2.2.2.1, xI cy a2 4 b_this.2.2.2.2.1, xRT cy a3 5 (fun j => [some a4, some a5, some a6, some a7, some a8].getD j none), xTe a4 ((b_this.2.2.2.2.2 0)), xTe a5 ((b_this.2.2.2.2.2 1)), xTe a6 ((b_this.2.2.2.2.2 2)), xTe a7 ((b_this.2.2.2.2.2 3)), xTe a8 ((b_this.2.2.2.2.2 4))]) C hw hr hQ dX0_compare_113
      · replace hf := if_f q7 hf
        refine lv_iload (pc := 87) hx hb dX0_compare_87 (lv_at hl 2 rfl) ?_
        refine lv_iconst (pc := 89) (v := 4) hx hb dX0_compare_89 (by decide) ?_
        refine lv_icmp_ge (pc := 90) (tgt := 113) hx hb dX0_compare_90 (by decide) (fun q8 => ?_) (fun q8 => ?_)
        · replace hf := if_t q8 hf
          have hf := Option.some.inj hf
          subst hf
          exact zk_retv (pc := 113) (ww := [xSe a0 a1 a2 a3 b_this.1 b_this.2.1 b_this.2.2.1, xI cy a1 4 b_this.2.2.2.1, xI cy a2 4 b_this.2.2.2.2.1, xRT cy a3 5 (fun j => [some a4, some a5, some a6, some a7, some a8].getD j none), xTe a4 ((b_this.2.2.2.2.2 0)), xTe a5 ((b_this.2.2.2.2.2 1)), xTe a6 ((b_this.2.2.2.2.2 2)), xTe a7 ((b_this.2.2.2.2.2 3)), xTe a8 ((b_this.2.2.2.2.2 4))]) C hw hr hQ dX0_compare_113
        · replace hf := if_f q8 hf
          refine lv_aload_n (pc := 93) hx hb dX0_compare_93 rfl (lv_at hl 0 rfl) ?_
          refine zk_gt (pc := 94) C hw zl_X0_26 0 rfl rfl dX0_compare_94 ?_
          refine lv_iload (pc := 97) hx hb dX0_compare_97 (lv_at hl 2 rfl) ?_
          refine lv_aload_n (pc := 99) hx hb dX0_compare_99 rfl (lv_at hl 0 rfl) ?_
          refine zk_gt (pc := 100) C hw zl_X0_22 0 rfl rfl dX0_compare_100 ?_
          refine lv_iload (pc := 103) hx hb dX0_compare_103 (lv_at hl 2 rfl) ?_
          obtain ⟨q9, hf⟩ := ck hf
          refine zk_iald (pc := 105) C hw 1 rfl q9 dX0_compare_105 ?_
          obtain ⟨q10, hf⟩ := ck hf
          refine zk_iast (pc := 106) (w' := [xSe a0 a1 a2 a3 b_this.1 b_this.2.1 b_this.2.2.1, xI cy a1 4 b_this.2.2.2.1, xI cy a2 4 ((upd b_this.2.2.2.2.1 v5.toNatClampNeg ((b_this.2.2.2.1 v5.toNatClampNeg)))), xRT cy a3 5 (fun j => [some a4, some a5, some a6, some a7, some a8].getD j none), xTe a4 ((b_this.2.2.2.2.2 0)), xTe a5 ((b_this.2.2.2.2.2 1)), xTe a6 ((b_this.2.2.2.2.2 2)), xTe a7 ((b_this.2.2.2.2.2 3)), xTe a8 ((b_this.2.2.2.2.2 4))]) C hw 2 rfl q10 rfl dX0_compare_106 (fun H locs hw => ?_)
          refine lv_iinc (pc := 107) (v := (v5 + 1)) (lv' := [(5, .int ((v5 + 1))), (0, .ref a0), (1, .int v1)]) hx hb dX0_compare_107 hl (k := 2) rfl rfl (by decide) rfl (fun ls hl => ?_)
          refine lv_goto (pc := 110) (tgt := 81) hx hb dX0_compare_110 (by decide) ?_
          exact ih v1 ((v5 + 1)) ((b_this.1, b_this.2.1, b_this.2.2.1, b_this.2.2.2.1, (upd b_this.2.2.2.2.1 v5.toNatClampNeg ((b_this.2.2.2.1 v5.toNatClampNeg))), b_this.2.2.2.2.2)) _ _ _ hf hw (lv_sub hl [1, 2, 0] rfl)
  have J62 : ∀ (v1 : Int32) (v2 : Int32) (v4 : Int32) (b_this : TSe) (H : Heap) (locs : List Loc) (ls : Array Slot), zf_X0_compare_l2_62 v1 v2 v4 b_this = some res → zWd G A s.heap H locs [xSe a0 a1 a2 a3 b_this.1 b_this.2.1 b_this.2.2.1, xI cy a1 4 b_this.2.2.2.1, xI cy a2 4 b_this.2.2.2.2.1, xRT cy a3 5 (fun j => [some a4, some a5, some a6, some a7, some a8].getD j none), xTe a4 ((b_this.2.2.2.2.2 0)), xTe a5 ((b_this.2.2.2.2.2 1)), xTe a6 ((b_this.2.2.2.2.2 2)), xTe a7 ((b_this.2.2.2.2.2 3)), xTe a8 ((b_this.2.2.2.2.2 4))] → lv_has ls 6 [(0, .ref a0), (1, .int v1), (2, .int v2), (4, .int v4)] → W p l e zr_X0_compare_l2 s m args below meth c H locs 0 0 Q (F0 m 62 ls []) := by
    intro v1 v2 v4 b_this H locs ls hf hw hl
    rw [zf_X0_compare_l2_62] at hf
    refine lv_aload_n (pc := 62) hx hb dX0_compare_62 rfl (lv_at hl 0 rfl) ?_
    refine lv_iconst (pc := 63) (v := 1) hx hb dX0_compare_63 (by decide) ?_
    refine zk_put (pc := 64) (v := .int (bI true)) (w' := [xSe a0 a1 a2 a3 b_this.1 b_this.2.1 true, xI cy a1 4 b_this.2.2.2.1, xI cy a2 4 b_this.2.2.2.2.1, xRT cy a3 5 (fun j => [some a4, some a5, some a6, some a7, some a8].getD j none), xTe a4 ((b_this.2.2.2.2.2 0)), xTe a5 ((b_this.2.2.2.2.2 1)), xTe a6 ((b_this.2.2.2.2.2 2)), xTe a7 ((b_this.2.2.2.2.2 3)), xTe a8 ((b_this.2.2.2.2.2 4))]) C hw zp_X0_18 0 rfl (bI_nar _) (bI_fit _) (Nat.le_of_ble_eq_true rfl) rfl dX0_compare_64 (fun H locs hw => ?_)
    refine lv_aload_n (pc := 67) hx hb dX0_compare_67 rfl (lv_at hl 0 rfl) ?_
    refine lv_iload_n (pc := 68) hx hb dX0_compare_68 rfl (lv_at hl 2 rfl) ?_
    refine zk_put (pc := 69) (w' := [xSe a0 a1 a2 a3 v2 b_this.2.1 true, xI cy a1 4 b_this.2.2.2.1, xI cy a2 4 b_this.2.2.2.2.1, xRT cy a3 5 (fun j => [some a4, some a5, some a6, some a7, some a8].getD j none), xTe a4 ((b_this.2.2.2.2.2 0)), xTe a5 ((b_this.2.2.2.2.2 1)), xTe a6 ((b_this.2.2.2.2.2 2)), xTe a7 ((b_this.2.2.2.2.2 3)), xTe a8 ((b_this.2.2.2.2.2 4))]) C hw zp_X0_9 0 rfl rfl rfl (Nat.le_of_ble_eq_true rfl) rfl dX0_compare_69 (fun H locs hw => ?_)
    refine lv_aload_n (pc := 72) hx hb dX0_compare_72 rfl (lv_at hl 0 rfl) ?_
    refine lv_iload (pc := 73) hx hb dX0_compare_73 (lv_at hl 3 rfl) ?_
    refine zk_put (pc := 75) (w' := [xSe a0 a1 a2 a3 v2 v4 true, xI cy a1 4 b_this.2.2.2.1, xI cy a2 4 b_this.2.2.2.2.1, xRT cy a3 5 (fun j => [some a4, some a5, some a6, some a7, some a8].getD j none), xTe a4 ((b_this.2.2.2.2.2 0)), xTe a5 ((b_this.2.2.2.2.2 1)), xTe a6 ((b_this.2.2.2.2.2 2)), xTe a7 ((b_this.2.2.2.2.2 3)), xTe a8 ((b_this.2.2.2.2.2 4))]) C hw zp_X0_15 0 rfl rfl rfl (Nat.le_of_ble_eq_true rfl) rfl dX0_compare_75 (fun H locs hw => ?_)
    refine lv_iconst (pc := 78) (v := 0) hx hb dX0_compare_78 (by decide) ?_
    refine lv_istore (pc := 79) (lv' := [(5, .int ((0 : Int32))), (0, .ref a0), (1, .int v1), (2, .int v2), (4, .int v4)]) hx hb dX0_compare_79 hl (by decide) rfl (fun ls hl => ?_)
    exact J81 FU v1 ((0 : Int32)) ((v2, v4, true, b_this.2.2.2.1, b_this.2.2.2.2.1, b_this.2.2.2.2.2)) _ _ _ hf hw (lv_sub hl [1, 2, 0] rfl)
  have J27 : ∀ (v1 : Int32) (v2 : Int32) (t0 : Int32) (b_this : TSe) (H : Heap) (locs : List Loc) (ls : Array Slot), zf_X0_compare_l2_27 v1 v2 t0 b_this = some res → zWd G A s.heap H locs [xSe a0 a1 a2 a3 b_this.1 b_this.2.1 b_this.2.2.1, xI cy a1 4 b_this.2.2.2.1, xI cy a2 4 b_this.2.2.2.2.1, xRT cy a3 5 (fun j => [some a4, some a5, some a6, some a7, some a8].getD j none), xTe a4 ((b_this.2.2.2.2.2 0)), xTe a5 ((b_this.2.2.2.2.2 1)), xTe a6 ((b_this.2.2.2.2.2 2)), xTe a7 ((b_this.2.2.2.2.2 3)), xTe a8 ((b_this.2.2.2.2.2 4))] → lv_has ls 6 [(0, .ref a0), (1, .int v1), (2, .int v2)] → W p l e zr_X0_compare_l2 s m args below meth c H locs 0 0 Q (F0 m 27 ls [.int t0]) := by
    intro v1 v2 t0 b_this H locs ls hf hw hl
    rw [zf_X0_compare_l2_27] at hf
    refine lv_istore (pc := 27) (lv' := [(4, .int t0), (0, .ref a0), (1, .int v1), (2, .int v2)]) hx hb dX0_compare_27 hl (by decide) rfl (fun ls hl => ?_)
    refine lv_aload_n (pc := 29) hx hb dX0_compare_29 rfl (lv_at hl 1 rfl) ?_
    refine zk_gt (pc := 30) C hw zl_X0_18 0 rfl rfl dX0_compare_30 ?_
    refine zk_ifz (pc := 33) (tgt := 62) hx hb dX0_compare_33 (by decide) (fun q3 => ?_) (fun q3 => ?_)
    · replace hf := if_f q3 hf
      exact J62 v1 v2 t0 b_this _ _ _ hf hw (lv_sub hl [1, 2, 3, 0] rfl)
    · replace hf := if_t q3 hf
      refine lv_iload_n (pc := 36) hx hb dX0_compare_36 rfl (lv_at hl 3 rfl) ?_
      refine lv_aload_n (pc := 37) hx hb dX0_compare_37 rfl (lv_at hl 1 rfl) ?_
      refine zk_gt (pc := 38) C hw zl_X0_9 0 rfl rfl dX0_compare_38 ?_
      refine lv_icmp_gt (pc := 41) (tgt := 61) hx hb dX0_compare_41 (by decide) (fun q4 => ?_) (fun q4 => ?_)
      · replace hf := if_t q4 hf
        have hf := Option.some.inj hf
        subst hf
        exact zk_retv (pc := 61) (ww := [xSe a0 a1 a2 a3 b_this.1 b_this.2.1 b_this.2.2.1, xI cy a1 4 b_this.2.2.2.1, xI cy a2 4 b_this.2.2.2.2.1, xRT cy a3 5 (fun j => [some a4, some a5, some a6, some a7, some a8].getD j none), xTe a4 ((b_this.2.2.2.2.2 0)), xTe a5 ((b_this.2.2.2.2.2 1)), xTe a6 ((b_this.2.2.2.2.2 2)), xTe a7 ((b_this.2.2.2.2.2 3)), xTe a8 ((b_this.2.2.2.2.2 4))]) C hw hr hQ dX0_compare_61
      · replace hf := if_f q4 hf
        refine lv_iload_n (pc := 44) hx hb dX0_compare_44 rfl (lv_at hl 3 rfl) ?_
        refine lv_aload_n (pc := 45) hx hb dX0_compare_45 rfl (lv_at hl 1 rfl) ?_
        refine zk_gt (pc := 46) C hw zl_X0_9 0 rfl rfl dX0_compare_46 ?_
        refine lv_icmp_ne (pc := 49) (tgt := 62) hx hb dX0_compare_49 (by decide) (fun q5 => ?_) (fun q5 => ?_)
        · replace hf := if_f q5 hf
          exact J62 v1 v2 t0 b_this _ _ _ hf hw (lv_sub hl [1, 2, 3, 0] rfl)
        · replace hf := if_t q5 hf
          refine lv_iload (pc := 52) hx hb dX0_compare_52 (lv_at hl 0 rfl) ?_
          refine lv_aload_n (pc := 54) hx hb dX0_compare_54 rfl (lv_at hl 1 rfl) ?_
          refine zk_gt (pc := 55) C hw zl_X0_15 0 rfl rfl dX0_compare_55 ?_
          refine lv_icmp_lt (pc := 58) (tgt := 62) hx hb dX0_compare_58 (by decide) (fun q6 => ?_) (fun q6 => ?_)
          · replace hf := if_t q6 hf
            exact J62 v1 v2 t0 b_this _ _ _ hf hw (lv_sub hl [1, 2, 3, 0] rfl)
          · replace hf := if_f q6 hf
            have hf := Option.some.inj hf
            subst hf
            exact zk_retv (pc := 61) (ww := [xSe a0 a1 a2 a3 b_this.1 b_this.2.1 b_this.2.2.1, xI cy a1 4 b_this.2.2.2.1, xI cy a2 4 b_this.2.2.2.2.1, xRT cy a3 5 (fun j => [some a4, some a5, some a6, some a7, some a8].getD j none), xTe a4 ((b_this.2.2.2.2.2 0)), xTe a5 ((b_this.2.2.2.2.2 1)), xTe a6 ((b_this.2.2.2.2.2 2)), xTe a7 ((b_this.2.2.2.2.2 3)), xTe a8 ((b_this.2.2.2.2.2 4))]) C hw hr hQ dX0_compare_61
  have J25 : ∀ (v1 : Int32) (v2 : Int32) (b_this : TSe) (H : Heap) (locs : List Loc) (ls : Array Slot), zf_X0_compare_l2_25 v1 v2 b_this = some res → zWd G A s.heap H locs [xSe a0 a1 a2 a3 b_this.1 b_this.2.1 b_this.2.2.1, xI cy a1 4 b_this.2.2.2.1, xI cy a2 4 b_this.2.2.2.2.1, xRT cy a3 5 (fun j => [some a4, some a5, some a6, some a7, some a8].getD j none), xTe a4 ((b_this.2.2.2.2.2 0)), xTe a5 ((b_this.2.2.2.2.2 1)), xTe a6 ((b_this.2.2.2.2.2 2)), xTe a7 ((b_this.2.2.2.2.2 3)), xTe a8 ((b_this.2.2.2.2.2 4))] → lv_has ls 6 [(0, .ref a0), (1, .int v1), (2, .int v2)] → W p l e zr_X0_compare_l2 s m args below meth c H locs 0 0 Q (F0 m 25 ls []) := by
    intro v1 v2 b_this H locs ls hf hw hl
    rw [zf_X0_compare_l2_25] at hf
    refine lv_bipush (pc := 25) (v := 99) hx hb dX0_compare_25 (by decide) ?_
    exact J27 v1 v2 ((99 : Int32)) b_this _ _ _ hf hw (lv_sub hl [0, 1, 2] rfl)
  rw [zf_X0_compare_l2] at hf
  refine lv_iload_n (pc := 0) hx hb dX0_compare_0 rfl (lv_at hl 3 rfl) ?_
  refine lv_if_lt (pc := 1) (tgt := 25) hx hb dX0_compare_1 (by decide) (fun q1 => ?_) (fun q1 => ?_)
  · replace hf := if_t q1 hf
    exact J25 x1 x2 b_this _ _ _ hf hw (lv_sub hl [0, 1, 2] rfl)
  · replace hf := if_f q1 hf
    refine lv_iload_n (pc := 4) hx hb dX0_compare_4 rfl (lv_at hl 3 rfl) ?_
    refine lv_aload_n (pc := 5) hx hb dX0_compare_5 rfl (lv_at hl 0 rfl) ?_
    refine zk_gt (pc := 6) C hw zl_X0_32 0 rfl rfl dX0_compare_6 ?_
    refine zk_alen (pc := 9) (v := 5) C hw 3 4 rfl rfl rfl dX0_compare_9 ?_
    refine lv_icmp_ge (pc := 10) (tgt := 25) hx hb dX0_compare_10 (by decide) (fun q2 => ?_) (fun q2 => ?_)
    · replace hf := if_t q2 hf
      exact J25 x1 x2 b_this _ _ _ hf hw (lv_sub hl [0, 1, 2] rfl)
    · replace hf := if_f q2 hf
      refine lv_aload_n (pc := 13) hx hb dX0_compare_13 rfl (lv_at hl 0 rfl) ?_
      refine zk_gt (pc := 14) C hw zl_X0_32 0 rfl rfl dX0_compare_14 ?_
      refine lv_iload_n (pc := 17) hx hb dX0_compare_17 rfl (lv_at hl 3 rfl) ?_
      refine zk_aaldT (pc := 18) (a' := a6) 2 (by decide) C hw 3 rfl (by decide) rfl dX0_compare_18 ?_
      refine zk_gt (pc := 19) C hw zl_X0_71 6 rfl rfl dX0_compare_19 ?_
      refine lv_goto (pc := 22) (tgt := 27) hx hb dX0_compare_22 (by decide) ?_
      exact J27 x1 x2 (((b_this.2.2.2.2.2 2)).1) b_this _ _ _ hf hw (lv_sub hl [0, 1, 2] rfl)
def zf_X0_compare_l3_81 : Nat → Int32 → Int32 → TSe → Option (TSe)
  | 0, _, _, _ => none
  | n + 1, v1, v5, b_this => (if v1 ≤ v5 then some (b_this) else (if (4 : Int32) ≤ v5 then some (b_this) else (if ix v5 4 then (if ix v5 4 then zf_X0_compare_l3_81 n v1 ((v5 + 1)) ((b_this.1, b_this.2.1, b_this.2.2.1, b_this.2.2.2.1, (upd b_this.2.2.2.2.1 v5.toNatClampNeg ((b_this.2.2.2.1 v5.toNatClampNeg))), b_this.2.2.2.2.2)) else none) else none)))
def zf_X0_compare_l3_62 (v1 : Int32) (v2 : Int32) (v4 : Int32) (b_this : TSe) : Option (TSe) := zf_X0_compare_l3_81 FU v1 ((0 : Int32)) ((v2, v4, true, b_this.2.2.2.1, b_this.2.2.2.2.1, b_this.2.2.2.2.2))
def zf_X0_compare_l3_27 (v1 : Int32) (v2 : Int32) (t0 : Int32) (b_this : TSe) : Option (TSe) := (if b_this.2.2.1 then (if b_this.1 < v2 then some (b_this) else (if v2 = b_this.1 then (if t0 < b_this.2.1 then zf_X0_compare_l3_62 v1 v2 t0 b_this else some (b_this)) else zf_X0_compare_l3_62 v1 v2 t0 b_this)) else zf_X0_compare_l3_62 v1 v2 t0 b_this)
def zf_X0_compare_l3_25 (v1 : Int32) (v2 : Int32) (b_this : TSe) : Option (TSe) := zf_X0_compare_l3_27 v1 v2 ((99 : Int32)) b_this
def zf_X0_compare_l3 (x1 : Int32) (x2 : Int32) (b_this : TSe) : Option (TSe) := (if (3 : Int32) < 0 then zf_X0_compare_l3_25 x1 x2 b_this else (if (5 : Int32) ≤ (3 : Int32) then zf_X0_compare_l3_25 x1 x2 b_this else zf_X0_compare_l3_27 x1 x2 (((b_this.2.2.2.2.2 3)).1) b_this))
abbrev zr_X0_compare_l3 : Room := { frames := 0, cells := 0, slots := 0, locals := 0 }
set_option maxHeartbeats 4000000 in
set_option maxRecDepth 100000 in
theorem c_X0_compare_l3 (l : Launch) (G : va_G) (cy : Nat → ClassId) (tt : Nat → Nat) (a0 a1 a2 a3 a4 a5 a6 a7 a8 : Nat) (x1 : Int32) (x2 : Int32) (b_this : TSe) (res : TSe) (hf : zf_X0_compare_l3 x1 x2 b_this = some res) : zCT l yX0_compare cX0_compare 6 none zr_X0_compare_l3 G cy tt [.ref a0, .int x1, .int x2, .int ((3 : Int32))] [xSe a0 a1 a2 a3 b_this.1 b_this.2.1 b_this.2.2.1, xI cy a1 4 b_this.2.2.2.1, xI cy a2 4 b_this.2.2.2.2.1, xRT cy a3 5 (fun j => [some a4, some a5, some a6, some a7, some a8].getD j none), xTe a4 ((b_this.2.2.2.2.2 0)), xTe a5 ((b_this.2.2.2.2.2 1)), xTe a6 ((b_this.2.2.2.2.2 2)), xTe a7 ((b_this.2.2.2.2.2 3)), xTe a8 ((b_this.2.2.2.2.2 4))] none [xSe a0 a1 a2 a3 res.1 res.2.1 res.2.2.1, xI cy a1 4 res.2.2.2.1, xI cy a2 4 res.2.2.2.2.1, xRT cy a3 5 (fun j => [some a4, some a5, some a6, some a7, some a8].getD j none), xTe a4 ((res.2.2.2.2.2 0)), xTe a5 ((res.2.2.2.2.2 1)), xTe a6 ((res.2.2.2.2.2 2)), xTe a7 ((res.2.2.2.2.2 3)), xTe a8 ((res.2.2.2.2.2 4))] := by
  refine zk_start zn_X0 (Nat.le_of_ble_eq_true rfl) ?_
  intro p e s m args below meth c A ls Q C hr hQ hw hl
  have C : zCx p m c s args meth cX0_compare 6 RX0 G cy tt A := C
  have hx := C.1.1
  have hb := C.1.2.1
  have hl : lv_has ls 6 [(0, .ref a0), (1, .int x1), (2, .int x2), (3, .int ((3 : Int32)))] := hl
  have J81 : ∀ (n : Nat), ∀ (v1 : Int32) (v5 : Int32) (b_this : TSe) (H : Heap) (locs : List Loc) (ls : Array Slot), zf_X0_compare_l3_81 n v1 v5 b_this = some res → zWd G A s.heap H locs [xSe a0 a1 a2 a3 b_this.1 b_this.2.1 b_this.2.2.1, xI cy a1 4 b_this.2.2.2.1, xI cy a2 4 b_this.2.2.2.2.1, xRT cy a3 5 (fun j => [some a4, some a5, some a6, some a7, some a8].getD j none), xTe a4 ((b_this.2.2.2.2.2 0)), xTe a5 ((b_this.2.2.2.2.2 1)), xTe a6 ((b_this.2.2.2.2.2 2)), xTe a7 ((b_this.2.2.2.2.2 3)), xTe a8 ((b_this.2.2.2.2.2 4))] → lv_has ls 6 [(0, .ref a0), (1, .int v1), (5, .int v5)] → W p l e zr_X0_compare_l3 s m args below meth c H locs 0 0 Q (F0 m 81 ls []) := by
    intro n
    induction n with
    | zero =>
      intro v1 v5 b_this H locs ls hf hw hl
      rw [zf_X0_compare_l3_81] at hf
      cases hf
    | succ n ih =>
      intro v1 v5 b_this H locs ls hf hw hl
      rw [zf_X0_compare_l3_81] at hf
      refine lv_iload (pc := 81) hx hb dX0_compare_81 (lv_at hl 2 rfl) ?_
      refine lv_iload_n (pc := 83) hx hb dX0_compare_83 rfl (lv_at hl 1 rfl) ?_
      refine lv_icmp_ge (pc := 84) (tgt := 113) hx hb dX0_compare_84 (by decide) (fun q7 => ?_) (fun q7 => ?_)
      · replace hf := if_t q7 hf
        have hf := Option.some.inj hf
        subst hf
        exact zk_retv (pc := 113) (ww := [xSe a0 a1 a2 a3 b_this.1 b_this.2.1 b_this.2.2.1, xI cy a1 4 b_this.2.2.2.1, xI cy a2 4 b_this.2.2.2.2.1, xRT cy a3 5 (fun j => [some a4, some a5, some a6, some a7, some a8].getD j none), xTe a4 ((b_this.2.2.2.2.2 0)), xTe a5 ((b_this.2.2.2.2.2 1)), xTe a6 ((b_this.2.2.2.2.2 2)), xTe a7 ((b_this.2.2.2.2.2 3)), xTe a8 ((b_this.2.2.2.2.2 4))]) C hw hr hQ dX0_compare_113
      · replace hf := if_f q7 hf
        refine lv_iload (pc := 87) hx hb dX0_compare_87 (lv_at hl 2 rfl) ?_
        refine lv_iconst (pc := 89) (v := 4) hx hb dX0_compare_89 (by decide) ?_
        refine lv_icmp_ge (pc := 90) (tgt := 113) hx hb dX0_compare_90 (by decide) (fun q8 => ?_) (fun q8 => ?_)
        · replace hf := if_t q8 hf
          have hf := Option.some.inj hf
          subst hf
          exact zk_retv (pc := 113) (ww := [xSe a0 a1 a2 a3 b_this.1 b_this.2.1 b_this.2.2.1, xI cy a1 4 b_this.2.2.2.1, xI cy a2 4 b_this.2.2.2.2.1, xRT cy a3 5 (fun j => [some a4, some a5, some a6, some a7, some a8].getD j none), xTe a4 ((b_this.2.2.2.2.2 0)), xTe a5 ((b_this.2.2.2.2.2 1)), xTe a6 ((b_this.2.2.2.2.2 2)), xTe a7 ((b_this.2.2.2.2.2 3)), xTe a8 ((b_this.2.2.2.2.2 4))]) C hw hr hQ dX0_compare_113
        · replace hf := if_f q8 hf
          refine lv_aload_n (pc := 93) hx hb dX0_compare_93 rfl (lv_at hl 0 rfl) ?_
          refine zk_gt (pc := 94) C hw zl_X0_26 0 rfl rfl dX0_compare_94 ?_
          refine lv_iload (pc := 97) hx hb dX0_compare_97 (lv_at hl 2 rfl) ?_
          refine lv_aload_n (pc := 99) hx hb dX0_compare_99 rfl (lv_at hl 0 rfl) ?_
          refine zk_gt (pc := 100) C hw zl_X0_22 0 rfl rfl dX0_compare_100 ?_
          refine lv_iload (pc := 103) hx hb dX0_compare_103 (lv_at hl 2 rfl) ?_
          obtain ⟨q9, hf⟩ := ck hf
          refine zk_iald (pc := 105) C hw 1 rfl q9 dX0_compare_105 ?_
          obtain ⟨q10, hf⟩ := ck hf
          refine zk_iast (pc := 106) (w' := [xSe a0 a1 a2 a3 b_this.1 b_this.2.1 b_this.2.2.1, xI cy a1 4 b_this.2.2.2.1, xI cy a2 4 ((upd b_this.2.2.2.2.1 v5.toNatClampNeg ((b_this.2.2.2.1 v5.toNatClampNeg)))), xRT cy a3 5 (fun j => [some a4, some a5, some a6, some a7, some a8].getD j none), xTe a4 ((b_this.2.2.2.2.2 0)), xTe a5 ((b_this.2.2.2.2.2 1)), xTe a6 ((b_this.2.2.2.2.2 2)), xTe a7 ((b_this.2.2.2.2.2 3)), xTe a8 ((b_this.2.2.2.2.2 4))]) C hw 2 rfl q10 rfl dX0_compare_106 (fun H locs hw => ?_)
          refine lv_iinc (pc := 107) (v := (v5 + 1)) (lv' := [(5, .int ((v5 + 1))), (0, .ref a0), (1, .int v1)]) hx hb dX0_compare_107 hl (k := 2) rfl rfl (by decide) rfl (fun ls hl => ?_)
          refine lv_goto (pc := 110) (tgt := 81) hx hb dX0_compare_110 (by decide) ?_
          exact ih v1 ((v5 + 1)) ((b_this.1, b_this.2.1, b_this.2.2.1, b_this.2.2.2.1, (upd b_this.2.2.2.2.1 v5.toNatClampNeg ((b_this.2.2.2.1 v5.toNatClampNeg))), b_this.2.2.2.2.2)) _ _ _ hf hw (lv_sub hl [1, 2, 0] rfl)
  have J62 : ∀ (v1 : Int32) (v2 : Int32) (v4 : Int32) (b_this : TSe) (H : Heap) (locs : List Loc) (ls : Array Slot), zf_X0_compare_l3_62 v1 v2 v4 b_this = some res → zWd G A s.heap H locs [xSe a0 a1 a2 a3 b_this.1 b_this.2.1 b_this.2.2.1, xI cy a1 4 b_this.2.2.2.1, xI cy a2 4 b_this.2.2.2.2.1, xRT cy a3 5 (fun j => [some a4, some a5, some a6, some a7, some a8].getD j none), xTe a4 ((b_this.2.2.2.2.2 0)), xTe a5 ((b_this.2.2.2.2.2 1)), xTe a6 ((b_this.2.2.2.2.2 2)), xTe a7 ((b_this.2.2.2.2.2 3)), xTe a8 ((b_this.2.2.2.2.2 4))] → lv_has ls 6 [(0, .ref a0), (1, .int v1), (2, .int v2), (4, .int v4)] → W p l e zr_X0_compare_l3 s m args below meth c H locs 0 0 Q (F0 m 62 ls []) := by
    intro v1 v2 v4 b_this H locs ls hf hw hl
    rw [zf_X0_compare_l3_62] at hf
    refine lv_aload_n (pc := 62) hx hb dX0_compare_62 rfl (lv_at hl 0 rfl) ?_
    refine lv_iconst (pc := 63) (v := 1) hx hb dX0_compare_63 (by decide) ?_
    refine zk_put (pc := 64) (v := .int (bI true)) (w' := [xSe a0 a1 a2 a3 b_this.1 b_this.2.1 true, xI cy a1 4 b_this.2.2.2.1, xI cy a2 4 b_this.2.2.2.2.1, xRT cy a3 5 (fun j => [some a4, some a5, some a6, some a7, some a8].getD j none), xTe a4 ((b_this.2.2.2.2.2 0)), xTe a5 ((b_this.2.2.2.2.2 1)), xTe a6 ((b_this.2.2.2.2.2 2)), xTe a7 ((b_this.2.2.2.2.2 3)), xTe a8 ((b_this.2.2.2.2.2 4))]) C hw zp_X0_18 0 rfl (bI_nar _) (bI_fit _) (Nat.le_of_ble_eq_true rfl) rfl dX0_compare_64 (fun H locs hw => ?_)
    refine lv_aload_n (pc := 67) hx hb dX0_compare_67 rfl (lv_at hl 0 rfl) ?_
    refine lv_iload_n (pc := 68) hx hb dX0_compare_68 rfl (lv_at hl 2 rfl) ?_
    refine zk_put (pc := 69) (w' := [xSe a0 a1 a2 a3 v2 b_this.2.1 true, xI cy a1 4 b_this.2.2.2.1, xI cy a2 4 b_this.2.2.2.2.1, xRT cy a3 5 (fun j => [some a4, some a5, some a6, some a7, some a8].getD j none), xTe a4 ((b_this.2.2.2.2.2 0)), xTe a5 ((b_this.2.2.2.2.2 1)), xTe a6 ((b_this.2.2.2.2.2 2)), xTe a7 ((b_this.2.2.2.2.2 3)), xTe a8 ((b_this.2.2.2.2.2 4))]) C hw zp_X0_9 0 rfl rfl rfl (Nat.le_of_ble_eq_true rfl) rfl dX0_compare_69 (fun H locs hw => ?_)
    refine lv_aload_n (pc := 72) hx hb dX0_compare_72 rfl (lv_at hl 0 rfl) ?_
    refine lv_iload (pc := 73) hx hb dX0_compare_73 (lv_at hl 3 rfl) ?_
    refine zk_put (pc := 75) (w' := [xSe a0 a1 a2 a3 v2 v4 true, xI cy a1 4 b_this.2.2.2.1, xI cy a2 4 b_this.2.2.2.2.1, xRT cy a3 5 (fun j => [some a4, some a5, some a6, some a7, some a8].getD j none), xTe a4 ((b_this.2.2.2.2.2 0)), xTe a5 ((b_this.2.2.2.2.2 1)), xTe a6 ((b_this.2.2.2.2.2 2)), xTe a7 ((b_this.2.2.2.2.2 3)), xTe a8 ((b_this.2.2.2.2.2 4))]) C hw zp_X0_15 0 rfl rfl rfl (Nat.le_of_ble_eq_true rfl) rfl dX0_compare_75 (fun H locs hw => ?_)
    refine lv_iconst (pc := 78) (v := 0) hx hb dX0_compare_78 (by decide) ?_
    refine lv_istore (pc := 79) (lv' := [(5, .int ((0 : Int32))), (0, .ref a0), (1, .int v1), (2, .int v2), (4, .int v4)]) hx hb dX0_compare_79 hl (by decide) rfl (fun ls hl => ?_)
    exact J81 FU v1 ((0 : Int32)) ((v2, v4, true, b_this.2.2.2.1, b_this.2.2.2.2.1, b_this.2.2.2.2.2)) _ _ _ hf hw (lv_sub hl [1, 2, 0] rfl)
  have J27 : ∀ (v1 : Int32) (v2 : Int32) (t0 : Int32) (b_this : TSe) (H : Heap) (locs : List Loc) (ls : Array Slot), zf_X0_compare_l3_27 v1 v2 t0 b_this = some res → zWd G A s.heap H locs [xSe a0 a1 a2 a3 b_this.1 b_this.2.1 b_this.2.2.1, xI cy a1 4 b_this.2.2.2.1, xI cy a2 4 b_this.2.2.2.2.1, xRT cy a3 5 (fun j => [some a4, some a5, some a6, some a7, some a8].getD j none), xTe a4 ((b_this.2.2.2.2.2 0)), xTe a5 ((b_this.2.2.2.2.2 1)), xTe a6 ((b_this.2.2.2.2.2 2)), xTe a7 ((b_this.2.2.2.2.2 3)), xTe a8 ((b_this.2.2.2.2.2 4))] → lv_has ls 6 [(0, .ref a0), (1, .int v1), (2, .int v2)] → W p l e zr_X0_compare_l3 s m args below meth c H locs 0 0 Q (F0 m 27 ls [.int t0]) := by
    intro v1 v2 t0 b_this H locs ls hf hw hl
    rw [zf_X0_compare_l3_27] at hf
    refine lv_istore (pc := 27) (lv' := [(4, .int t0), (0, .ref a0), (1, .int v1), (2, .int v2)]) hx hb dX0_compare_27 hl (by decide) rfl (fun ls hl => ?_)
    refine lv_aload_n (pc := 29) hx hb dX0_compare_29 rfl (lv_at hl 1 rfl) ?_
    refine zk_gt (pc := 30) C hw zl_X0_18 0 rfl rfl dX0_compare_30 ?_
    refine zk_ifz (pc := 33) (tgt := 62) hx hb dX0_compare_33 (by decide) (fun q3 => ?_) (fun q3 => ?_)
    · replace hf := if_f q3 hf
      exact J62 v1 v2 t0 b_this _ _ _ hf hw (lv_sub hl [1, 2, 3, 0] rfl)
    · replace hf := if_t q3 hf
      refine lv_iload_n (pc := 36) hx hb dX0_compare_36 rfl (lv_at hl 3 rfl) ?_
      refine lv_aload_n (pc := 37) hx hb dX0_compare_37 rfl (lv_at hl 1 rfl) ?_
      refine zk_gt (pc := 38) C hw zl_X0_9 0 rfl rfl dX0_compare_38 ?_
      refine lv_icmp_gt (pc := 41) (tgt := 61) hx hb dX0_compare_41 (by decide) (fun q4 => ?_) (fun q4 => ?_)
      · replace hf := if_t q4 hf
        have hf := Option.some.inj hf
        subst hf
        exact zk_retv (pc := 61) (ww := [xSe a0 a1 a2 a3 b_this.1 b_this.2.1 b_this.2.2.1, xI cy a1 4 b_this.2.2.2.1, xI cy a2 4 b_this.2.2.2.2.1, xRT cy a3 5 (fun j => [some a4, some a5, some a6, some a7, some a8].getD j none), xTe a4 ((b_this.2.2.2.2.2 0)), xTe a5 ((b_this.2.2.2.2.2 1)), xTe a6 ((b_this.2.2.2.2.2 2)), xTe a7 ((b_this.2.2.2.2.2 3)), xTe a8 ((b_this.2.2.2.2.2 4))]) C hw hr hQ dX0_compare_61
      · replace hf := if_f q4 hf
        refine lv_iload_n (pc := 44) hx hb dX0_compare_44 rfl (lv_at hl 3 rfl) ?_
        refine lv_aload_n (pc := 45) hx hb dX0_compare_45 rfl (lv_at hl 1 rfl) ?_
        refine zk_gt (pc := 46) C hw zl_X0_9 0 rfl rfl dX0_compare_46 ?_
        refine lv_icmp_ne (pc := 49) (tgt := 62) hx hb dX0_compare_49 (by decide) (fun q5 => ?_) (fun q5 => ?_)
        · replace hf := if_f q5 hf
          exact J62 v1 v2 t0 b_this _ _ _ hf hw (lv_sub hl [1, 2, 3, 0] rfl)
        · replace hf := if_t q5 hf
          refine lv_iload (pc := 52) hx hb dX0_compare_52 (lv_at hl 0 rfl) ?_
          refine lv_aload_n (pc := 54) hx hb dX0_compare_54 rfl (lv_at hl 1 rfl) ?_
          refine zk_gt (pc := 55) C hw zl_X0_15 0 rfl rfl dX0_compare_55 ?_
          refine lv_icmp_lt (pc := 58) (tgt := 62) hx hb dX0_compare_58 (by decide) (fun q6 => ?_) (fun q6 => ?_)
          · replace hf := if_t q6 hf
            exact J62 v1 v2 t0 b_this _ _ _ hf hw (lv_sub hl [1, 2, 3, 0] rfl)
          · replace hf := if_f q6 hf
            have hf := Option.some.inj hf
            subst hf
            exact zk_retv (pc := 61) (ww := [xSe a0 a1 a2 a3 b_this.1 b_this.2.1 b_this.2.2.1, xI cy a1 4 b_this.2.2.2.1, xI cy a2 4 b_this.2.2.2.2.1, xRT cy a3 5 (fun j => [some a4, some a5, some a6, some a7, some a8].getD j none), xTe a4 ((b_this.2.2.2.2.2 0)), xTe a5 ((b_this.2.2.2.2.2 1)), xTe a6 ((b_this.2.2.2.2.2 2)), xTe a7 ((b_this.2.2.2.2.2 3)), xTe a8 ((b_this.2.2.2.2.2 4))]) C hw hr hQ dX0_compare_61
  have J25 : ∀ (v1 : Int32) (v2 : Int32) (b_this : TSe) (H : Heap) (locs : List Loc) (ls : Array Slot), zf_X0_compare_l3_25 v1 v2 b_this = some res → zWd G A s.heap H locs [xSe a0 a1 a2 a3 b_this.1 b_this.2.1 b_this.2.2.1, xI cy a1 4 b_this.2.2.2.1, xI cy a2 4 b_this.2.2.2.2.1, xRT cy a3 5 (fun j => [some a4, some a5, some a6, some a7, some a8].getD j none), xTe a4 ((b_this.2.2.2.2.2 0)), xTe a5 ((b_this.2.2.2.2.2 1)), xTe a6 ((b_this.2.2.2.2.2 2)), xTe a7 ((b_this.2.2.2.2.2 3)), xTe a8 ((b_this.2.2.2.2.2 4))] → lv_has ls 6 [(0, .ref a0), (1, .int v1), (2, .int v2)] → W p l e zr_X0_compare_l3 s m args below meth c H locs 0 0 Q (F0 m 25 ls []) := by
    intro v1 v2 b_this H locs ls hf hw hl
    rw [zf_X0_compare_l3_25] at hf
    refine lv_bipush (pc := 25) (v := 99) hx hb dX0_compare_25 (by decide) ?_
    exact J27 v1 v2 ((99 : Int32)) b_this _ _ _ hf hw (lv_sub hl [0, 1, 2] rfl)
  rw [zf_X0_compare_l3] at hf
  refine lv_iload_n (pc := 0) hx hb dX0_compare_0 rfl (lv_at hl 3 rfl) ?_
  refine lv_if_lt (pc := 1) (tgt := 25) hx hb dX0_compare_1 (by decide) (fun q1 => ?_) (fun q1 => ?_)
  · replace hf := if_t q1 hf
    exact J25 x1 x2 b_this _ _ _ hf hw (lv_sub hl [0, 1, 2] rfl)
  · replace hf := if_f q1 hf
    refine lv_iload_n (pc := 4) hx hb dX0_compare_4 rfl (lv_at hl 3 rfl) ?_
    refine lv_aload_n (pc := 5) hx hb dX0_compare_5 rfl (lv_at hl 0 rfl) ?_
    refine zk_gt (pc := 6) C hw zl_X0_32 0 rfl rfl dX0_compare_6 ?_
    refine zk_alen (pc := 9) (v := 5) C hw 3 4 rfl rfl rfl dX0_compare_9 ?_
    refine lv_icmp_ge (pc := 10) (tgt := 25) hx hb dX0_compare_10 (by decide) (fun q2 => ?_) (fun q2 => ?_)
    · replace hf := if_t q2 hf
      exact J25 x1 x2 b_this _ _ _ hf hw (lv_sub hl [0, 1, 2] rfl)
    · replace hf := if_f q2 hf
      refine lv_aload_n (pc := 13) hx hb dX0_compare_13 rfl (lv_at hl 0 rfl) ?_
      refine zk_gt (pc := 14) C hw zl_X0_32 0 rfl rfl dX0_compare_14 ?_
      refine lv_iload_n (pc := 17) hx hb dX0_compare_17 rfl (lv_at hl 3 rfl) ?_
      refine zk_aaldT (pc := 18) (a' := a7) 3 (by decide) C hw 3 rfl (by decide) rfl dX0_compare_18 ?_
      refine zk_gt (pc := 19) C hw zl_X0_71 7 rfl rfl dX0_compare_19 ?_
      refine lv_goto (pc := 22) (tgt := 27) hx hb dX0_compare_22 (by decide) ?_
      exact J27 x1 x2 (((b_this.2.2.2.2.2 3)).1) b_this _ _ _ hf hw (lv_sub hl [0, 1, 2] rfl)
def zf_X0_compare_l4_81 : Nat → Int32 → Int32 → TSe → Option (TSe)
  | 0, _, _, _ => none
  | n + 1, v1, v5, b_this => (if v1 ≤ v5 then some (b_this) else (if (4 : Int32) ≤ v5 then some (b_this) else (if ix v5 4 then (if ix v5 4 then zf_X0_compare_l4_81 n v1 ((v5 + 1)) ((b_this.1, b_this.2.1, b_this.2.2.1, b_this.2.2.2.1, (upd b_this.2.2.2.2.1 v5.toNatClampNeg ((b_this.2.2.2.1 v5.toNatClampNeg))), b_this.2.2.2.2.2)) else none) else none)))
def zf_X0_compare_l4_62 (v1 : Int32) (v2 : Int32) (v4 : Int32) (b_this : TSe) : Option (TSe) := zf_X0_compare_l4_81 FU v1 ((0 : Int32)) ((v2, v4, true, b_this.2.2.2.1, b_this.2.2.2.2.1, b_this.2.2.2.2.2))
def zf_X0_compare_l4_27 (v1 : Int32) (v2 : Int32) (t0 : Int32) (b_this : TSe) : Option (TSe) := (if b_this.2.2.1 then (if b_this.1 < v2 then some (b_this) else (if v2 = b_this.1 then (if t0 < b_this.2.1 then zf_X0_compare_l4_62 v1 v2 t0 b_this else some (b_this)) else zf_X0_compare_l4_62 v1 v2 t0 b_this)) else zf_X0_compare_l4_62 v1 v2 t0 b_this)
def zf_X0_compare_l4_25 (v1 : Int32) (v2 : Int32) (b_this : TSe) : Option (TSe) := zf_X0_compare_l4_27 v1 v2 ((99 : Int32)) b_this
def zf_X0_compare_l4 (x1 : Int32) (x2 : Int32) (b_this : TSe) : Option (TSe) := (if (4 : Int32) < 0 then zf_X0_compare_l4_25 x1 x2 b_this else (if (5 : Int32) ≤ (4 : Int32) then zf_X0_compare_l4_25 x1 x2 b_this else zf_X0_compare_l4_27 x1 x2 (((b_this.2.2.2.2.2 4)).1) b_this))
abbrev zr_X0_compare_l4 : Room := { frames := 0, cells := 0, slots := 0, locals := 0 }
set_option maxHeartbeats 4000000 in
set_option maxRecDepth 100000 in
theorem c_X0_compare_l4 (l : Launch) (G : va_G) (cy : Nat → ClassId) (tt : Nat → Nat) (a0 a1 a2 a3 a4 a5 a6 a7 a8 : Nat) (x1 : Int32) (x2 : Int32) (b_this : TSe) (res : TSe) (hf : zf_X0_compare_l4 x1 x2 b_this = some res) : zCT l yX0_compare cX0_compare 6 none zr_X0_compare_l4 G cy tt [.ref a0, .int x1, .int x2, .int ((4 : Int32))] [xSe a0 a1 a2 a3 b_this.1 b_this.2.1 b_this.2.2.1, xI cy a1 4 b_this.2.2.2.1, xI cy a2 4 b_this.2.2.2.2.1, xRT cy a3 5 (fun j => [some a4, some a5, some a6, some a7, some a8].getD j none), xTe a4 ((b_this.2.2.2.2.2 0)), xTe a5 ((b_this.2.2.2.2.2 1)), xTe a6 ((b_this.2.2.2.2.2 2)), xTe a7 ((b_this.2.2.2.2.2 3)), xTe a8 ((b_this.2.2.2.2.2 4))] none [xSe a0 a1 a2 a3 res.1 res.2.1 res.2.2.1, xI cy a1 4 res.2.2.2.1, xI cy a2 4 res.2.2.2.2.1, xRT cy a3 5 (fun j => [some a4, some a5, some a6, some a7, some a8].getD j none), xTe a4 ((res.2.2.2.2.2 0)), xTe a5 ((res.2.2.2.2.2 1)), xTe a6 ((res.2.2.2.2.2 2)), xTe a7 ((res.2.2.2.2.2 3)), xTe a8 ((res.2.2.2.2.2 4))] := by
  refine zk_start zn_X0 (Nat.le_of_ble_eq_true rfl) ?_
  intro p e s m args below meth c A ls Q C hr hQ hw hl
  have C : zCx p m c s args meth cX0_compare 6 RX0 G cy tt A := C
  have hx := C.1.1
  have hb := C.1.2.1
  have hl : lv_has ls 6 [(0, .ref a0), (1, .int x1), (2, .int x2), (3, .int ((4 : Int32)))] := hl
  have J81 : ∀ (n : Nat), ∀ (v1 : Int32) (v5 : Int32) (b_this : TSe) (H : Heap) (locs : List Loc) (ls : Array Slot), zf_X0_compare_l4_81 n v1 v5 b_this = some res → zWd G A s.heap H locs [xSe a0 a1 a2 a3 b_this.1 b_this.2.1 b_this.2.2.1, xI cy a1 4 b_this.2.2.2.1, xI cy a2 4 b_this.2.2.2.2.1, xRT cy a3 5 (fun j => [some a4, some a5, some a6, some a7, some a8].getD j none), xTe a4 ((b_this.2.2.2.2.2 0)), xTe a5 ((b_this.2.2.2.2.2 1)), xTe a6 ((b_this.2.2.2.2.2 2)), xTe a7 ((b_this.2.2.2.2.2 3)), xTe a8 ((b_this.2.2.2.2.2 4))] → lv_has ls 6 [(0, .ref a0), (1, .int v1), (5, .int v5)] → W p l e zr_X0_compare_l4 s m args below meth c H locs 0 0 Q (F0 m 81 ls []) := by
    intro n
    induction n with
    | zero =>
      intro v1 v5 b_this H locs ls hf hw hl
      rw [zf_X0_compare_l4_81] at hf
      cases hf
    | succ n ih =>
      intro v1 v5 b_this H locs ls hf hw hl
      rw [zf_X0_compare_l4_81] at hf
      refine lv_iload (pc := 81) hx hb dX0_compare_81 (lv_at hl 2 rfl) ?_
      refine lv_iload_n (pc := 83) hx hb dX0_compare_83 rfl (lv_at hl 1 rfl) ?_
      refine lv_icmp_ge (pc := 84) (tgt := 113) hx hb dX0_compare_84 (by decide) (fun q7 => ?_) (fun q7 => ?_)
      · replace hf := if_t q7 hf
        have hf := Option.some.inj hf
        subst hf
        exact zk_retv (pc := 113) (ww := [xSe a0 a1 a2 a3 b_this.1 b_this.2.1 b_this.2.2.1, xI cy a1 4 b_this.2.2.2.1, xI cy a2 4 b_this.2.2.2.2.1, xRT cy a3 5 (fun j => [some a4, some a5, some a6, some a7, some a8].getD j none), xTe a4 ((b_this.2.2.2.2.2 0)), xTe a5 ((b_this.2.2.2.2.2 1)), xTe a6 ((b_this.2.2.2.2.2 2)), xTe a7 ((b_this.2.2.2.2.2 3)), xTe a8 ((b_this.2.2.2.2.2 4))]) C hw hr hQ dX0_compare_113
      · replace hf := if_f q7 hf
        refine lv_iload (pc := 87) hx hb dX0_compare_87 (lv_at hl 2 rfl) ?_
        refine lv_iconst (pc := 89) (v := 4) hx hb dX0_compare_89 (by decide) ?_
        refine lv_icmp_ge (pc := 90) (tgt := 113) hx hb dX0_compare_90 (by decide) (fun q8 => ?_) (fun q8 => ?_)
        · replace hf := if_t q8 hf
          have hf := Option.some.inj hf
          subst hf
          exact zk_retv (pc := 113) (ww := [xSe a0 a1 a2 a3 b_this.1 b_this.2.1 b_this.2.2.1, xI cy a1 4 b_this.2.2.2.1, xI cy a2 4 b_this.2.2.2.2.1, xRT cy a3 5 (fun j => [some a4, some a5, some a6, some a7, some a8].getD j none), xTe a4 ((b_this.2.2.2.2.2 0)), xTe a5 ((b_this.2.2.2.2.2 1)), xTe a6 ((b_this.2.2.2.2.2 2)), xTe a7 ((b_this.2.2.2.2.2 3)), xTe a8 ((b_this.2.2.2.2.2 4))]) C hw hr hQ dX0_compare_113
        · replace hf := if_f q8 hf
          refine lv_aload_n (pc := 93) hx hb dX0_compare_93 rfl (lv_at hl 0 rfl) ?_
          refine zk_gt (pc := 94) C hw zl_X0_26 0 rfl rfl dX0_compare_94 ?_
          refine lv_iload (pc := 97) hx hb dX0_compare_97 (lv_at hl 2 rfl) ?_
          refine lv_aload_n (pc := 99) hx hb dX0_compare_99 rfl (lv_at hl 0 rfl) ?_
          refine zk_gt (pc := 100) C hw zl_X0_22 0 rfl rfl dX0_compare_100 ?_
          refine lv_iload (pc := 103) hx hb dX0_compare_103 (lv_at hl 2 rfl) ?_
          obtain ⟨q9, hf⟩ := ck hf
          refine zk_iald (pc := 105) C hw 1 rfl q9 dX0_compare_105 ?_
          obtain ⟨q10, hf⟩ := ck hf
          refine zk_iast (pc := 106) (w' := [xSe a0 a1 a2 a3 b_this.1 b_this.2.1 b_this.2.2.1, xI cy a1 4 b_this.2.2.2.1, xI cy a2 4 ((upd b_this.2.2.2.2.1 v5.toNatClampNeg ((b_this.2.2.2.1 v5.toNatClampNeg)))), xRT cy a3 5 (fun j => [some a4, some a5, some a6, some a7, some a8].getD j none), xTe a4 ((b_this.2.2.2.2.2 0)), xTe a5 ((b_this.2.2.2.2.2 1)), xTe a6 ((b_this.2.2.2.2.2 2)), xTe a7 ((b_this.2.2.2.2.2 3)), xTe a8 ((b_this.2.2.2.2.2 4))]) C hw 2 rfl q10 rfl dX0_compare_106 (fun H locs hw => ?_)
          refine lv_iinc (pc := 107) (v := (v5 + 1)) (lv' := [(5, .int ((v5 + 1))), (0, .ref a0), (1, .int v1)]) hx hb dX0_compare_107 hl (k := 2) rfl rfl (by decide) rfl (fun ls hl => ?_)
          refine lv_goto (pc := 110) (tgt := 81) hx hb dX0_compare_110 (by decide) ?_
          exact ih v1 ((v5 + 1)) ((b_this.1, b_this.2.1, b_this.2.2.1, b_this.2.2.2.1, (upd b_this.2.2.2.2.1 v5.toNatClampNeg ((b_this.2.2.2.1 v5.toNatClampNeg))), b_this.2.2.2.2.2)) _ _ _ hf hw (lv_sub hl [1, 2, 0] rfl)
  have J62 : ∀ (v1 : Int32) (v2 : Int32) (v4 : Int32) (b_this : TSe) (H : Heap) (locs : List Loc) (ls : Array Slot), zf_X0_compare_l4_62 v1 v2 v4 b_this = some res → zWd G A s.heap H locs [xSe a0 a1 a2 a3 b_this.1 b_this.2.1 b_this.2.2.1, xI cy a1 4 b_this.2.2.2.1, xI cy a2 4 b_this.2.2.2.2.1, xRT cy a3 5 (fun j => [some a4, some a5, some a6, some a7, some a8].getD j none), xTe a4 ((b_this.2.2.2.2.2 0)), xTe a5 ((b_this.2.2.2.2.2 1)), xTe a6 ((b_this.2.2.2.2.2 2)), xTe a7 ((b_this.2.2.2.2.2 3)), xTe a8 ((b_this.2.2.2.2.2 4))] → lv_has ls 6 [(0, .ref a0), (1, .int v1), (2, .int v2), (4, .int v4)] → W p l e zr_X0_compare_l4 s m args below meth c H locs 0 0 Q (F0 m 62 ls []) := by
    intro v1 v2 v4 b_this H locs ls hf hw hl
    rw [zf_X0_compare_l4_62] at hf
    refine lv_aload_n (pc := 62) hx hb dX0_compare_62 rfl (lv_at hl 0 rfl) ?_
    refine lv_iconst (pc := 63) (v := 1) hx hb dX0_compare_63 (by decide) ?_
    refine zk_put (pc := 64) (v := .int (bI true)) (w' := [xSe a0 a1 a2 a3 b_this.1 b_this.2.1 true, xI cy a1 4 b_this.2.2.2.1, xI cy a2 4 b_this.2.2.2.2.1, xRT cy a3 5 (fun j => [some a4, some a5, some a6, some a7, some a8].getD j none), xTe a4 ((b_this.2.2.2.2.2 0)), xTe a5 ((b_this.2.2.2.2.2 1)), xTe a6 ((b_this.2.2.2.2.2 2)), xTe a7 ((b_this.2.2.2.2.2 3)), xTe a8 ((b_this.2.2.2.2.2 4))]) C hw zp_X0_18 0 rfl (bI_nar _) (bI_fit _) (Nat.le_of_ble_eq_true rfl) rfl dX0_compare_64 (fun H locs hw => ?_)
    refine lv_aload_n (pc := 67) hx hb dX0_compare_67 rfl (lv_at hl 0 rfl) ?_
    refine lv_iload_n (pc := 68) hx hb dX0_compare_68 rfl (lv_at hl 2 rfl) ?_
    refine zk_put (pc := 69) (w' := [xSe a0 a1 a2 a3 v2 b_this.2.1 true, xI cy a1 4 b_this.2.2.2.1, xI cy a2 4 b_this.2.2.2.2.1, xRT cy a3 5 (fun j => [some a4, some a5, some a6, some a7, some a8].getD j none), xTe a4 ((b_this.2.2.2.2.2 0)), xTe a5 ((b_this.2.2.2.2.2 1)), xTe a6 ((b_this.2.2.2.2.2 2)), xTe a7 ((b_this.2.2.2.2.2 3)), xTe a8 ((b_this.2.2.2.2.2 4))]) C hw zp_X0_9 0 rfl rfl rfl (Nat.le_of_ble_eq_true rfl) rfl dX0_compare_69 (fun H locs hw => ?_)
    refine lv_aload_n (pc := 72) hx hb dX0_compare_72 rfl (lv_at hl 0 rfl) ?_
    refine lv_iload (pc := 73) hx hb dX0_compare_73 (lv_at hl 3 rfl) ?_
    refine zk_put (pc := 75) (w' := [xSe a0 a1 a2 a3 v2 v4 true, xI cy a1 4 b_this.2.2.2.1, xI cy a2 4 b_this.2.2.2.2.1, xRT cy a3 5 (fun j => [some a4, some a5, some a6, some a7, some a8].getD j none), xTe a4 ((b_this.2.2.2.2.2 0)), xTe a5 ((b_this.2.2.2.2.2 1)), xTe a6 ((b_this.2.2.2.2.2 2)), xTe a7 ((b_this.2.2.2.2.2 3)), xTe a8 ((b_this.2.2.2.2.2 4))]) C hw zp_X0_15 0 rfl rfl rfl (Nat.le_of_ble_eq_true rfl) rfl dX0_compare_75 (fun H locs hw => ?_)
    refine lv_iconst (pc := 78) (v := 0) hx hb dX0_compare_78 (by decide) ?_
    refine lv_istore (pc := 79) (lv' := [(5, .int ((0 : Int32))), (0, .ref a0), (1, .int v1), (2, .int v2), (4, .int v4)]) hx hb dX0_compare_79 hl (by decide) rfl (fun ls hl => ?_)
    exact J81 FU v1 ((0 : Int32)) ((v2, v4, true, b_this.2.2.2.1, b_this.2.2.2.2.1, b_this.2.2.2.2.2)) _ _ _ hf hw (lv_sub hl [1, 2, 0] rfl)
  have J27 : ∀ (v1 : Int32) (v2 : Int32) (t0 : Int32) (b_this : TSe) (H : Heap) (locs : List Loc) (ls : Array Slot), zf_X0_compare_l4_27 v1 v2 t0 b_this = some res → zWd G A s.heap H locs [xSe a0 a1 a2 a3 b_this.1 b_this.2.1 b_this.2.2.1, xI cy a1 4 b_this.2.2.2.1, xI cy a2 4 b_this.2.2.2.2.1, xRT cy a3 5 (fun j => [some a4, some a5, some a6, some a7, some a8].getD j none), xTe a4 ((b_this.2.2.2.2.2 0)), xTe a5 ((b_this.2.2.2.2.2 1)), xTe a6 ((b_this.2.2.2.2.2 2)), xTe a7 ((b_this.2.2.2.2.2 3)), xTe a8 ((b_this.2.2.2.2.2 4))] → lv_has ls 6 [(0, .ref a0), (1, .int v1), (2, .int v2)] → W p l e zr_X0_compare_l4 s m args below meth c H locs 0 0 Q (F0 m 27 ls [.int t0]) := by
    intro v1 v2 t0 b_this H locs ls hf hw hl
    rw [zf_X0_compare_l4_27] at hf
    refine lv_istore (pc := 27) (lv' := [(4, .int t0), (0, .ref a0), (1, .int v1), (2, .int v2)]) hx hb dX0_compare_27 hl (by decide) rfl (fun ls hl => ?_)
    refine lv_aload_n (pc := 29) hx hb dX0_compare_29 rfl (lv_at hl 1 rfl) ?_
    refine zk_gt (pc := 30) C hw zl_X0_18 0 rfl rfl dX0_compare_30 ?_
    refine zk_ifz (pc := 33) (tgt := 62) hx hb dX0_compare_33 (by decide) (fun q3 => ?_) (fun q3 => ?_)
    · replace hf := if_f q3 hf
      exact J62 v1 v2 t0 b_this _ _ _ hf hw (lv_sub hl [1, 2, 3, 0] rfl)
    · replace hf := if_t q3 hf
      refine lv_iload_n (pc := 36) hx hb dX0_compare_36 rfl (lv_at hl 3 rfl) ?_
      refine lv_aload_n (pc := 37) hx hb dX0_compare_37 rfl (lv_at hl 1 rfl) ?_
      refine zk_gt (pc := 38) C hw zl_X0_9 0 rfl rfl dX0_compare_38 ?_
      refine lv_icmp_gt (pc := 41) (tgt := 61) hx hb dX0_compare_41 (by decide) (fun q4 => ?_) (fun q4 => ?_)
      · replace hf := if_t q4 hf
        have hf := Option.some.inj hf
        subst hf
        exact zk_retv (pc := 61) (ww := [xSe a0 a1 a2 a3 b_this.1 b_this.2.1 b_this.2.2.1, xI cy a1 4 b_this.2.2.2.1, xI cy a2 4 b_this.2.2.2.2.1, xRT cy a3 5 (fun j => [some a4, some a5, some a6, some a7, some a8].getD j none), xTe a4 ((b_this.2.2.2.2.2 0)), xTe a5 ((b_this.2.2.2.2.2 1)), xTe a6 ((b_this.2.2.2.2.2 2)), xTe a7 ((b_this.2.2.2.2.2 3)), xTe a8 ((b_this.2.2.2.2.2 4))]) C hw hr hQ dX0_compare_61
      · replace hf := if_f q4 hf
        refine lv_iload_n (pc := 44) hx hb dX0_compare_44 rfl (lv_at hl 3 rfl) ?_
        refine lv_aload_n (pc := 45) hx hb dX0_compare_45 rfl (lv_at hl 1 rfl) ?_
        refine zk_gt (pc := 46) C hw zl_X0_9 0 rfl rfl dX0_compare_46 ?_
        refine lv_icmp_ne (pc := 49) (tgt := 62) hx hb dX0_compare_49 (by decide) (fun q5 => ?_) (fun q5 => ?_)
        · replace hf := if_f q5 hf
          exact J62 v1 v2 t0 b_this _ _ _ hf hw (lv_sub hl [1, 2, 3, 0] rfl)
        · replace hf := if_t q5 hf
          refine lv_iload (pc := 52) hx hb dX0_compare_52 (lv_at hl 0 rfl) ?_
          refine lv_aload_n (pc := 54) hx hb dX0_compare_54 rfl (lv_at hl 1 rfl) ?_
          refine zk_gt (pc := 55) C hw zl_X0_15 0 rfl rfl dX0_compare_55 ?_
          refine lv_icmp_lt (pc := 58) (tgt := 62) hx hb dX0_compare_58 (by decide) (fun q6 => ?_) (fun q6 => ?_)
          · replace hf := if_t q6 hf
            exact J62 v1 v2 t0 b_this _ _ _ hf hw (lv_sub hl [1, 2, 3, 0] rfl)
          · replace hf := if_f q6 hf
            have hf := Option.some.inj hf
            subst hf
            exact zk_retv (pc := 61) (ww := [xSe a0 a1 a2 a3 b_this.1 b_this.2.1 b_this.2.2.1, xI cy a1 4 b_this.2.2.2.1, xI cy a2 4 b_this.2.2.2.2.1, xRT cy a3 5 (fun j => [some a4, some a5, some a6, some a7, some a8].getD j none), xTe a4 ((b_this.2.2.2.2.2 0)), xTe a5 ((b_this.2.2.2.2.2 1)), xTe a6 ((b_this.2.2.2.2.2 2)), xTe a7 ((b_this.2.2.2.2.2 3)), xTe a8 ((b_this.2.2.2.2.2 4))]) C hw hr hQ dX0_compare_61
  have J25 : ∀ (v1 : Int32) (v2 : Int32) (b_this : TSe) (H : Heap) (locs : List Loc) (ls : Array Slot), zf_X0_compare_l4_25 v1 v2 b_this = some res → zWd G A s.heap H locs [xSe a0 a1 a2 a3 b_this.1 b_this.2.1 b_this.2.2.1, xI cy a1 4 b_this.2.2.2.1, xI cy a2 4 b_this.2.2.2.2.1, xRT cy a3 5 (fun j => [some a4, some a5, some a6, some a7, some a8].getD j none), xTe a4 ((b_this.2.2.2.2.2 0)), xTe a5 ((b_this.2.2.2.2.2 1)), xTe a6 ((b_this.2.2.2.2.2 2)), xTe a7 ((b_this.2.2.2.2.2 3)), xTe a8 ((b_this.2.2.2.2.2 4))] → lv_has ls 6 [(0, .ref a0), (1, .int v1), (2, .int v2)] → W p l e zr_X0_compare_l4 s m args below meth c H locs 0 0 Q (F0 m 25 ls []) := by
    intro v1 v2 b_this H locs ls hf hw hl
    rw [zf_X0_compare_l4_25] at hf
    refine lv_bipush (pc := 25) (v := 99) hx hb dX0_compare_25 (by decide) ?_
    exact J27 v1 v2 ((99 : Int32)) b_this _ _ _ hf hw (lv_sub hl [0, 1, 2] rfl)
  rw [zf_X0_compare_l4] at hf
  refine lv_iload_n (pc := 0) hx hb dX0_compare_0 rfl (lv_at hl 3 rfl) ?_
  refine lv_if_lt (pc := 1) (tgt := 25) hx hb dX0_compare_1 (by decide) (fun q1 => ?_) (fun q1 => ?_)
  · replace hf := if_t q1 hf
    exact J25 x1 x2 b_this _ _ _ hf hw (lv_sub hl [0, 1, 2] rfl)
  · replace hf := if_f q1 hf
    refine lv_iload_n (pc := 4) hx hb dX0_compare_4 rfl (lv_at hl 3 rfl) ?_
    refine lv_aload_n (pc := 5) hx hb dX0_compare_5 rfl (lv_at hl 0 rfl) ?_
    refine zk_gt (pc := 6) C hw zl_X0_32 0 rfl rfl dX0_compare_6 ?_
    refine zk_alen (pc := 9) (v := 5) C hw 3 4 rfl rfl rfl dX0_compare_9 ?_
    refine lv_icmp_ge (pc := 10) (tgt := 25) hx hb dX0_compare_10 (by decide) (fun q2 => ?_) (fun q2 => ?_)
    · replace hf := if_t q2 hf
      exact J25 x1 x2 b_this _ _ _ hf hw (lv_sub hl [0, 1, 2] rfl)
    · replace hf := if_f q2 hf
      refine lv_aload_n (pc := 13) hx hb dX0_compare_13 rfl (lv_at hl 0 rfl) ?_
      refine zk_gt (pc := 14) C hw zl_X0_32 0 rfl rfl dX0_compare_14 ?_
      refine lv_iload_n (pc := 17) hx hb dX0_compare_17 rfl (lv_at hl 3 rfl) ?_
      refine zk_aaldT (pc := 18) (a' := a8) 4 (by decide) C hw 3 rfl (by decide) rfl dX0_compare_18 ?_
      refine zk_gt (pc := 19) C hw zl_X0_71 8 rfl rfl dX0_compare_19 ?_
      refine lv_goto (pc := 22) (tgt := 27) hx hb dX0_compare_22 (by decide) ?_
      exact J27 x1 x2 (((b_this.2.2.2.2.2 4)).1) b_this _ _ _ hf hw (lv_sub hl [0, 1, 2] rfl)
def zf_X0_exploreBy_l4 (x1 : Int32) (x3 : Int32) (x4 : Int32) (b_this : TSe) (b_p5 : TSt) : Option (Unit) := (if (4 : Int32) < 0 then some () else (if (4 : Int32) < (4 : Int32) then none else some ()))
abbrev zr_X0_exploreBy_l4 : Room := { frames := 0, cells := 0, slots := 0, locals := 0 }
set_option maxHeartbeats 4000000 in
set_option maxRecDepth 100000 in
theorem c_X0_exploreBy_l4 (l : Launch) (G : va_G) (cy : Nat → ClassId) (tt : Nat → Nat) (a0 a1 a2 a3 a4 a5 a6 a7 a8 : Nat) (p5_0 p5_1 p5_2 p5_3 p5_4 : Nat) (x1 : Int32) (x3 : Int32) (x4 : Int32) (b_this : TSe) (b_p5 : TSt) (res : Unit) (hf : zf_X0_exploreBy_l4 x1 x3 x4 b_this b_p5 = some res) : zCT l yX0_exploreBy cX0_exploreBy 7 none zr_X0_exploreBy_l4 G cy tt [.ref a0, .int x1, .int ((4 : Int32)), .int x3, .int x4, .ref p5_0] [xSe a0 a1 a2 a3 b_this.1 b_this.2.1 b_this.2.2.1, xI cy a1 4 b_this.2.2.2.1, xI cy a2 4 b_this.2.2.2.2.1, xRT cy a3 5 (fun j => [some a4, some a5, some a6, some a7, some a8].getD j none), xTe a4 ((b_this.2.2.2.2.2 0)), xTe a5 ((b_this.2.2.2.2.2 1)), xTe a6 ((b_this.2.2.2.2.2 2)), xTe a7 ((b_this.2.2.2.2.2 3)), xTe a8 ((b_this.2.2.2.2.2 4)), xSt p5_0 p5_1 p5_2 p5_3 p5_4 b_p5.1, xI cy p5_1 8 b_p5.2.1, xI cy p5_2 8 b_p5.2.2.1, xI cy p5_3 8 b_p5.2.2.2.1, xI cy p5_4 8 b_p5.2.2.2.2] none [xSe a0 a1 a2 a3 b_this.1 b_this.2.1 b_this.2.2.1, xI cy a1 4 b_this.2.2.2.1, xI cy a2 4 b_this.2.2.2.2.1, xRT cy a3 5 (fun j => [some a4, some a5, some a6, some a7, some a8].getD j none), xTe a4 ((b_this.2.2.2.2.2 0)), xTe a5 ((b_this.2.2.2.2.2 1)), xTe a6 ((b_this.2.2.2.2.2 2)), xTe a7 ((b_this.2.2.2.2.2 3)), xTe a8 ((b_this.2.2.2.2.2 4)), xSt p5_0 p5_1 p5_2 p5_3 p5_4 b_p5.1, xI cy p5_1 8 b_p5.2.1, xI cy p5_2 8 b_p5.2.2.1, xI cy p5_3 8 b_p5.2.2.2.1, xI cy p5_4 8 b_p5.2.2.2.2] := by
  refine zk_start zn_X0 (Nat.le_of_ble_eq_true rfl) ?_
  intro p e s m args below meth c A ls Q C hr hQ hw hl
  have C : zCx p m c s args meth cX0_exploreBy 7 RX0 G cy tt A := C
  have hx := C.1.1
  have hb := C.1.2.1
  have hl : lv_has ls 7 [(0, .ref a0), (1, .int x1), (2, .int ((4 : Int32))), (3, .int x3), (4, .int x4), (5, .ref p5_0)] := hl
  rw [zf_X0_exploreBy_l4] at hf
  refine lv_iload_n (pc := 0) hx hb dX0_exploreBy_0 rfl (lv_at hl 2 rfl) ?_
  refine lv_if_lt (pc := 1) (tgt := 9) hx hb dX0_exploreBy_1 (by decide) (fun q1 => ?_) (fun q1 => ?_)
  · replace hf := if_t q1 hf
    have hf := Option.some.inj hf
    subst hf
    exact zk_retv (pc := 9) (ww := [xSe a0 a1 a2 a3 b_this.1 b_this.2.1 b_this.2.2.1, xI cy a1 4 b_this.2.2.2.1, xI cy a2 4 b_this.2.2.2.2.1, xRT cy a3 5 (fun j => [some a4, some a5, some a6, some a7, some a8].getD j none), xTe a4 ((b_this.2.2.2.2.2 0)), xTe a5 ((b_this.2.2.2.2.2 1)), xTe a6 ((b_this.2.2.2.2.2 2)), xTe a7 ((b_this.2.2.2.2.2 3)), xTe a8 ((b_this.2.2.2.2.2 4)), xSt p5_0 p5_1 p5_2 p5_3 p5_4 b_p5.1, xI cy p5_1 8 b_p5.2.1, xI cy p5_2 8 b_p5.2.2.1, xI cy p5_3 8 b_p5.2.2.2.1, xI cy p5_4 8 b_p5.2.2.2.2]) C hw hr hQ dX0_exploreBy_9
  · replace hf := if_f q1 hf
    refine lv_iload_n (pc := 4) hx hb dX0_exploreBy_4 rfl (lv_at hl 2 rfl) ?_
    refine lv_iconst (pc := 5) (v := 4) hx hb dX0_exploreBy_5 (by decide) ?_
    refine lv_icmp_lt (pc := 6) (tgt := 10) hx hb dX0_exploreBy_6 (by decide) (fun q2 => ?_) (fun q2 => ?_)
    · replace hf := if_t q2 hf
      refine lv_aload_n (pc := 10) hx hb dX0_exploreBy_10 rfl (lv_at hl 0 rfl) ?_
      refine zk_gt (pc := 11) C hw zl_X0_32 0 rfl rfl dX0_exploreBy_11 ?_
      refine lv_iload_n (pc := 14) hx hb dX0_exploreBy_14 rfl (lv_at hl 2 rfl) ?_
      refine lv_iconst (pc := 15) (v := 1) hx hb dX0_exploreBy_15 (by decide) ?_
      refine lv_iadd (pc := 16) hx hb dX0_exploreBy_16 ?_
      refine zk_eqi (v := 5) (by decide) ?_
      cases hf
    · replace hf := if_f q2 hf
      have hf := Option.some.inj hf
      subst hf
      exact zk_retv (pc := 9) (ww := [xSe a0 a1 a2 a3 b_this.1 b_this.2.1 b_this.2.2.1, xI cy a1 4 b_this.2.2.2.1, xI cy a2 4 b_this.2.2.2.2.1, xRT cy a3 5 (fun j => [some a4, some a5, some a6, some a7, some a8].getD j none), xTe a4 ((b_this.2.2.2.2.2 0)), xTe a5 ((b_this.2.2.2.2.2 1)), xTe a6 ((b_this.2.2.2.2.2 2)), xTe a7 ((b_this.2.2.2.2.2 3)), xTe a8 ((b_this.2.2.2.2.2 4)), xSt p5_0 p5_1 p5_2 p5_3 p5_4 b_p5.1, xI cy p5_1 8 b_p5.2.1, xI cy p5_2 8 b_p5.2.2.1, xI cy p5_3 8 b_p5.2.2.2.1, xI cy p5_4 8 b_p5.2.2.2.2]) C hw hr hQ dX0_exploreBy_9
def zf_X0_explore_l4_32 (b_p4 : TSt) : Nat → Int32 → Int32 → Int32 → TSe → Option (TSe)
  | 0, _, _, _, _ => none
  | n + 1, v2, v3, v5, b_this => (if (b_p4.1 + (2 : Int32)) ≤ v5 then some (b_this) else (Option.bind (zf_X2_orderAt v5 b_p4) (fun u6 => (Option.bind (zf_X0_exploreBy_l4 u6 v2 v3 b_this b_p4) (fun u7 => zf_X0_explore_l4_32 b_p4 n v2 v3 ((v5 + 1)) b_this)))))
def zf_X0_explore_l4_16 (b_p4 : TSt) (v2 : Int32) (v3 : Int32) (b_this : TSe) : Option (TSe) := (if (4 : Int32) < v2 then zf_X0_explore_l4_32 b_p4 FU v2 v3 ((0 : Int32)) b_this else (Option.bind (zf_X0_compare_l4 v2 v3 b_this) (fun u4 => some (u4))))
def zf_X0_explore_l4 (x2 : Int32) (x3 : Int32) (b_this : TSe) (b_p4 : TSt) : Option (TSe) := (if b_this.2.2.1 then (if x3 ≤ b_this.1 then zf_X0_explore_l4_16 b_p4 x2 x3 b_this else some (b_this)) else zf_X0_explore_l4_16 b_p4 x2 x3 b_this)
abbrev zr_X0_explore_l4 : Room := { frames := 1, cells := 0, slots := 0, locals := 26 }
set_option maxHeartbeats 4000000 in
set_option maxRecDepth 100000 in
theorem c_X0_explore_l4 (l : Launch) (G : va_G) (cy : Nat → ClassId) (tt : Nat → Nat) (a0 a1 a2 a3 a4 a5 a6 a7 a8 : Nat) (p4_0 p4_1 p4_2 p4_3 p4_4 : Nat) (x2 : Int32) (x3 : Int32) (b_this : TSe) (b_p4 : TSt) (res : TSe) (hf : zf_X0_explore_l4 x2 x3 b_this b_p4 = some res) : zCT l yX0_explore cX0_explore 6 none zr_X0_explore_l4 G cy tt [.ref a0, .int ((4 : Int32)), .int x2, .int x3, .ref p4_0] [xSe a0 a1 a2 a3 b_this.1 b_this.2.1 b_this.2.2.1, xI cy a1 4 b_this.2.2.2.1, xI cy a2 4 b_this.2.2.2.2.1, xRT cy a3 5 (fun j => [some a4, some a5, some a6, some a7, some a8].getD j none), xTe a4 ((b_this.2.2.2.2.2 0)), xTe a5 ((b_this.2.2.2.2.2 1)), xTe a6 ((b_this.2.2.2.2.2 2)), xTe a7 ((b_this.2.2.2.2.2 3)), xTe a8 ((b_this.2.2.2.2.2 4)), xSt p4_0 p4_1 p4_2 p4_3 p4_4 b_p4.1, xI cy p4_1 8 b_p4.2.1, xI cy p4_2 8 b_p4.2.2.1, xI cy p4_3 8 b_p4.2.2.2.1, xI cy p4_4 8 b_p4.2.2.2.2] none [xSe a0 a1 a2 a3 res.1 res.2.1 res.2.2.1, xI cy a1 4 res.2.2.2.1, xI cy a2 4 res.2.2.2.2.1, xRT cy a3 5 (fun j => [some a4, some a5, some a6, some a7, some a8].getD j none), xTe a4 ((res.2.2.2.2.2 0)), xTe a5 ((res.2.2.2.2.2 1)), xTe a6 ((res.2.2.2.2.2 2)), xTe a7 ((res.2.2.2.2.2 3)), xTe a8 ((res.2.2.2.2.2 4)), xSt p4_0 p4_1 p4_2 p4_3 p4_4 b_p4.1, xI cy p4_1 8 b_p4.2.1, xI cy p4_2 8 b_p4.2.2.1, xI cy p4_3 8 b_p4.2.2.2.1, xI cy p4_4 8 b_p4.2.2.2.2] := by
  refine zk_start zn_X0 (Nat.le_of_ble_eq_true rfl) ?_
  intro p e s m args below meth c A ls Q C hr hQ hw hl
  have C : zCx p m c s args meth cX0_explore 6 RX0 G cy tt A := C
  have hx := C.1.1
  have hb := C.1.2.1
  have hl : lv_has ls 6 [(0, .ref a0), (1, .int ((4 : Int32))), (2, .int x2), (3, .int x3), (4, .ref p4_0)] := hl
  have J32 : ∀ (n : Nat), ∀ (v2 : Int32) (v3 : Int32) (v5 : Int32) (b_this : TSe) (H : Heap) (locs : List Loc) (ls : Array Slot), zf_X0_explore_l4_32 b_p4 n v2 v3 v5 b_this = some res → zWd G A s.heap H locs [xSe a0 a1 a2 a3 b_this.1 b_this.2.1 b_this.2.2.1, xI cy a1 4 b_this.2.2.2.1, xI cy a2 4 b_this.2.2.2.2.1, xRT cy a3 5 (fun j => [some a4, some a5, some a6, some a7, some a8].getD j none), xTe a4 ((b_this.2.2.2.2.2 0)), xTe a5 ((b_this.2.2.2.2.2 1)), xTe a6 ((b_this.2.2.2.2.2 2)), xTe a7 ((b_this.2.2.2.2.2 3)), xTe a8 ((b_this.2.2.2.2.2 4)), xSt p4_0 p4_1 p4_2 p4_3 p4_4 b_p4.1, xI cy p4_1 8 b_p4.2.1, xI cy p4_2 8 b_p4.2.2.1, xI cy p4_3 8 b_p4.2.2.2.1, xI cy p4_4 8 b_p4.2.2.2.2] → lv_has ls 6 [(0, .ref a0), (1, .int ((4 : Int32))), (2, .int v2), (3, .int v3), (4, .ref p4_0), (5, .int v5)] → W p l e zr_X0_explore_l4 s m args below meth c H locs 0 0 Q (F0 m 32 ls []) := by
    intro n
    induction n with
    | zero =>
      intro v2 v3 v5 b_this H locs ls hf hw hl
      rw [zf_X0_explore_l4_32] at hf
      cases hf
    | succ n ih =>
      intro v2 v3 v5 b_this H locs ls hf hw hl
      rw [zf_X0_explore_l4_32] at hf
      refine lv_iload (pc := 32) hx hb dX0_explore_32 (lv_at hl 5 rfl) ?_
      refine lv_aload (pc := 34) hx hb dX0_explore_34 (lv_at hl 4 rfl) ?_
      refine zk_gt (pc := 36) C hw zl_X0_48 9 rfl rfl dX0_explore_36 ?_
      refine lv_iconst (pc := 39) (v := 2) hx hb dX0_explore_39 (by decide) ?_
      refine lv_iadd (pc := 40) hx hb dX0_explore_40 ?_
      refine lv_icmp_ge (pc := 41) (tgt := 66) hx hb dX0_explore_41 (by decide) (fun q5 => ?_) (fun q5 => ?_)
      · replace hf := if_t q5 hf
        have hf := Option.some.inj hf
        subst hf
        exact zk_retv (pc := 66) (ww := [xSe a0 a1 a2 a3 b_this.1 b_this.2.1 b_this.2.2.1, xI cy a1 4 b_this.2.2.2.1, xI cy a2 4 b_this.2.2.2.2.1, xRT cy a3 5 (fun j => [some a4, some a5, some a6, some a7, some a8].getD j none), xTe a4 ((b_this.2.2.2.2.2 0)), xTe a5 ((b_this.2.2.2.2.2 1)), xTe a6 ((b_this.2.2.2.2.2 2)), xTe a7 ((b_this.2.2.2.2.2 3)), xTe a8 ((b_this.2.2.2.2.2 4)), xSt p4_0 p4_1 p4_2 p4_3 p4_4 b_p4.1, xI cy p4_1 8 b_p4.2.1, xI cy p4_2 8 b_p4.2.2.1, xI cy p4_3 8 b_p4.2.2.2.1, xI cy p4_4 8 b_p4.2.2.2.2]) C hw hr hQ dX0_explore_66
      · replace hf := if_f q5 hf
        refine lv_aload_n (pc := 44) hx hb dX0_explore_44 rfl (lv_at hl 0 rfl) ?_
        refine lv_aload (pc := 45) hx hb dX0_explore_45 (lv_at hl 4 rfl) ?_
        refine lv_iload (pc := 47) hx hb dX0_explore_47 (lv_at hl 5 rfl) ?_
        obtain ⟨u6, u6e, hf⟩ := bd hf
        refine zk_cV (pc := 49) (ci := 2) (q0 := 9) (rest := [.ref a0]) (st1 := [.int u6, .ref a0]) (w' := [xSe a0 a1 a2 a3 b_this.1 b_this.2.1 b_this.2.2.1, xI cy a1 4 b_this.2.2.2.1, xI cy a2 4 b_this.2.2.2.2.1, xRT cy a3 5 (fun j => [some a4, some a5, some a6, some a7, some a8].getD j none), xTe a4 ((b_this.2.2.2.2.2 0)), xTe a5 ((b_this.2.2.2.2.2 1)), xTe a6 ((b_this.2.2.2.2.2 2)), xTe a7 ((b_this.2.2.2.2.2 3)), xTe a8 ((b_this.2.2.2.2.2 4)), xSt p4_0 p4_1 p4_2 p4_3 p4_4 b_p4.1, xI cy p4_1 8 b_p4.2.1, xI cy p4_2 8 b_p4.2.2.1, xI cy p4_3 8 b_p4.2.2.2.1, xI cy p4_4 8 b_p4.2.2.2.2]) (mk := [none, none, none, none, none, none, none, none, none, none, none, none, none, none]) C hw (c_X2_orderAt l G cy tt p4_0 p4_1 p4_2 p4_3 p4_4 v5 b_p4 _ u6e) zy_X2_orderAt zm_X0_53 rfl rfl rfl [9, 10, 11, 12, 13] rfl rfl rfl rfl rfl rfl rfl rfl hl.1 ⟨rfl, rfl⟩ ⟨Nat.le_of_ble_eq_true rfl, Nat.le_of_ble_eq_true rfl⟩ rfl (Nat.le_of_ble_eq_true rfl) ⟨Nat.zero_le _, Nat.zero_le _⟩ dX0_explore_49 (fun H locs hw => ?_)
        refine lv_iload_n (pc := 52) hx hb dX0_explore_52 rfl (lv_at hl 1 rfl) ?_
        refine lv_iload_n (pc := 53) hx hb dX0_explore_53 rfl (lv_at hl 2 rfl) ?_
        refine lv_iload_n (pc := 54) hx hb dX0_explore_54 rfl (lv_at hl 3 rfl) ?_
        refine lv_aload (pc := 55) hx hb dX0_explore_55 (lv_at hl 4 rfl) ?_
        obtain ⟨u7, u7e, hf⟩ := bd hf
        refine zk_cV (pc := 57) (ci := 0) (q0 := 0) (rest := []) (st1 := []) (w' := [xSe a0 a1 a2 a3 b_this.1 b_this.2.1 b_this.2.2.1, xI cy a1 4 b_this.2.2.2.1, xI cy a2 4 b_this.2.2.2.2.1, xRT cy a3 5 (fun j => [some a4, some a5, some a6, some a7, some a8].getD j none), xTe a4 ((b_this.2.2.2.2.2 0)), xTe a5 ((b_this.2.2.2.2.2 1)), xTe a6 ((b_this.2.2.2.2.2 2)), xTe a7 ((b_this.2.2.2.2.2 3)), xTe a8 ((b_this.2.2.2.2.2 4)), xSt p4_0 p4_1 p4_2 p4_3 p4_4 b_p4.1, xI cy p4_1 8 b_p4.2.1, xI cy p4_2 8 b_p4.2.2.1, xI cy p4_3 8 b_p4.2.2.2.1, xI cy p4_4 8 b_p4.2.2.2.2]) (mk := [none, none, none, none, none, none, none, none, none, none, none, none, none, none]) C hw (c_X0_exploreBy_l4 l G cy tt a0 a1 a2 a3 a4 a5 a6 a7 a8 p4_0 p4_1 p4_2 p4_3 p4_4 u6 v2 v3 b_this b_p4 _ u7e) zy_X0_exploreBy zm_X0_57 rfl rfl rfl [0, 1, 2, 3, 4, 5, 6, 7, 8, 9, 10, 11, 12, 13] rfl rfl rfl rfl rfl rfl rfl rfl hl.1 ⟨rfl, rfl⟩ ⟨Nat.le_of_ble_eq_true rfl, Nat.le_of_ble_eq_true rfl⟩ rfl (Nat.le_of_ble_eq_true rfl) ⟨Nat.zero_le _, Nat.zero_le _⟩ dX0_explore_57 (fun H locs hw => ?_)
        refine lv_iinc (pc := 60) (v := (v5 + 1)) (lv' := [(5, .int ((v5 + 1))), (0, .ref a0), (1, .int ((4 : Int32))), (2, .int v2), (3, .int v3), (4, .ref p4_0)]) hx hb dX0_explore_60 hl (k := 5) rfl rfl (by decide) rfl (fun ls hl => ?_)
        refine lv_goto (pc := 63) (tgt := 32) hx hb dX0_explore_63 (by decide) ?_
        exact ih v2 v3 ((v5 + 1)) b_this _ _ _ hf hw (lv_sub hl [1, 2, 3, 4, 5, 0] rfl)
  have J16 : ∀ (v2 : Int32) (v3 : Int32) (b_this : TSe) (H : Heap) (locs : List Loc) (ls : Array Slot), zf_X0_explore_l4_16 b_p4 v2 v3 b_this = some res → zWd G A s.heap H locs [xSe a0 a1 a2 a3 b_this.1 b_this.2.1 b_this.2.2.1, xI cy a1 4 b_this.2.2.2.1, xI cy a2 4 b_this.2.2.2.2.1, xRT cy a3 5 (fun j => [some a4, some a5, some a6, some a7, some a8].getD j none), xTe a4 ((b_this.2.2.2.2.2 0)), xTe a5 ((b_this.2.2.2.2.2 1)), xTe a6 ((b_this.2.2.2.2.2 2)), xTe a7 ((b_this.2.2.2.2.2 3)), xTe a8 ((b_this.2.2.2.2.2 4)), xSt p4_0 p4_1 p4_2 p4_3 p4_4 b_p4.1, xI cy p4_1 8 b_p4.2.1, xI cy p4_2 8 b_p4.2.2.1, xI cy p4_3 8 b_p4.2.2.2.1, xI cy p4_4 8 b_p4.2.2.2.2] → lv_has ls 6 [(0, .ref a0), (1, .int ((4 : Int32))), (2, .int v2), (3, .int v3), (4, .ref p4_0)] → W p l e zr_X0_explore_l4 s m args below meth c H locs 0 0 Q (F0 m 16 ls []) := by
    intro v2 v3 b_this H locs ls hf hw hl
    rw [zf_X0_explore_l4_16] at hf
    refine lv_iload_n (pc := 16) hx hb dX0_explore_16 rfl (lv_at hl 1 rfl) ?_
    refine lv_iload_n (pc := 17) hx hb dX0_explore_17 rfl (lv_at hl 2 rfl) ?_
    refine lv_icmp_lt (pc := 18) (tgt := 29) hx hb dX0_explore_18 (by decide) (fun q3 => ?_) (fun q3 => ?_)
    · replace hf := if_t q3 hf
      refine lv_iconst (pc := 29) (v := 0) hx hb dX0_explore_29 (by decide) ?_
      refine lv_istore (pc := 30) (lv' := [(5, .int ((0 : Int32))), (0, .ref a0), (1, .int ((4 : Int32))), (2, .int v2), (3, .int v3), (4, .ref p4_0)]) hx hb dX0_explore_30 hl (by decide) rfl (fun ls hl => ?_)
      exact J32 FU v2 v3 ((0 : Int32)) b_this _ _ _ hf hw (lv_sub hl [1, 2, 3, 4, 5, 0] rfl)
    · replace hf := if_f q3 hf
      refine lv_aload_n (pc := 21) hx hb dX0_explore_21 rfl (lv_at hl 0 rfl) ?_
      refine lv_iload_n (pc := 22) hx hb dX0_explore_22 rfl (lv_at hl 2 rfl) ?_
      refine lv_iload_n (pc := 23) hx hb dX0_explore_23 rfl (lv_at hl 3 rfl) ?_
      refine lv_iload_n (pc := 24) hx hb dX0_explore_24 rfl (lv_at hl 1 rfl) ?_
      obtain ⟨u4, u4e, hf⟩ := bd hf
      refine zk_cV (pc := 25) (ci := 0) (q0 := 0) (rest := []) (st1 := []) (w' := [xSe a0 a1 a2 a3 u4.1 u4.2.1 u4.2.2.1, xI cy a1 4 u4.2.2.2.1, xI cy a2 4 u4.2.2.2.2.1, xRT cy a3 5 (fun j => [some a4, some a5, some a6, some a7, some a8].getD j none), xTe a4 ((u4.2.2.2.2.2 0)), xTe a5 ((u4.2.2.2.2.2 1)), xTe a6 ((u4.2.2.2.2.2 2)), xTe a7 ((u4.2.2.2.2.2 3)), xTe a8 ((u4.2.2.2.2.2 4)), xSt p4_0 p4_1 p4_2 p4_3 p4_4 b_p4.1, xI cy p4_1 8 b_p4.2.1, xI cy p4_2 8 b_p4.2.2.1, xI cy p4_3 8 b_p4.2.2.2.1, xI cy p4_4 8 b_p4.2.2.2.2]) (mk := [some (xSe a0 a1 a2 a3 u4.1 u4.2.1 u4.2.2.1), some (xI cy a1 4 u4.2.2.2.1), some (xI cy a2 4 u4.2.2.2.2.1), none, some (xTe a4 ((u4.2.2.2.2.2 0))), some (xTe a5 ((u4.2.2.2.2.2 1))), some (xTe a6 ((u4.2.2.2.2.2 2))), some (xTe a7 ((u4.2.2.2.2.2 3))), some (xTe a8 ((u4.2.2.2.2.2 4))), none, none, none, none, none]) C hw (c_X0_compare_l4 l G cy tt a0 a1 a2 a3 a4 a5 a6 a7 a8 v2 v3 b_this _ u4e) zy_X0_compare zm_X0_44 rfl rfl rfl [0, 1, 2, 3, 4, 5, 6, 7, 8] rfl rfl rfl rfl rfl rfl rfl rfl hl.1 ⟨rfl, rfl⟩ ⟨Nat.le_of_ble_eq_true rfl, Nat.le_of_ble_eq_true rfl⟩ rfl (Nat.le_of_ble_eq_true rfl) ⟨Nat.zero_le _, Nat.zero_le _⟩ dX0_explore_25 (fun H locs hw => ?_)
      have hf := Option.some.inj hf
      subst hf
      exact zk_retv (pc := 28) (ww := [xSe a0 a1 a2 a3 u4.1 u4.2.1 u4.2.2.1, xI cy a1 4 u4.2.2.2.1, xI cy a2 4 u4.2.2.2.2.1, xRT cy a3 5 (fun j => [some a4, some a5, some a6, some a7, some a8].getD j none), xTe a4 ((u4.2.2.2.2.2 0)), xTe a5 ((u4.2.2.2.2.2 1)), xTe a6 ((u4.2.2.2.2.2 2)), xTe a7 ((u4.2.2.2.2.2 3)), xTe a8 ((u4.2.2.2.2.2 4)), xSt p4_0 p4_1 p4_2 p4_3 p4_4 b_p4.1, xI cy p4_1 8 b_p4.2.1, xI cy p4_2 8 b_p4.2.2.1, xI cy p4_3 8 b_p4.2.2.2.1, xI cy p4_4 8 b_p4.2.2.2.2]) C hw hr hQ dX0_explore_28
  rw [zf_X0_explore_l4] at hf
  refine lv_aload_n (pc := 0) hx hb dX0_explore_0 rfl (lv_at hl 0 rfl) ?_
  refine zk_gt (pc := 1) C hw zl_X0_18 0 rfl rfl dX0_explore_1 ?_
  refine zk_ifz (pc := 4) (tgt := 16) hx hb dX0_explore_4 (by decide) (fun q1 => ?_) (fun q1 => ?_)
  · replace hf := if_f q1 hf
    exact J16 x2 x3 b_this _ _ _ hf hw (lv_sub hl [0, 1, 2, 3, 4] rfl)
  · replace hf := if_t q1 hf
    refine lv_iload_n (pc := 7) hx hb dX0_explore_7 rfl (lv_at hl 3 rfl) ?_
    refine lv_aload_n (pc := 8) hx hb dX0_explore_8 rfl (lv_at hl 0 rfl) ?_
    refine zk_gt (pc := 9) C hw zl_X0_9 0 rfl rfl dX0_explore_9 ?_
    refine lv_icmp_le (pc := 12) (tgt := 16) hx hb dX0_explore_12 (by decide) (fun q2 => ?_) (fun q2 => ?_)
    · replace hf := if_t q2 hf
      exact J16 x2 x3 b_this _ _ _ hf hw (lv_sub hl [0, 1, 2, 3, 4] rfl)
    · replace hf := if_f q2 hf
      have hf := Option.some.inj hf
      subst hf
      exact zk_retv (pc := 15) (ww := [xSe a0 a1 a2 a3 b_this.1 b_this.2.1 b_this.2.2.1, xI cy a1 4 b_this.2.2.2.1, xI cy a2 4 b_this.2.2.2.2.1, xRT cy a3 5 (fun j => [some a4, some a5, some a6, some a7, some a8].getD j none), xTe a4 ((b_this.2.2.2.2.2 0)), xTe a5 ((b_this.2.2.2.2.2 1)), xTe a6 ((b_this.2.2.2.2.2 2)), xTe a7 ((b_this.2.2.2.2.2 3)), xTe a8 ((b_this.2.2.2.2.2 4)), xSt p4_0 p4_1 p4_2 p4_3 p4_4 b_p4.1, xI cy p4_1 8 b_p4.2.1, xI cy p4_2 8 b_p4.2.2.1, xI cy p4_3 8 b_p4.2.2.2.1, xI cy p4_4 8 b_p4.2.2.2.2]) C hw hr hQ dX0_explore_15
def zf_X0_exploreBy_l3_77 (b_p5 : TSt) (t0 : Int32) (t1 : Int32) (b_this : TSe) : Option (TSe) := (Option.bind (zf_X0_explore_l4 t1 t0 b_this b_p5) (fun u7 => some (u7)))
def zf_X0_exploreBy_l3 (x1 : Int32) (x3 : Int32) (x4 : Int32) (b_this : TSe) (b_p5 : TSt) : Option (TSe) := (if (3 : Int32) < 0 then some (b_this) else (if (3 : Int32) < (4 : Int32) then (Option.bind (zf_X5_become ((b_this.2.2.2.2.2 4)) ((b_this.2.2.2.2.2 3))) (fun u3 => (Option.bind (zf_X5_pass x1 u3 b_p5) (fun u4 => (if u4.2.2.2.2.2.2 = (-1 : Int32) then (if u4.2.2.2.2.2.1 then zf_X0_exploreBy_l3_77 b_p5 ((x4 + (1 : Int32))) x3 ((b_this.1, b_this.2.1, b_this.2.2.1, (upd b_this.2.2.2.1 3 x1), b_this.2.2.2.2.1, (va_up b_this.2.2.2.2.2 4 u4))) else zf_X0_exploreBy_l3_77 b_p5 x4 x3 ((b_this.1, b_this.2.1, b_this.2.2.1, (upd b_this.2.2.2.1 3 x1), b_this.2.2.2.2.1, (va_up b_this.2.2.2.2.2 4 u4)))) else some ((b_this.1, b_this.2.1, b_this.2.2.1, (upd b_this.2.2.2.1 3 x1), b_this.2.2.2.2.1, (va_up b_this.2.2.2.2.2 4 u4)))))))) else some (b_this)))
abbrev zr_X0_exploreBy_l3 : Room := { frames := 3, cells := 0, slots := 0, locals := 68 }
set_option maxHeartbeats 4000000 in
set_option maxRecDepth 100000 in
theorem c_X0_exploreBy_l3 (l : Launch) (G : va_G) (cy : Nat → ClassId) (tt : Nat → Nat) (a0 a1 a2 a3 a4 a5 a6 a7 a8 : Nat) (p5_0 p5_1 p5_2 p5_3 p5_4 : Nat) (x1 : Int32) (x3 : Int32) (x4 : Int32) (b_this : TSe) (b_p5 : TSt) (res : TSe) (hf : zf_X0_exploreBy_l3 x1 x3 x4 b_this b_p5 = some res) : zCT l yX0_exploreBy cX0_exploreBy 7 none zr_X0_exploreBy_l3 G cy tt [.ref a0, .int x1, .int ((3 : Int32)), .int x3, .int x4, .ref p5_0] [xSe a0 a1 a2 a3 b_this.1 b_this.2.1 b_this.2.2.1, xI cy a1 4 b_this.2.2.2.1, xI cy a2 4 b_this.2.2.2.2.1, xRT cy a3 5 (fun j => [some a4, some a5, some a6, some a7, some a8].getD j none), xTe a4 ((b_this.2.2.2.2.2 0)), xTe a5 ((b_this.2.2.2.2.2 1)), xTe a6 ((b_this.2.2.2.2.2 2)), xTe a7 ((b_this.2.2.2.2.2 3)), xTe a8 ((b_this.2.2.2.2.2 4)), xSt p5_0 p5_1 p5_2 p5_3 p5_4 b_p5.1, xI cy p5_1 8 b_p5.2.1, xI cy p5_2 8 b_p5.2.2.1, xI cy p5_3 8 b_p5.2.2.2.1, xI cy p5_4 8 b_p5.2.2.2.2] none [xSe a0 a1 a2 a3 res.1 res.2.1 res.2.2.1, xI cy a1 4 res.2.2.2.1, xI cy a2 4 res.2.2.2.2.1, xRT cy a3 5 (fun j => [some a4, some a5, some a6, some a7, some a8].getD j none), xTe a4 ((res.2.2.2.2.2 0)), xTe a5 ((res.2.2.2.2.2 1)), xTe a6 ((res.2.2.2.2.2 2)), xTe a7 ((res.2.2.2.2.2 3)), xTe a8 ((res.2.2.2.2.2 4)), xSt p5_0 p5_1 p5_2 p5_3 p5_4 b_p5.1, xI cy p5_1 8 b_p5.2.1, xI cy p5_2 8 b_p5.2.2.1, xI cy p5_3 8 b_p5.2.2.2.1, xI cy p5_4 8 b_p5.2.2.2.2] := by
  refine zk_start zn_X0 (Nat.le_of_ble_eq_true rfl) ?_
  intro p e s m args below meth c A ls Q C hr hQ hw hl
  have C : zCx p m c s args meth cX0_exploreBy 7 RX0 G cy tt A := C
  have hx := C.1.1
  have hb := C.1.2.1
  have hl : lv_has ls 7 [(0, .ref a0), (1, .int x1), (2, .int ((3 : Int32))), (3, .int x3), (4, .int x4), (5, .ref p5_0)] := hl
  have J77 : ∀ (t0 : Int32) (t1 : Int32) (b_this : TSe) (H : Heap) (locs : List Loc) (ls : Array Slot), zf_X0_exploreBy_l3_77 b_p5 t0 t1 b_this = some res → zWd G A s.heap H locs [xSe a0 a1 a2 a3 b_this.1 b_this.2.1 b_this.2.2.1, xI cy a1 4 b_this.2.2.2.1, xI cy a2 4 b_this.2.2.2.2.1, xRT cy a3 5 (fun j => [some a4, some a5, some a6, some a7, some a8].getD j none), xTe a4 ((b_this.2.2.2.2.2 0)), xTe a5 ((b_this.2.2.2.2.2 1)), xTe a6 ((b_this.2.2.2.2.2 2)), xTe a7 ((b_this.2.2.2.2.2 3)), xTe a8 ((b_this.2.2.2.2.2 4)), xSt p5_0 p5_1 p5_2 p5_3 p5_4 b_p5.1, xI cy p5_1 8 b_p5.2.1, xI cy p5_2 8 b_p5.2.2.1, xI cy p5_3 8 b_p5.2.2.2.1, xI cy p5_4 8 b_p5.2.2.2.2] → lv_has ls 7 [(5, .ref p5_0)] → W p l e zr_X0_exploreBy_l3 s m args below meth c H locs 0 0 Q (F0 m 77 ls [.int t0, .int t1, .int ((4 : Int32)), .ref a0]) := by
    intro t0 t1 b_this H locs ls hf hw hl
    rw [zf_X0_exploreBy_l3_77] at hf
    refine lv_aload (pc := 77) hx hb dX0_exploreBy_77 (lv_at hl 0 rfl) ?_
    obtain ⟨u7, u7e, hf⟩ := bd hf
    refine zk_cV (pc := 79) (ci := 0) (q0 := 0) (rest := []) (st1 := []) (w' := [xSe a0 a1 a2 a3 u7.1 u7.2.1 u7.2.2.1, xI cy a1 4 u7.2.2.2.1, xI cy a2 4 u7.2.2.2.2.1, xRT cy a3 5 (fun j => [some a4, some a5, some a6, some a7, some a8].getD j none), xTe a4 ((u7.2.2.2.2.2 0)), xTe a5 ((u7.2.2.2.2.2 1)), xTe a6 ((u7.2.2.2.2.2 2)), xTe a7 ((u7.2.2.2.2.2 3)), xTe a8 ((u7.2.2.2.2.2 4)), xSt p5_0 p5_1 p5_2 p5_3 p5_4 b_p5.1, xI cy p5_1 8 b_p5.2.1, xI cy p5_2 8 b_p5.2.2.1, xI cy p5_3 8 b_p5.2.2.2.1, xI cy p5_4 8 b_p5.2.2.2.2]) (mk := [some (xSe a0 a1 a2 a3 u7.1 u7.2.1 u7.2.2.1), some (xI cy a1 4 u7.2.2.2.1), some (xI cy a2 4 u7.2.2.2.2.1), none, some (xTe a4 ((u7.2.2.2.2.2 0))), some (xTe a5 ((u7.2.2.2.2.2 1))), some (xTe a6 ((u7.2.2.2.2.2 2))), some (xTe a7 ((u7.2.2.2.2.2 3))), some (xTe a8 ((u7.2.2.2.2.2 4))), none, none, none, none, none]) C hw (c_X0_explore_l4 l G cy tt a0 a1 a2 a3 a4 a5 a6 a7 a8 p5_0 p5_1 p5_2 p5_3 p5_4 t1 t0 b_this b_p5 _ u7e) zy_X0_explore zm_X0_40 rfl rfl rfl [0, 1, 2, 3, 4, 5, 6, 7, 8, 9, 10, 11, 12, 13] rfl rfl rfl rfl rfl rfl rfl rfl hl.1 ⟨rfl, rfl⟩ ⟨Nat.le_of_ble_eq_true rfl, Nat.le_of_ble_eq_true rfl⟩ rfl (Nat.le_of_ble_eq_true rfl) ⟨Nat.zero_le _, Nat.zero_le _⟩ dX0_exploreBy_79 (fun H locs hw => ?_)
    have hf := Option.some.inj hf
    subst hf
    exact zk_retv (pc := 82) (ww := [xSe a0 a1 a2 a3 u7.1 u7.2.1 u7.2.2.1, xI cy a1 4 u7.2.2.2.1, xI cy a2 4 u7.2.2.2.2.1, xRT cy a3 5 (fun j => [some a4, some a5, some a6, some a7, some a8].getD j none), xTe a4 ((u7.2.2.2.2.2 0)), xTe a5 ((u7.2.2.2.2.2 1)), xTe a6 ((u7.2.2.2.2.2 2)), xTe a7 ((u7.2.2.2.2.2 3)), xTe a8 ((u7.2.2.2.2.2 4)), xSt p5_0 p5_1 p5_2 p5_3 p5_4 b_p5.1, xI cy p5_1 8 b_p5.2.1, xI cy p5_2 8 b_p5.2.2.1, xI cy p5_3 8 b_p5.2.2.2.1, xI cy p5_4 8 b_p5.2.2.2.2]) C hw hr hQ dX0_exploreBy_82
  rw [zf_X0_exploreBy_l3] at hf
  refine lv_iload_n (pc := 0) hx hb dX0_exploreBy_0 rfl (lv_at hl 2 rfl) ?_
  refine lv_if_lt (pc := 1) (tgt := 9) hx hb dX0_exploreBy_1 (by decide) (fun q1 => ?_) (fun q1 => ?_)
  · replace hf := if_t q1 hf
    have hf := Option.some.inj hf
    subst hf
    exact zk_retv (pc := 9) (ww := [xSe a0 a1 a2 a3 b_this.1 b_this.2.1 b_this.2.2.1, xI cy a1 4 b_this.2.2.2.1, xI cy a2 4 b_this.2.2.2.2.1, xRT cy a3 5 (fun j => [some a4, some a5, some a6, some a7, some a8].getD j none), xTe a4 ((b_this.2.2.2.2.2 0)), xTe a5 ((b_this.2.2.2.2.2 1)), xTe a6 ((b_this.2.2.2.2.2 2)), xTe a7 ((b_this.2.2.2.2.2 3)), xTe a8 ((b_this.2.2.2.2.2 4)), xSt p5_0 p5_1 p5_2 p5_3 p5_4 b_p5.1, xI cy p5_1 8 b_p5.2.1, xI cy p5_2 8 b_p5.2.2.1, xI cy p5_3 8 b_p5.2.2.2.1, xI cy p5_4 8 b_p5.2.2.2.2]) C hw hr hQ dX0_exploreBy_9
  · replace hf := if_f q1 hf
    refine lv_iload_n (pc := 4) hx hb dX0_exploreBy_4 rfl (lv_at hl 2 rfl) ?_
    refine lv_iconst (pc := 5) (v := 4) hx hb dX0_exploreBy_5 (by decide) ?_
    refine lv_icmp_lt (pc := 6) (tgt := 10) hx hb dX0_exploreBy_6 (by decide) (fun q2 => ?_) (fun q2 => ?_)
    · replace hf := if_t q2 hf
      refine lv_aload_n (pc := 10) hx hb dX0_exploreBy_10 rfl (lv_at hl 0 rfl) ?_
      refine zk_gt (pc := 11) C hw zl_X0_32 0 rfl rfl dX0_exploreBy_11 ?_
      refine lv_iload_n (pc := 14) hx hb dX0_exploreBy_14 rfl (lv_at hl 2 rfl) ?_
      refine lv_iconst (pc := 15) (v := 1) hx hb dX0_exploreBy_15 (by decide) ?_
      refine lv_iadd (pc := 16) hx hb dX0_exploreBy_16 ?_
      refine zk_eqi (v := 4) (by decide) ?_
      refine zk_aaldT (pc := 17) (a' := a8) 4 (by decide) C hw 3 rfl (by decide) rfl dX0_exploreBy_17 ?_
      refine lv_astore (pc := 18) (lv' := [(6, .ref a8), (0, .ref a0), (1, .int x1), (2, .int ((3 : Int32))), (3, .int x3), (4, .int x4), (5, .ref p5_0)]) hx hb dX0_exploreBy_18 hl (by decide) rfl (fun ls hl => ?_)
      refine lv_aload_n (pc := 20) hx hb dX0_exploreBy_20 rfl (lv_at hl 1 rfl) ?_
      refine zk_gt (pc := 21) C hw zl_X0_22 0 rfl rfl dX0_exploreBy_21 ?_
      refine lv_iload_n (pc := 24) hx hb dX0_exploreBy_24 rfl (lv_at hl 3 rfl) ?_
      refine lv_iload_n (pc := 25) hx hb dX0_exploreBy_25 rfl (lv_at hl 2 rfl) ?_
      refine zk_iastK (pc := 26) (w' := [xSe a0 a1 a2 a3 b_this.1 b_this.2.1 b_this.2.2.1, xI cy a1 4 ((upd b_this.2.2.2.1 3 x1)), xI cy a2 4 b_this.2.2.2.2.1, xRT cy a3 5 (fun j => [some a4, some a5, some a6, some a7, some a8].getD j none), xTe a4 ((b_this.2.2.2.2.2 0)), xTe a5 ((b_this.2.2.2.2.2 1)), xTe a6 ((b_this.2.2.2.2.2 2)), xTe a7 ((b_this.2.2.2.2.2 3)), xTe a8 ((b_this.2.2.2.2.2 4)), xSt p5_0 p5_1 p5_2 p5_3 p5_4 b_p5.1, xI cy p5_1 8 b_p5.2.1, xI cy p5_2 8 b_p5.2.2.1, xI cy p5_3 8 b_p5.2.2.2.1, xI cy p5_4 8 b_p5.2.2.2.2]) 3 (by decide) C hw 1 rfl (by decide) rfl dX0_exploreBy_26 (fun H locs hw => ?_)
      refine lv_aload (pc := 27) hx hb dX0_exploreBy_27 (lv_at hl 0 rfl) ?_
      refine lv_aload_n (pc := 29) hx hb dX0_exploreBy_29 rfl (lv_at hl 1 rfl) ?_
      refine zk_gt (pc := 30) C hw zl_X0_32 0 rfl rfl dX0_exploreBy_30 ?_
      refine lv_iload_n (pc := 33) hx hb dX0_exploreBy_33 rfl (lv_at hl 3 rfl) ?_
      refine zk_aaldT (pc := 34) (a' := a7) 3 (by decide) C hw 3 rfl (by decide) rfl dX0_exploreBy_34 ?_
      obtain ⟨u3, u3e, hf⟩ := bd hf
      refine zk_cV (pc := 35) (ci := 5) (q0 := 8) (rest := []) (st1 := []) (w' := [xSe a0 a1 a2 a3 b_this.1 b_this.2.1 b_this.2.2.1, xI cy a1 4 ((upd b_this.2.2.2.1 3 x1)), xI cy a2 4 b_this.2.2.2.2.1, xRT cy a3 5 (fun j => [some a4, some a5, some a6, some a7, some a8].getD j none), xTe a4 ((b_this.2.2.2.2.2 0)), xTe a5 ((b_this.2.2.2.2.2 1)), xTe a6 ((b_this.2.2.2.2.2 2)), xTe a7 ((b_this.2.2.2.2.2 3)), xTe a8 u3, xSt p5_0 p5_1 p5_2 p5_3 p5_4 b_p5.1, xI cy p5_1 8 b_p5.2.1, xI cy p5_2 8 b_p5.2.2.1, xI cy p5_3 8 b_p5.2.2.2.1, xI cy p5_4 8 b_p5.2.2.2.2]) (mk := [none, none, none, none, none, none, none, some (xTe a7 ((b_this.2.2.2.2.2 3))), some (xTe a8 u3), none, none, none, none, none]) C hw (c_X5_become l G cy tt a8 a7 ((b_this.2.2.2.2.2 4)) ((b_this.2.2.2.2.2 3)) _ u3e) zy_X5_become zm_X0_36 rfl rfl rfl [8, 7] rfl rfl rfl rfl rfl rfl rfl rfl hl.1 ⟨rfl, rfl⟩ ⟨Nat.le_of_ble_eq_true rfl, Nat.le_of_ble_eq_true rfl⟩ rfl (Nat.le_of_ble_eq_true rfl) ⟨Nat.zero_le _, Nat.zero_le _⟩ dX0_exploreBy_35 (fun H locs hw => ?_)
      refine lv_aload (pc := 38) hx hb dX0_exploreBy_38 (lv_at hl 0 rfl) ?_
      refine lv_iload_n (pc := 40) hx hb dX0_exploreBy_40 rfl (lv_at hl 2 rfl) ?_
      refine lv_aload (pc := 41) hx hb dX0_exploreBy_41 (lv_at hl 6 rfl) ?_
      obtain ⟨u4, u4e, hf⟩ := bd hf
      refine zk_cV (pc := 43) (ci := 5) (q0 := 8) (rest := []) (st1 := []) (w' := [xSe a0 a1 a2 a3 b_this.1 b_this.2.1 b_this.2.2.1, xI cy a1 4 ((upd b_this.2.2.2.1 3 x1)), xI cy a2 4 b_this.2.2.2.2.1, xRT cy a3 5 (fun j => [some a4, some a5, some a6, some a7, some a8].getD j none), xTe a4 ((b_this.2.2.2.2.2 0)), xTe a5 ((b_this.2.2.2.2.2 1)), xTe a6 ((b_this.2.2.2.2.2 2)), xTe a7 ((b_this.2.2.2.2.2 3)), xTe a8 u4, xSt p5_0 p5_1 p5_2 p5_3 p5_4 b_p5.1, xI cy p5_1 8 b_p5.2.1, xI cy p5_2 8 b_p5.2.2.1, xI cy p5_3 8 b_p5.2.2.2.1, xI cy p5_4 8 b_p5.2.2.2.2]) (mk := [none, none, none, none, none, none, none, none, some (xTe a8 u4), none, none, none, none, none]) C hw (c_X5_pass l G cy tt a8 p5_0 p5_1 p5_2 p5_3 p5_4 x1 u3 b_p5 _ u4e) zy_X5_pass zm_X0_61 rfl rfl rfl [8, 9, 10, 11, 12, 13] rfl rfl rfl rfl rfl rfl rfl rfl hl.1 ⟨rfl, rfl⟩ ⟨Nat.le_of_ble_eq_true rfl, Nat.le_of_ble_eq_true rfl⟩ rfl (Nat.le_of_ble_eq_true rfl) ⟨Nat.zero_le _, Nat.zero_le _⟩ dX0_exploreBy_43 (fun H locs hw => ?_)
      refine lv_aload (pc := 46) hx hb dX0_exploreBy_46 (lv_at hl 0 rfl) ?_
      refine zk_gt (pc := 48) C hw zl_X0_65 8 rfl rfl dX0_exploreBy_48 ?_
      refine lv_iconst (pc := 51) (v := -1) hx hb dX0_exploreBy_51 (by decide) ?_
      refine lv_icmp_ne (pc := 52) (tgt := 82) hx hb dX0_exploreBy_52 (by decide) (fun q5 => ?_) (fun q5 => ?_)
      · replace hf := if_f q5 hf
        have hf := Option.some.inj hf
        subst hf
        exact zk_retv (pc := 82) (ww := [xSe a0 a1 a2 a3 b_this.1 b_this.2.1 b_this.2.2.1, xI cy a1 4 ((upd b_this.2.2.2.1 3 x1)), xI cy a2 4 b_this.2.2.2.2.1, xRT cy a3 5 (fun j => [some a4, some a5, some a6, some a7, some a8].getD j none), xTe a4 ((b_this.2.2.2.2.2 0)), xTe a5 ((b_this.2.2.2.2.2 1)), xTe a6 ((b_this.2.2.2.2.2 2)), xTe a7 ((b_this.2.2.2.2.2 3)), xTe a8 u4, xSt p5_0 p5_1 p5_2 p5_3 p5_4 b_p5.1, xI cy p5_1 8 b_p5.2.1, xI cy p5_2 8 b_p5.2.2.1, xI cy p5_3 8 b_p5.2.2.2.1, xI cy p5_4 8 b_p5.2.2.2.2]) C hw hr hQ dX0_exploreBy_82
      · replace hf := if_t q5 hf
        refine lv_aload_n (pc := 55) hx hb dX0_exploreBy_55 rfl (lv_at hl 1 rfl) ?_
        refine lv_iload_n (pc := 56) hx hb dX0_exploreBy_56 rfl (lv_at hl 3 rfl) ?_
        refine lv_iconst (pc := 57) (v := 1) hx hb dX0_exploreBy_57 (by decide) ?_
        refine lv_iadd (pc := 58) hx hb dX0_exploreBy_58 ?_
        refine zk_eqi (v := 4) (by decide) ?_
        refine lv_iload_n (pc := 59) hx hb dX0_exploreBy_59 rfl (lv_at hl 4 rfl) ?_
        refine lv_aload (pc := 60) hx hb dX0_exploreBy_60 (lv_at hl 0 rfl) ?_
        refine zk_gt (pc := 62) C hw zl_X0_68 8 rfl rfl dX0_exploreBy_62 ?_
        refine zk_ifz (pc := 65) (tgt := 75) hx hb dX0_exploreBy_65 (by decide) (fun q6 => ?_) (fun q6 => ?_)
        · replace hf := if_f q6 hf
          refine lv_iload (pc := 75) hx hb dX0_exploreBy_75 (lv_at hl 5 rfl) ?_
          exact J77 x4 x3 ((b_this.1, b_this.2.1, b_this.2.2.1, (upd b_this.2.2.2.1 3 x1), b_this.2.2.2.2.1, (va_up b_this.2.2.2.2.2 4 u4))) _ _ _ hf hw (lv_sub hl [6] rfl)
        · replace hf := if_t q6 hf
          refine lv_iload (pc := 68) hx hb dX0_exploreBy_68 (lv_at hl 5 rfl) ?_
          refine lv_iconst (pc := 70) (v := 1) hx hb dX0_exploreBy_70 (by decide) ?_
          refine lv_iadd (pc := 71) hx hb dX0_exploreBy_71 ?_
          refine lv_goto (pc := 72) (tgt := 77) hx hb dX0_exploreBy_72 (by decide) ?_
          exact J77 ((x4 + (1 : Int32))) x3 ((b_this.1, b_this.2.1, b_this.2.2.1, (upd b_this.2.2.2.1 3 x1), b_this.2.2.2.2.1, (va_up b_this.2.2.2.2.2 4 u4))) _ _ _ hf hw (lv_sub hl [6] rfl)
    · replace hf := if_f q2 hf
      have hf := Option.some.inj hf
      subst hf
      exact zk_retv (pc := 9) (ww := [xSe a0 a1 a2 a3 b_this.1 b_this.2.1 b_this.2.2.1, xI cy a1 4 b_this.2.2.2.1, xI cy a2 4 b_this.2.2.2.2.1, xRT cy a3 5 (fun j => [some a4, some a5, some a6, some a7, some a8].getD j none), xTe a4 ((b_this.2.2.2.2.2 0)), xTe a5 ((b_this.2.2.2.2.2 1)), xTe a6 ((b_this.2.2.2.2.2 2)), xTe a7 ((b_this.2.2.2.2.2 3)), xTe a8 ((b_this.2.2.2.2.2 4)), xSt p5_0 p5_1 p5_2 p5_3 p5_4 b_p5.1, xI cy p5_1 8 b_p5.2.1, xI cy p5_2 8 b_p5.2.2.1, xI cy p5_3 8 b_p5.2.2.2.1, xI cy p5_4 8 b_p5.2.2.2.2]) C hw hr hQ dX0_exploreBy_9
def zf_X0_explore_l3_32 (b_p4 : TSt) : Nat → Int32 → Int32 → Int32 → TSe → Option (TSe)
  | 0, _, _, _, _ => none
  | n + 1, v2, v3, v5, b_this => (if (b_p4.1 + (2 : Int32)) ≤ v5 then some (b_this) else (Option.bind (zf_X2_orderAt v5 b_p4) (fun u6 => (Option.bind (zf_X0_exploreBy_l3 u6 v2 v3 b_this b_p4) (fun u7 => zf_X0_explore_l3_32 b_p4 n v2 v3 ((v5 + 1)) u7)))))
def zf_X0_explore_l3_16 (b_p4 : TSt) (v2 : Int32) (v3 : Int32) (b_this : TSe) : Option (TSe) := (if (3 : Int32) < v2 then zf_X0_explore_l3_32 b_p4 FU v2 v3 ((0 : Int32)) b_this else (Option.bind (zf_X0_compare_l3 v2 v3 b_this) (fun u4 => some (u4))))
def zf_X0_explore_l3 (x2 : Int32) (x3 : Int32) (b_this : TSe) (b_p4 : TSt) : Option (TSe) := (if b_this.2.2.1 then (if x3 ≤ b_this.1 then zf_X0_explore_l3_16 b_p4 x2 x3 b_this else some (b_this)) else zf_X0_explore_l3_16 b_p4 x2 x3 b_this)
abbrev zr_X0_explore_l3 : Room := { frames := 4, cells := 0, slots := 0, locals := 94 }
set_option maxHeartbeats 4000000 in
set_option maxRecDepth 100000 in
theorem c_X0_explore_l3 (l : Launch) (G : va_G) (cy : Nat → ClassId) (tt : Nat → Nat) (a0 a1 a2 a3 a4 a5 a6 a7 a8 : Nat) (p4_0 p4_1 p4_2 p4_3 p4_4 : Nat) (x2 : Int32) (x3 : Int32) (b_this : TSe) (b_p4 : TSt) (res : TSe) (hf : zf_X0_explore_l3 x2 x3 b_this b_p4 = some res) : zCT l yX0_explore cX0_explore 6 none zr_X0_explore_l3 G cy tt [.ref a0, .int ((3 : Int32)), .int x2, .int x3, .ref p4_0] [xSe a0 a1 a2 a3 b_this.1 b_this.2.1 b_this.2.2.1, xI cy a1 4 b_this.2.2.2.1, xI cy a2 4 b_this.2.2.2.2.1, xRT cy a3 5 (fun j => [some a4, some a5, some a6, some a7, some a8].getD j none), xTe a4 ((b_this.2.2.2.2.2 0)), xTe a5 ((b_this.2.2.2.2.2 1)), xTe a6 ((b_this.2.2.2.2.2 2)), xTe a7 ((b_this.2.2.2.2.2 3)), xTe a8 ((b_this.2.2.2.2.2 4)), xSt p4_0 p4_1 p4_2 p4_3 p4_4 b_p4.1, xI cy p4_1 8 b_p4.2.1, xI cy p4_2 8 b_p4.2.2.1, xI cy p4_3 8 b_p4.2.2.2.1, xI cy p4_4 8 b_p4.2.2.2.2] none [xSe a0 a1 a2 a3 res.1 res.2.1 res.2.2.1, xI cy a1 4 res.2.2.2.1, xI cy a2 4 res.2.2.2.2.1, xRT cy a3 5 (fun j => [some a4, some a5, some a6, some a7, some a8].getD j none), xTe a4 ((res.2.2.2.2.2 0)), xTe a5 ((res.2.2.2.2.2 1)), xTe a6 ((res.2.2.2.2.2 2)), xTe a7 ((res.2.2.2.2.2 3)), xTe a8 ((res.2.2.2.2.2 4)), xSt p4_0 p4_1 p4_2 p4_3 p4_4 b_p4.1, xI cy p4_1 8 b_p4.2.1, xI cy p4_2 8 b_p4.2.2.1, xI cy p4_3 8 b_p4.2.2.2.1, xI cy p4_4 8 b_p4.2.2.2.2] := by
  refine zk_start zn_X0 (Nat.le_of_ble_eq_true rfl) ?_
  intro p e s m args below meth c A ls Q C hr hQ hw hl
  have C : zCx p m c s args meth cX0_explore 6 RX0 G cy tt A := C
  have hx := C.1.1
  have hb := C.1.2.1
  have hl : lv_has ls 6 [(0, .ref a0), (1, .int ((3 : Int32))), (2, .int x2), (3, .int x3), (4, .ref p4_0)] := hl
  have J32 : ∀ (n : Nat), ∀ (v2 : Int32) (v3 : Int32) (v5 : Int32) (b_this : TSe) (H : Heap) (locs : List Loc) (ls : Array Slot), zf_X0_explore_l3_32 b_p4 n v2 v3 v5 b_this = some res → zWd G A s.heap H locs [xSe a0 a1 a2 a3 b_this.1 b_this.2.1 b_this.2.2.1, xI cy a1 4 b_this.2.2.2.1, xI cy a2 4 b_this.2.2.2.2.1, xRT cy a3 5 (fun j => [some a4, some a5, some a6, some a7, some a8].getD j none), xTe a4 ((b_this.2.2.2.2.2 0)), xTe a5 ((b_this.2.2.2.2.2 1)), xTe a6 ((b_this.2.2.2.2.2 2)), xTe a7 ((b_this.2.2.2.2.2 3)), xTe a8 ((b_this.2.2.2.2.2 4)), xSt p4_0 p4_1 p4_2 p4_3 p4_4 b_p4.1, xI cy p4_1 8 b_p4.2.1, xI cy p4_2 8 b_p4.2.2.1, xI cy p4_3 8 b_p4.2.2.2.1, xI cy p4_4 8 b_p4.2.2.2.2] → lv_has ls 6 [(0, .ref a0), (1, .int ((3 : Int32))), (2, .int v2), (3, .int v3), (4, .ref p4_0), (5, .int v5)] → W p l e zr_X0_explore_l3 s m args below meth c H locs 0 0 Q (F0 m 32 ls []) := by
    intro n
    induction n with
    | zero =>
      intro v2 v3 v5 b_this H locs ls hf hw hl
      rw [zf_X0_explore_l3_32] at hf
      cases hf
    | succ n ih =>
      intro v2 v3 v5 b_this H locs ls hf hw hl
      rw [zf_X0_explore_l3_32] at hf
      refine lv_iload (pc := 32) hx hb dX0_explore_32 (lv_at hl 5 rfl) ?_
      refine lv_aload (pc := 34) hx hb dX0_explore_34 (lv_at hl 4 rfl) ?_
      refine zk_gt (pc := 36) C hw zl_X0_48 9 rfl rfl dX0_explore_36 ?_
      refine lv_iconst (pc := 39) (v := 2) hx hb dX0_explore_39 (by decide) ?_
      refine lv_iadd (pc := 40) hx hb dX0_explore_40 ?_
      refine lv_icmp_ge (pc := 41) (tgt := 66) hx hb dX0_explore_41 (by decide) (fun q5 => ?_) (fun q5 => ?_)
      · replace hf := if_t q5 hf
        have hf := Option.some.inj hf
        subst hf
        exact zk_retv (pc := 66) (ww := [xSe a0 a1 a2 a3 b_this.1 b_this.2.1 b_this.2.2.1, xI cy a1 4 b_this.2.2.2.1, xI cy a2 4 b_this.2.2.2.2.1, xRT cy a3 5 (fun j => [some a4, some a5, some a6, some a7, some a8].getD j none), xTe a4 ((b_this.2.2.2.2.2 0)), xTe a5 ((b_this.2.2.2.2.2 1)), xTe a6 ((b_this.2.2.2.2.2 2)), xTe a7 ((b_this.2.2.2.2.2 3)), xTe a8 ((b_this.2.2.2.2.2 4)), xSt p4_0 p4_1 p4_2 p4_3 p4_4 b_p4.1, xI cy p4_1 8 b_p4.2.1, xI cy p4_2 8 b_p4.2.2.1, xI cy p4_3 8 b_p4.2.2.2.1, xI cy p4_4 8 b_p4.2.2.2.2]) C hw hr hQ dX0_explore_66
      · replace hf := if_f q5 hf
        refine lv_aload_n (pc := 44) hx hb dX0_explore_44 rfl (lv_at hl 0 rfl) ?_
        refine lv_aload (pc := 45) hx hb dX0_explore_45 (lv_at hl 4 rfl) ?_
        refine lv_iload (pc := 47) hx hb dX0_explore_47 (lv_at hl 5 rfl) ?_
        obtain ⟨u6, u6e, hf⟩ := bd hf
        refine zk_cV (pc := 49) (ci := 2) (q0 := 9) (rest := [.ref a0]) (st1 := [.int u6, .ref a0]) (w' := [xSe a0 a1 a2 a3 b_this.1 b_this.2.1 b_this.2.2.1, xI cy a1 4 b_this.2.2.2.1, xI cy a2 4 b_this.2.2.2.2.1, xRT cy a3 5 (fun j => [some a4, some a5, some a6, some a7, some a8].getD j none), xTe a4 ((b_this.2.2.2.2.2 0)), xTe a5 ((b_this.2.2.2.2.2 1)), xTe a6 ((b_this.2.2.2.2.2 2)), xTe a7 ((b_this.2.2.2.2.2 3)), xTe a8 ((b_this.2.2.2.2.2 4)), xSt p4_0 p4_1 p4_2 p4_3 p4_4 b_p4.1, xI cy p4_1 8 b_p4.2.1, xI cy p4_2 8 b_p4.2.2.1, xI cy p4_3 8 b_p4.2.2.2.1, xI cy p4_4 8 b_p4.2.2.2.2]) (mk := [none, none, none, none, none, none, none, none, none, none, none, none, none, none]) C hw (c_X2_orderAt l G cy tt p4_0 p4_1 p4_2 p4_3 p4_4 v5 b_p4 _ u6e) zy_X2_orderAt zm_X0_53 rfl rfl rfl [9, 10, 11, 12, 13] rfl rfl rfl rfl rfl rfl rfl rfl hl.1 ⟨rfl, rfl⟩ ⟨Nat.le_of_ble_eq_true rfl, Nat.le_of_ble_eq_true rfl⟩ rfl (Nat.le_of_ble_eq_true rfl) ⟨Nat.zero_le _, Nat.zero_le _⟩ dX0_explore_49 (fun H locs hw => ?_)
        refine lv_iload_n (pc := 52) hx hb dX0_explore_52 rfl (lv_at hl 1 rfl) ?_
        refine lv_iload_n (pc := 53) hx hb dX0_explore_53 rfl (lv_at hl 2 rfl) ?_
        refine lv_iload_n (pc := 54) hx hb dX0_explore_54 rfl (lv_at hl 3 rfl) ?_
        refine lv_aload (pc := 55) hx hb dX0_explore_55 (lv_at hl 4 rfl) ?_
        obtain ⟨u7, u7e, hf⟩ := bd hf
        refine zk_cV (pc := 57) (ci := 0) (q0 := 0) (rest := []) (st1 := []) (w' := [xSe a0 a1 a2 a3 u7.1 u7.2.1 u7.2.2.1, xI cy a1 4 u7.2.2.2.1, xI cy a2 4 u7.2.2.2.2.1, xRT cy a3 5 (fun j => [some a4, some a5, some a6, some a7, some a8].getD j none), xTe a4 ((u7.2.2.2.2.2 0)), xTe a5 ((u7.2.2.2.2.2 1)), xTe a6 ((u7.2.2.2.2.2 2)), xTe a7 ((u7.2.2.2.2.2 3)), xTe a8 ((u7.2.2.2.2.2 4)), xSt p4_0 p4_1 p4_2 p4_3 p4_4 b_p4.1, xI cy p4_1 8 b_p4.2.1, xI cy p4_2 8 b_p4.2.2.1, xI cy p4_3 8 b_p4.2.2.2.1, xI cy p4_4 8 b_p4.2.2.2.2]) (mk := [some (xSe a0 a1 a2 a3 u7.1 u7.2.1 u7.2.2.1), some (xI cy a1 4 u7.2.2.2.1), some (xI cy a2 4 u7.2.2.2.2.1), none, some (xTe a4 ((u7.2.2.2.2.2 0))), some (xTe a5 ((u7.2.2.2.2.2 1))), some (xTe a6 ((u7.2.2.2.2.2 2))), some (xTe a7 ((u7.2.2.2.2.2 3))), some (xTe a8 ((u7.2.2.2.2.2 4))), none, none, none, none, none]) C hw (c_X0_exploreBy_l3 l G cy tt a0 a1 a2 a3 a4 a5 a6 a7 a8 p4_0 p4_1 p4_2 p4_3 p4_4 u6 v2 v3 b_this b_p4 _ u7e) zy_X0_exploreBy zm_X0_57 rfl rfl rfl [0, 1, 2, 3, 4, 5, 6, 7, 8, 9, 10, 11, 12, 13] rfl rfl rfl rfl rfl rfl rfl rfl hl.1 ⟨rfl, rfl⟩ ⟨Nat.le_of_ble_eq_true rfl, Nat.le_of_ble_eq_true rfl⟩ rfl (Nat.le_of_ble_eq_true rfl) ⟨Nat.zero_le _, Nat.zero_le _⟩ dX0_explore_57 (fun H locs hw => ?_)
        refine lv_iinc (pc := 60) (v := (v5 + 1)) (lv' := [(5, .int ((v5 + 1))), (0, .ref a0), (1, .int ((3 : Int32))), (2, .int v2), (3, .int v3), (4, .ref p4_0)]) hx hb dX0_explore_60 hl (k := 5) rfl rfl (by decide) rfl (fun ls hl => ?_)
        refine lv_goto (pc := 63) (tgt := 32) hx hb dX0_explore_63 (by decide) ?_
        exact ih v2 v3 ((v5 + 1)) u7 _ _ _ hf hw (lv_sub hl [1, 2, 3, 4, 5, 0] rfl)
  have J16 : ∀ (v2 : Int32) (v3 : Int32) (b_this : TSe) (H : Heap) (locs : List Loc) (ls : Array Slot), zf_X0_explore_l3_16 b_p4 v2 v3 b_this = some res → zWd G A s.heap H locs [xSe a0 a1 a2 a3 b_this.1 b_this.2.1 b_this.2.2.1, xI cy a1 4 b_this.2.2.2.1, xI cy a2 4 b_this.2.2.2.2.1, xRT cy a3 5 (fun j => [some a4, some a5, some a6, some a7, some a8].getD j none), xTe a4 ((b_this.2.2.2.2.2 0)), xTe a5 ((b_this.2.2.2.2.2 1)), xTe a6 ((b_this.2.2.2.2.2 2)), xTe a7 ((b_this.2.2.2.2.2 3)), xTe a8 ((b_this.2.2.2.2.2 4)), xSt p4_0 p4_1 p4_2 p4_3 p4_4 b_p4.1, xI cy p4_1 8 b_p4.2.1, xI cy p4_2 8 b_p4.2.2.1, xI cy p4_3 8 b_p4.2.2.2.1, xI cy p4_4 8 b_p4.2.2.2.2] → lv_has ls 6 [(0, .ref a0), (1, .int ((3 : Int32))), (2, .int v2), (3, .int v3), (4, .ref p4_0)] → W p l e zr_X0_explore_l3 s m args below meth c H locs 0 0 Q (F0 m 16 ls []) := by
    intro v2 v3 b_this H locs ls hf hw hl
    rw [zf_X0_explore_l3_16] at hf
    refine lv_iload_n (pc := 16) hx hb dX0_explore_16 rfl (lv_at hl 1 rfl) ?_
    refine lv_iload_n (pc := 17) hx hb dX0_explore_17 rfl (lv_at hl 2 rfl) ?_
    refine lv_icmp_lt (pc := 18) (tgt := 29) hx hb dX0_explore_18 (by decide) (fun q3 => ?_) (fun q3 => ?_)
    · replace hf := if_t q3 hf
      refine lv_iconst (pc := 29) (v := 0) hx hb dX0_explore_29 (by decide) ?_
      refine lv_istore (pc := 30) (lv' := [(5, .int ((0 : Int32))), (0, .ref a0), (1, .int ((3 : Int32))), (2, .int v2), (3, .int v3), (4, .ref p4_0)]) hx hb dX0_explore_30 hl (by decide) rfl (fun ls hl => ?_)
      exact J32 FU v2 v3 ((0 : Int32)) b_this _ _ _ hf hw (lv_sub hl [1, 2, 3, 4, 5, 0] rfl)
    · replace hf := if_f q3 hf
      refine lv_aload_n (pc := 21) hx hb dX0_explore_21 rfl (lv_at hl 0 rfl) ?_
      refine lv_iload_n (pc := 22) hx hb dX0_explore_22 rfl (lv_at hl 2 rfl) ?_
      refine lv_iload_n (pc := 23) hx hb dX0_explore_23 rfl (lv_at hl 3 rfl) ?_
      refine lv_iload_n (pc := 24) hx hb dX0_explore_24 rfl (lv_at hl 1 rfl) ?_
      obtain ⟨u4, u4e, hf⟩ := bd hf
      refine zk_cV (pc := 25) (ci := 0) (q0 := 0) (rest := []) (st1 := []) (w' := [xSe a0 a1 a2 a3 u4.1 u4.2.1 u4.2.2.1, xI cy a1 4 u4.2.2.2.1, xI cy a2 4 u4.2.2.2.2.1, xRT cy a3 5 (fun j => [some a4, some a5, some a6, some a7, some a8].getD j none), xTe a4 ((u4.2.2.2.2.2 0)), xTe a5 ((u4.2.2.2.2.2 1)), xTe a6 ((u4.2.2.2.2.2 2)), xTe a7 ((u4.2.2.2.2.2 3)), xTe a8 ((u4.2.2.2.2.2 4)), xSt p4_0 p4_1 p4_2 p4_3 p4_4 b_p4.1, xI cy p4_1 8 b_p4.2.1, xI cy p4_2 8 b_p4.2.2.1, xI cy p4_3 8 b_p4.2.2.2.1, xI cy p4_4 8 b_p4.2.2.2.2]) (mk := [some (xSe a0 a1 a2 a3 u4.1 u4.2.1 u4.2.2.1), some (xI cy a1 4 u4.2.2.2.1), some (xI cy a2 4 u4.2.2.2.2.1), none, some (xTe a4 ((u4.2.2.2.2.2 0))), some (xTe a5 ((u4.2.2.2.2.2 1))), some (xTe a6 ((u4.2.2.2.2.2 2))), some (xTe a7 ((u4.2.2.2.2.2 3))), some (xTe a8 ((u4.2.2.2.2.2 4))), none, none, none, none, none]) C hw (c_X0_compare_l3 l G cy tt a0 a1 a2 a3 a4 a5 a6 a7 a8 v2 v3 b_this _ u4e) zy_X0_compare zm_X0_44 rfl rfl rfl [0, 1, 2, 3, 4, 5, 6, 7, 8] rfl rfl rfl rfl rfl rfl rfl rfl hl.1 ⟨rfl, rfl⟩ ⟨Nat.le_of_ble_eq_true rfl, Nat.le_of_ble_eq_true rfl⟩ rfl (Nat.le_of_ble_eq_true rfl) ⟨Nat.zero_le _, Nat.zero_le _⟩ dX0_explore_25 (fun H locs hw => ?_)
      have hf := Option.some.inj hf
      subst hf
      exact zk_retv (pc := 28) (ww := [xSe a0 a1 a2 a3 u4.1 u4.2.1 u4.2.2.1, xI cy a1 4 u4.2.2.2.1, xI cy a2 4 u4.2.2.2.2.1, xRT cy a3 5 (fun j => [some a4, some a5, some a6, some a7, some a8].getD j none), xTe a4 ((u4.2.2.2.2.2 0)), xTe a5 ((u4.2.2.2.2.2 1)), xTe a6 ((u4.2.2.2.2.2 2)), xTe a7 ((u4.2.2.2.2.2 3)), xTe a8 ((u4.2.2.2.2.2 4)), xSt p4_0 p4_1 p4_2 p4_3 p4_4 b_p4.1, xI cy p4_1 8 b_p4.2.1, xI cy p4_2 8 b_p4.2.2.1, xI cy p4_3 8 b_p4.2.2.2.1, xI cy p4_4 8 b_p4.2.2.2.2]) C hw hr hQ dX0_explore_28
  rw [zf_X0_explore_l3] at hf
  refine lv_aload_n (pc := 0) hx hb dX0_explore_0 rfl (lv_at hl 0 rfl) ?_
  refine zk_gt (pc := 1) C hw zl_X0_18 0 rfl rfl dX0_explore_1 ?_
  refine zk_ifz (pc := 4) (tgt := 16) hx hb dX0_explore_4 (by decide) (fun q1 => ?_) (fun q1 => ?_)
  · replace hf := if_f q1 hf
    exact J16 x2 x3 b_this _ _ _ hf hw (lv_sub hl [0, 1, 2, 3, 4] rfl)
  · replace hf := if_t q1 hf
    refine lv_iload_n (pc := 7) hx hb dX0_explore_7 rfl (lv_at hl 3 rfl) ?_
    refine lv_aload_n (pc := 8) hx hb dX0_explore_8 rfl (lv_at hl 0 rfl) ?_
    refine zk_gt (pc := 9) C hw zl_X0_9 0 rfl rfl dX0_explore_9 ?_
    refine lv_icmp_le (pc := 12) (tgt := 16) hx hb dX0_explore_12 (by decide) (fun q2 => ?_) (fun q2 => ?_)
    · replace hf := if_t q2 hf
      exact J16 x2 x3 b_this _ _ _ hf hw (lv_sub hl [0, 1, 2, 3, 4] rfl)
    · replace hf := if_f q2 hf
      have hf := Option.some.inj hf
      subst hf
      exact zk_retv (pc := 15) (ww := [xSe a0 a1 a2 a3 b_this.1 b_this.2.1 b_this.2.2.1, xI cy a1 4 b_this.2.2.2.1, xI cy a2 4 b_this.2.2.2.2.1, xRT cy a3 5 (fun j => [some a4, some a5, some a6, some a7, some a8].getD j none), xTe a4 ((b_this.2.2.2.2.2 0)), xTe a5 ((b_this.2.2.2.2.2 1)), xTe a6 ((b_this.2.2.2.2.2 2)), xTe a7 ((b_this.2.2.2.2.2 3)), xTe a8 ((b_this.2.2.2.2.2 4)), xSt p4_0 p4_1 p4_2 p4_3 p4_4 b_p4.1, xI cy p4_1 8 b_p4.2.1, xI cy p4_2 8 b_p4.2.2.1, xI cy p4_3 8 b_p4.2.2.2.1, xI cy p4_4 8 b_p4.2.2.2.2]) C hw hr hQ dX0_explore_15
def zf_X0_exploreBy_l2_77 (b_p5 : TSt) (t0 : Int32) (t1 : Int32) (b_this : TSe) : Option (TSe) := (Option.bind (zf_X0_explore_l3 t1 t0 b_this b_p5) (fun u7 => some (u7)))
def zf_X0_exploreBy_l2 (x1 : Int32) (x3 : Int32) (x4 : Int32) (b_this : TSe) (b_p5 : TSt) : Option (TSe) := (if (2 : Int32) < 0 then some (b_this) else (if (2 : Int32) < (4 : Int32) then (Option.bind (zf_X5_become ((b_this.2.2.2.2.2 3)) ((b_this.2.2.2.2.2 2))) (fun u3 => (Option.bind (zf_X5_pass x1 u3 b_p5) (fun u4 => (if u4.2.2.2.2.2.2 = (-1 : Int32) then (if u4.2.2.2.2.2.1 then zf_X0_exploreBy_l2_77 b_p5 ((x4 + (1 : Int32))) x3 ((b_this.1, b_this.2.1, b_this.2.2.1, (upd b_this.2.2.2.1 2 x1), b_this.2.2.2.2.1, (va_up b_this.2.2.2.2.2 3 u4))) else zf_X0_exploreBy_l2_77 b_p5 x4 x3 ((b_this.1, b_this.2.1, b_this.2.2.1, (upd b_this.2.2.2.1 2 x1), b_this.2.2.2.2.1, (va_up b_this.2.2.2.2.2 3 u4)))) else some ((b_this.1, b_this.2.1, b_this.2.2.1, (upd b_this.2.2.2.1 2 x1), b_this.2.2.2.2.1, (va_up b_this.2.2.2.2.2 3 u4)))))))) else some (b_this)))
abbrev zr_X0_exploreBy_l2 : Room := { frames := 5, cells := 0, slots := 0, locals := 119 }
set_option maxHeartbeats 4000000 in
set_option maxRecDepth 100000 in
theorem c_X0_exploreBy_l2 (l : Launch) (G : va_G) (cy : Nat → ClassId) (tt : Nat → Nat) (a0 a1 a2 a3 a4 a5 a6 a7 a8 : Nat) (p5_0 p5_1 p5_2 p5_3 p5_4 : Nat) (x1 : Int32) (x3 : Int32) (x4 : Int32) (b_this : TSe) (b_p5 : TSt) (res : TSe) (hf : zf_X0_exploreBy_l2 x1 x3 x4 b_this b_p5 = some res) : zCT l yX0_exploreBy cX0_exploreBy 7 none zr_X0_exploreBy_l2 G cy tt [.ref a0, .int x1, .int ((2 : Int32)), .int x3, .int x4, .ref p5_0] [xSe a0 a1 a2 a3 b_this.1 b_this.2.1 b_this.2.2.1, xI cy a1 4 b_this.2.2.2.1, xI cy a2 4 b_this.2.2.2.2.1, xRT cy a3 5 (fun j => [some a4, some a5, some a6, some a7, some a8].getD j none), xTe a4 ((b_this.2.2.2.2.2 0)), xTe a5 ((b_this.2.2.2.2.2 1)), xTe a6 ((b_this.2.2.2.2.2 2)), xTe a7 ((b_this.2.2.2.2.2 3)), xTe a8 ((b_this.2.2.2.2.2 4)), xSt p5_0 p5_1 p5_2 p5_3 p5_4 b_p5.1, xI cy p5_1 8 b_p5.2.1, xI cy p5_2 8 b_p5.2.2.1, xI cy p5_3 8 b_p5.2.2.2.1, xI cy p5_4 8 b_p5.2.2.2.2] none [xSe a0 a1 a2 a3 res.1 res.2.1 res.2.2.1, xI cy a1 4 res.2.2.2.1, xI cy a2 4 res.2.2.2.2.1, xRT cy a3 5 (fun j => [some a4, some a5, some a6, some a7, some a8].getD j none), xTe a4 ((res.2.2.2.2.2 0)), xTe a5 ((res.2.2.2.2.2 1)), xTe a6 ((res.2.2.2.2.2 2)), xTe a7 ((res.2.2.2.2.2 3)), xTe a8 ((res.2.2.2.2.2 4)), xSt p5_0 p5_1 p5_2 p5_3 p5_4 b_p5.1, xI cy p5_1 8 b_p5.2.1, xI cy p5_2 8 b_p5.2.2.1, xI cy p5_3 8 b_p5.2.2.2.1, xI cy p5_4 8 b_p5.2.2.2.2] := by
  refine zk_start zn_X0 (Nat.le_of_ble_eq_true rfl) ?_
  intro p e s m args below meth c A ls Q C hr hQ hw hl
  have C : zCx p m c s args meth cX0_exploreBy 7 RX0 G cy tt A := C
  have hx := C.1.1
  have hb := C.1.2.1
  have hl : lv_has ls 7 [(0, .ref a0), (1, .int x1), (2, .int ((2 : Int32))), (3, .int x3), (4, .int x4), (5, .ref p5_0)] := hl
  have J77 : ∀ (t0 : Int32) (t1 : Int32) (b_this : TSe) (H : Heap) (locs : List Loc) (ls : Array Slot), zf_X0_exploreBy_l2_77 b_p5 t0 t1 b_this = some res → zWd G A s.heap H locs [xSe a0 a1 a2 a3 b_this.1 b_this.2.1 b_this.2.2.1, xI cy a1 4 b_this.2.2.2.1, xI cy a2 4 b_this.2.2.2.2.1, xRT cy a3 5 (fun j => [some a4, some a5, some a6, some a7, some a8].getD j none), xTe a4 ((b_this.2.2.2.2.2 0)), xTe a5 ((b_this.2.2.2.2.2 1)), xTe a6 ((b_this.2.2.2.2.2 2)), xTe a7 ((b_this.2.2.2.2.2 3)), xTe a8 ((b_this.2.2.2.2.2 4)), xSt p5_0 p5_1 p5_2 p5_3 p5_4 b_p5.1, xI cy p5_1 8 b_p5.2.1, xI cy p5_2 8 b_p5.2.2.1, xI cy p5_3 8 b_p5.2.2.2.1, xI cy p5_4 8 b_p5.2.2.2.2] → lv_has ls 7 [(5, .ref p5_0)] → W p l e zr_X0_exploreBy_l2 s m args below meth c H locs 0 0 Q (F0 m 77 ls [.int t0, .int t1, .int ((3 : Int32)), .ref a0]) := by
    intro t0 t1 b_this H locs ls hf hw hl
    rw [zf_X0_exploreBy_l2_77] at hf
    refine lv_aload (pc := 77) hx hb dX0_exploreBy_77 (lv_at hl 0 rfl) ?_
    obtain ⟨u7, u7e, hf⟩ := bd hf
    refine zk_cV (pc := 79) (ci := 0) (q0 := 0) (rest := []) (st1 := []) (w' := [xSe a0 a1 a2 a3 u7.1 u7.2.1 u7.2.2.1, xI cy a1 4 u7.2.2.2.1, xI cy a2 4 u7.2.2.2.2.1, xRT cy a3 5 (fun j => [some a4, some a5, some a6, some a7, some a8].getD j none), xTe a4 ((u7.2.2.2.2.2 0)), xTe a5 ((u7.2.2.2.2.2 1)), xTe a6 ((u7.2.2.2.2.2 2)), xTe a7 ((u7.2.2.2.2.2 3)), xTe a8 ((u7.2.2.2.2.2 4)), xSt p5_0 p5_1 p5_2 p5_3 p5_4 b_p5.1, xI cy p5_1 8 b_p5.2.1, xI cy p5_2 8 b_p5.2.2.1, xI cy p5_3 8 b_p5.2.2.2.1, xI cy p5_4 8 b_p5.2.2.2.2]) (mk := [some (xSe a0 a1 a2 a3 u7.1 u7.2.1 u7.2.2.1), some (xI cy a1 4 u7.2.2.2.1), some (xI cy a2 4 u7.2.2.2.2.1), none, some (xTe a4 ((u7.2.2.2.2.2 0))), some (xTe a5 ((u7.2.2.2.2.2 1))), some (xTe a6 ((u7.2.2.2.2.2 2))), some (xTe a7 ((u7.2.2.2.2.2 3))), some (xTe a8 ((u7.2.2.2.2.2 4))), none, none, none, none, none]) C hw (c_X0_explore_l3 l G cy tt a0 a1 a2 a3 a4 a5 a6 a7 a8 p5_0 p5_1 p5_2 p5_3 p5_4 t1 t0 b_this b_p5 _ u7e) zy_X0_explore zm_X0_40 rfl rfl rfl [0, 1, 2, 3, 4, 5, 6, 7, 8, 9, 10, 11, 12, 13] rfl rfl rfl rfl rfl rfl rfl rfl hl.1 ⟨rfl, rfl⟩ ⟨Nat.le_of_ble_eq_true rfl, Nat.le_of_ble_eq_true rfl⟩ rfl (Nat.le_of_ble_eq_true rfl) ⟨Nat.zero_le _, Nat.zero_le _⟩ dX0_exploreBy_79 (fun H locs hw => ?_)
    have hf := Option.some.inj hf
    subst hf
    exact zk_retv (pc := 82) (ww := [xSe a0 a1 a2 a3 u7.1 u7.2.1 u7.2.2.1, xI cy a1 4 u7.2.2.2.1, xI cy a2 4 u7.2.2.2.2.1, xRT cy a3 5 (fun j => [some a4, some a5, some a6, some a7, some a8].getD j none), xTe a4 ((u7.2.2.2.2.2 0)), xTe a5 ((u7.2.2.2.2.2 1)), xTe a6 ((u7.2.2.2.2.2 2)), xTe a7 ((u7.2.2.2.2.2 3)), xTe a8 ((u7.2.2.2.2.2 4)), xSt p5_0 p5_1 p5_2 p5_3 p5_4 b_p5.1, xI cy p5_1 8 b_p5.2.1, xI cy p5_2 8 b_p5.2.2.1, xI cy p5_3 8 b_p5.2.2.2.1, xI cy p5_4 8 b_p5.2.2.2.2]) C hw hr hQ dX0_exploreBy_82
  rw [zf_X0_exploreBy_l2] at hf
  refine lv_iload_n (pc := 0) hx hb dX0_exploreBy_0 rfl (lv_at hl 2 rfl) ?_
  refine lv_if_lt (pc := 1) (tgt := 9) hx hb dX0_exploreBy_1 (by decide) (fun q1 => ?_) (fun q1 => ?_)
  · replace hf := if_t q1 hf
    have hf := Option.some.inj hf
    subst hf
    exact zk_retv (pc := 9) (ww := [xSe a0 a1 a2 a3 b_this.1 b_this.2.1 b_this.2.2.1, xI cy a1 4 b_this.2.2.2.1, xI cy a2 4 b_this.2.2.2.2.1, xRT cy a3 5 (fun j => [some a4, some a5, some a6, some a7, some a8].getD j none), xTe a4 ((b_this.2.2.2.2.2 0)), xTe a5 ((b_this.2.2.2.2.2 1)), xTe a6 ((b_this.2.2.2.2.2 2)), xTe a7 ((b_this.2.2.2.2.2 3)), xTe a8 ((b_this.2.2.2.2.2 4)), xSt p5_0 p5_1 p5_2 p5_3 p5_4 b_p5.1, xI cy p5_1 8 b_p5.2.1, xI cy p5_2 8 b_p5.2.2.1, xI cy p5_3 8 b_p5.2.2.2.1, xI cy p5_4 8 b_p5.2.2.2.2]) C hw hr hQ dX0_exploreBy_9
  · replace hf := if_f q1 hf
    refine lv_iload_n (pc := 4) hx hb dX0_exploreBy_4 rfl (lv_at hl 2 rfl) ?_
    refine lv_iconst (pc := 5) (v := 4) hx hb dX0_exploreBy_5 (by decide) ?_
    refine lv_icmp_lt (pc := 6) (tgt := 10) hx hb dX0_exploreBy_6 (by decide) (fun q2 => ?_) (fun q2 => ?_)
    · replace hf := if_t q2 hf
      refine lv_aload_n (pc := 10) hx hb dX0_exploreBy_10 rfl (lv_at hl 0 rfl) ?_
      refine zk_gt (pc := 11) C hw zl_X0_32 0 rfl rfl dX0_exploreBy_11 ?_
      refine lv_iload_n (pc := 14) hx hb dX0_exploreBy_14 rfl (lv_at hl 2 rfl) ?_
      refine lv_iconst (pc := 15) (v := 1) hx hb dX0_exploreBy_15 (by decide) ?_
      refine lv_iadd (pc := 16) hx hb dX0_exploreBy_16 ?_
      refine zk_eqi (v := 3) (by decide) ?_
      refine zk_aaldT (pc := 17) (a' := a7) 3 (by decide) C hw 3 rfl (by decide) rfl dX0_exploreBy_17 ?_
      refine lv_astore (pc := 18) (lv' := [(6, .ref a7), (0, .ref a0), (1, .int x1), (2, .int ((2 : Int32))), (3, .int x3), (4, .int x4), (5, .ref p5_0)]) hx hb dX0_exploreBy_18 hl (by decide) rfl (fun ls hl => ?_)
      refine lv_aload_n (pc := 20) hx hb dX0_exploreBy_20 rfl (lv_at hl 1 rfl) ?_
      refine zk_gt (pc := 21) C hw zl_X0_22 0 rfl rfl dX0_exploreBy_21 ?_
      refine lv_iload_n (pc := 24) hx hb dX0_exploreBy_24 rfl (lv_at hl 3 rfl) ?_
      refine lv_iload_n (pc := 25) hx hb dX0_exploreBy_25 rfl (lv_at hl 2 rfl) ?_
      refine zk_iastK (pc := 26) (w' := [xSe a0 a1 a2 a3 b_this.1 b_this.2.1 b_this.2.2.1, xI cy a1 4 ((upd b_this.2.2.2.1 2 x1)), xI cy a2 4 b_this.2.2.2.2.1, xRT cy a3 5 (fun j => [some a4, some a5, some a6, some a7, some a8].getD j none), xTe a4 ((b_this.2.2.2.2.2 0)), xTe a5 ((b_this.2.2.2.2.2 1)), xTe a6 ((b_this.2.2.2.2.2 2)), xTe a7 ((b_this.2.2.2.2.2 3)), xTe a8 ((b_this.2.2.2.2.2 4)), xSt p5_0 p5_1 p5_2 p5_3 p5_4 b_p5.1, xI cy p5_1 8 b_p5.2.1, xI cy p5_2 8 b_p5.2.2.1, xI cy p5_3 8 b_p5.2.2.2.1, xI cy p5_4 8 b_p5.2.2.2.2]) 2 (by decide) C hw 1 rfl (by decide) rfl dX0_exploreBy_26 (fun H locs hw => ?_)
      refine lv_aload (pc := 27) hx hb dX0_exploreBy_27 (lv_at hl 0 rfl) ?_
      refine lv_aload_n (pc := 29) hx hb dX0_exploreBy_29 rfl (lv_at hl 1 rfl) ?_
      refine zk_gt (pc := 30) C hw zl_X0_32 0 rfl rfl dX0_exploreBy_30 ?_
      refine lv_iload_n (pc := 33) hx hb dX0_exploreBy_33 rfl (lv_at hl 3 rfl) ?_
      refine zk_aaldT (pc := 34) (a' := a6) 2 (by decide) C hw 3 rfl (by decide) rfl dX0_exploreBy_34 ?_
      obtain ⟨u3, u3e, hf⟩ := bd hf
      refine zk_cV (pc := 35) (ci := 5) (q0 := 7) (rest := []) (st1 := []) (w' := [xSe a0 a1 a2 a3 b_this.1 b_this.2.1 b_this.2.2.1, xI cy a1 4 ((upd b_this.2.2.2.1 2 x1)), xI cy a2 4 b_this.2.2.2.2.1, xRT cy a3 5 (fun j => [some a4, some a5, some a6, some a7, some a8].getD j none), xTe a4 ((b_this.2.2.2.2.2 0)), xTe a5 ((b_this.2.2.2.2.2 1)), xTe a6 ((b_this.2.2.2.2.2 2)), xTe a7 u3, xTe a8 ((b_this.2.2.2.2.2 4)), xSt p5_0 p5_1 p5_2 p5_3 p5_4 b_p5.1, xI cy p5_1 8 b_p5.2.1, xI cy p5_2 8 b_p5.2.2.1, xI cy p5_3 8 b_p5.2.2.2.1, xI cy p5_4 8 b_p5.2.2.2.2]) (mk := [none, none, none, none, none, none, some (xTe a6 ((b_this.2.2.2.2.2 2))), some (xTe a7 u3), none, none, none, none, none, none]) C hw (c_X5_become l G cy tt a7 a6 ((b_this.2.2.2.2.2 3)) ((b_this.2.2.2.2.2 2)) _ u3e) zy_X5_become zm_X0_36 rfl rfl rfl [7, 6] rfl rfl rfl rfl rfl rfl rfl rfl hl.1 ⟨rfl, rfl⟩ ⟨Nat.le_of_ble_eq_true rfl, Nat.le_of_ble_eq_true rfl⟩ rfl (Nat.le_of_ble_eq_true rfl) ⟨Nat.zero_le _, Nat.zero_le _⟩ dX0_exploreBy_35 (fun H locs hw => ?_)
      refine lv_aload (pc := 38) hx hb dX0_exploreBy_38 (lv_at hl 0 rfl) ?_
      refine lv_iload_n (pc := 40) hx hb dX0_exploreBy_40 rfl (lv_at hl 2 rfl) ?_
      refine lv_aload (pc := 41) hx hb dX0_exploreBy_41 (lv_at hl 6 rfl) ?_
      obtain ⟨u4, u4e, hf⟩ := bd hf
      refine zk_cV (pc := 43) (ci := 5) (q0 := 7) (rest := []) (st1 := []) (w' := [xSe a0 a1 a2 a3 b_this.1 b_this.2.1 b_this.2.2.1, xI cy a1 4 ((upd b_this.2.2.2.1 2 x1)), xI cy a2 4 b_this.2.2.2.2.1, xRT cy a3 5 (fun j => [some a4, some a5, some a6, some a7, some a8].getD j none), xTe a4 ((b_this.2.2.2.2.2 0)), xTe a5 ((b_this.2.2.2.2.2 1)), xTe a6 ((b_this.2.2.2.2.2 2)), xTe a7 u4, xTe a8 ((b_this.2.2.2.2.2 4)), xSt p5_0 p5_1 p5_2 p5_3 p5_4 b_p5.1, xI cy p5_1 8 b_p5.2.1, xI cy p5_2 8 b_p5.2.2.1, xI cy p5_3 8 b_p5.2.2.2.1, xI cy p5_4 8 b_p5.2.2.2.2]) (mk := [none, none, none, none, none, none, none, some (xTe a7 u4), none, none, none, none, none, none]) C hw (c_X5_pass l G cy tt a7 p5_0 p5_1 p5_2 p5_3 p5_4 x1 u3 b_p5 _ u4e) zy_X5_pass zm_X0_61 rfl rfl rfl [7, 9, 10, 11, 12, 13] rfl rfl rfl rfl rfl rfl rfl rfl hl.1 ⟨rfl, rfl⟩ ⟨Nat.le_of_ble_eq_true rfl, Nat.le_of_ble_eq_true rfl⟩ rfl (Nat.le_of_ble_eq_true rfl) ⟨Nat.zero_le _, Nat.zero_le _⟩ dX0_exploreBy_43 (fun H locs hw => ?_)
      refine lv_aload (pc := 46) hx hb dX0_exploreBy_46 (lv_at hl 0 rfl) ?_
      refine zk_gt (pc := 48) C hw zl_X0_65 7 rfl rfl dX0_exploreBy_48 ?_
      refine lv_iconst (pc := 51) (v := -1) hx hb dX0_exploreBy_51 (by decide) ?_
      refine lv_icmp_ne (pc := 52) (tgt := 82) hx hb dX0_exploreBy_52 (by decide) (fun q5 => ?_) (fun q5 => ?_)
      · replace hf := if_f q5 hf
        have hf := Option.some.inj hf
        subst hf
        exact zk_retv (pc := 82) (ww := [xSe a0 a1 a2 a3 b_this.1 b_this.2.1 b_this.2.2.1, xI cy a1 4 ((upd b_this.2.2.2.1 2 x1)), xI cy a2 4 b_this.2.2.2.2.1, xRT cy a3 5 (fun j => [some a4, some a5, some a6, some a7, some a8].getD j none), xTe a4 ((b_this.2.2.2.2.2 0)), xTe a5 ((b_this.2.2.2.2.2 1)), xTe a6 ((b_this.2.2.2.2.2 2)), xTe a7 u4, xTe a8 ((b_this.2.2.2.2.2 4)), xSt p5_0 p5_1 p5_2 p5_3 p5_4 b_p5.1, xI cy p5_1 8 b_p5.2.1, xI cy p5_2 8 b_p5.2.2.1, xI cy p5_3 8 b_p5.2.2.2.1, xI cy p5_4 8 b_p5.2.2.2.2]) C hw hr hQ dX0_exploreBy_82
      · replace hf := if_t q5 hf
        refine lv_aload_n (pc := 55) hx hb dX0_exploreBy_55 rfl (lv_at hl 1 rfl) ?_
        refine lv_iload_n (pc := 56) hx hb dX0_exploreBy_56 rfl (lv_at hl 3 rfl) ?_
        refine lv_iconst (pc := 57) (v := 1) hx hb dX0_exploreBy_57 (by decide) ?_
        refine lv_iadd (pc := 58) hx hb dX0_exploreBy_58 ?_
        refine zk_eqi (v := 3) (by decide) ?_
        refine lv_iload_n (pc := 59) hx hb dX0_exploreBy_59 rfl (lv_at hl 4 rfl) ?_
        refine lv_aload (pc := 60) hx hb dX0_exploreBy_60 (lv_at hl 0 rfl) ?_
        refine zk_gt (pc := 62) C hw zl_X0_68 7 rfl rfl dX0_exploreBy_62 ?_
        refine zk_ifz (pc := 65) (tgt := 75) hx hb dX0_exploreBy_65 (by decide) (fun q6 => ?_) (fun q6 => ?_)
        · replace hf := if_f q6 hf
          refine lv_iload (pc := 75) hx hb dX0_exploreBy_75 (lv_at hl 5 rfl) ?_
          exact J77 x4 x3 ((b_this.1, b_this.2.1, b_this.2.2.1, (upd b_this.2.2.2.1 2 x1), b_this.2.2.2.2.1, (va_up b_this.2.2.2.2.2 3 u4))) _ _ _ hf hw (lv_sub hl [6] rfl)
        · replace hf := if_t q6 hf
          refine lv_iload (pc := 68) hx hb dX0_exploreBy_68 (lv_at hl 5 rfl) ?_
          refine lv_iconst (pc := 70) (v := 1) hx hb dX0_exploreBy_70 (by decide) ?_
          refine lv_iadd (pc := 71) hx hb dX0_exploreBy_71 ?_
          refine lv_goto (pc := 72) (tgt := 77) hx hb dX0_exploreBy_72 (by decide) ?_
          exact J77 ((x4 + (1 : Int32))) x3 ((b_this.1, b_this.2.1, b_this.2.2.1, (upd b_this.2.2.2.1 2 x1), b_this.2.2.2.2.1, (va_up b_this.2.2.2.2.2 3 u4))) _ _ _ hf hw (lv_sub hl [6] rfl)
    · replace hf := if_f q2 hf
      have hf := Option.some.inj hf
      subst hf
      exact zk_retv (pc := 9) (ww := [xSe a0 a1 a2 a3 b_this.1 b_this.2.1 b_this.2.2.1, xI cy a1 4 b_this.2.2.2.1, xI cy a2 4 b_this.2.2.2.2.1, xRT cy a3 5 (fun j => [some a4, some a5, some a6, some a7, some a8].getD j none), xTe a4 ((b_this.2.2.2.2.2 0)), xTe a5 ((b_this.2.2.2.2.2 1)), xTe a6 ((b_this.2.2.2.2.2 2)), xTe a7 ((b_this.2.2.2.2.2 3)), xTe a8 ((b_this.2.2.2.2.2 4)), xSt p5_0 p5_1 p5_2 p5_3 p5_4 b_p5.1, xI cy p5_1 8 b_p5.2.1, xI cy p5_2 8 b_p5.2.2.1, xI cy p5_3 8 b_p5.2.2.2.1, xI cy p5_4 8 b_p5.2.2.2.2]) C hw hr hQ dX0_exploreBy_9
def zf_X0_explore_l2_32 (b_p4 : TSt) : Nat → Int32 → Int32 → Int32 → TSe → Option (TSe)
  | 0, _, _, _, _ => none
  | n + 1, v2, v3, v5, b_this => (if (b_p4.1 + (2 : Int32)) ≤ v5 then some (b_this) else (Option.bind (zf_X2_orderAt v5 b_p4) (fun u6 => (Option.bind (zf_X0_exploreBy_l2 u6 v2 v3 b_this b_p4) (fun u7 => zf_X0_explore_l2_32 b_p4 n v2 v3 ((v5 + 1)) u7)))))
def zf_X0_explore_l2_16 (b_p4 : TSt) (v2 : Int32) (v3 : Int32) (b_this : TSe) : Option (TSe) := (if (2 : Int32) < v2 then zf_X0_explore_l2_32 b_p4 FU v2 v3 ((0 : Int32)) b_this else (Option.bind (zf_X0_compare_l2 v2 v3 b_this) (fun u4 => some (u4))))
def zf_X0_explore_l2 (x2 : Int32) (x3 : Int32) (b_this : TSe) (b_p4 : TSt) : Option (TSe) := (if b_this.2.2.1 then (if x3 ≤ b_this.1 then zf_X0_explore_l2_16 b_p4 x2 x3 b_this else some (b_this)) else zf_X0_explore_l2_16 b_p4 x2 x3 b_this)
abbrev zr_X0_explore_l2 : Room := { frames := 6, cells := 0, slots := 0, locals := 145 }
set_option maxHeartbeats 4000000 in
set_option maxRecDepth 100000 in
theorem c_X0_explore_l2 (l : Launch) (G : va_G) (cy : Nat → ClassId) (tt : Nat → Nat) (a0 a1 a2 a3 a4 a5 a6 a7 a8 : Nat) (p4_0 p4_1 p4_2 p4_3 p4_4 : Nat) (x2 : Int32) (x3 : Int32) (b_this : TSe) (b_p4 : TSt) (res : TSe) (hf : zf_X0_explore_l2 x2 x3 b_this b_p4 = some res) : zCT l yX0_explore cX0_explore 6 none zr_X0_explore_l2 G cy tt [.ref a0, .int ((2 : Int32)), .int x2, .int x3, .ref p4_0] [xSe a0 a1 a2 a3 b_this.1 b_this.2.1 b_this.2.2.1, xI cy a1 4 b_this.2.2.2.1, xI cy a2 4 b_this.2.2.2.2.1, xRT cy a3 5 (fun j => [some a4, some a5, some a6, some a7, some a8].getD j none), xTe a4 ((b_this.2.2.2.2.2 0)), xTe a5 ((b_this.2.2.2.2.2 1)), xTe a6 ((b_this.2.2.2.2.2 2)), xTe a7 ((b_this.2.2.2.2.2 3)), xTe a8 ((b_this.2.2.2.2.2 4)), xSt p4_0 p4_1 p4_2 p4_3 p4_4 b_p4.1, xI cy p4_1 8 b_p4.2.1, xI cy p4_2 8 b_p4.2.2.1, xI cy p4_3 8 b_p4.2.2.2.1, xI cy p4_4 8 b_p4.2.2.2.2] none [xSe a0 a1 a2 a3 res.1 res.2.1 res.2.2.1, xI cy a1 4 res.2.2.2.1, xI cy a2 4 res.2.2.2.2.1, xRT cy a3 5 (fun j => [some a4, some a5, some a6, some a7, some a8].getD j none), xTe a4 ((res.2.2.2.2.2 0)), xTe a5 ((res.2.2.2.2.2 1)), xTe a6 ((res.2.2.2.2.2 2)), xTe a7 ((res.2.2.2.2.2 3)), xTe a8 ((res.2.2.2.2.2 4)), xSt p4_0 p4_1 p4_2 p4_3 p4_4 b_p4.1, xI cy p4_1 8 b_p4.2.1, xI cy p4_2 8 b_p4.2.2.1, xI cy p4_3 8 b_p4.2.2.2.1, xI cy p4_4 8 b_p4.2.2.2.2] := by
  refine zk_start zn_X0 (Nat.le_of_ble_eq_true rfl) ?_
  intro p e s m args below meth c A ls Q C hr hQ hw hl
  have C : zCx p m c s args meth cX0_explore 6 RX0 G cy tt A := C
  have hx := C.1.1
  have hb := C.1.2.1
  have hl : lv_has ls 6 [(0, .ref a0), (1, .int ((2 : Int32))), (2, .int x2), (3, .int x3), (4, .ref p4_0)] := hl
  have J32 : ∀ (n : Nat), ∀ (v2 : Int32) (v3 : Int32) (v5 : Int32) (b_this : TSe) (H : Heap) (locs : List Loc) (ls : Array Slot), zf_X0_explore_l2_32 b_p4 n v2 v3 v5 b_this = some res → zWd G A s.heap H locs [xSe a0 a1 a2 a3 b_this.1 b_this.2.1 b_this.2.2.1, xI cy a1 4 b_this.2.2.2.1, xI cy a2 4 b_this.2.2.2.2.1, xRT cy a3 5 (fun j => [some a4, some a5, some a6, some a7, some a8].getD j none), xTe a4 ((b_this.2.2.2.2.2 0)), xTe a5 ((b_this.2.2.2.2.2 1)), xTe a6 ((b_this.2.2.2.2.2 2)), xTe a7 ((b_this.2.2.2.2.2 3)), xTe a8 ((b_this.2.2.2.2.2 4)), xSt p4_0 p4_1 p4_2 p4_3 p4_4 b_p4.1, xI cy p4_1 8 b_p4.2.1, xI cy p4_2 8 b_p4.2.2.1, xI cy p4_3 8 b_p4.2.2.2.1, xI cy p4_4 8 b_p4.2.2.2.2] → lv_has ls 6 [(0, .ref a0), (1, .int ((2 : Int32))), (2, .int v2), (3, .int v3), (4, .ref p4_0), (5, .int v5)] → W p l e zr_X0_explore_l2 s m args below meth c H locs 0 0 Q (F0 m 32 ls []) := by
    intro n
    induction n with
    | zero =>
      intro v2 v3 v5 b_this H locs ls hf hw hl
      rw [zf_X0_explore_l2_32] at hf
      cases hf
    | succ n ih =>
      intro v2 v3 v5 b_this H locs ls hf hw hl
      rw [zf_X0_explore_l2_32] at hf
      refine lv_iload (pc := 32) hx hb dX0_explore_32 (lv_at hl 5 rfl) ?_
      refine lv_aload (pc := 34) hx hb dX0_explore_34 (lv_at hl 4 rfl) ?_
      refine zk_gt (pc := 36) C hw zl_X0_48 9 rfl rfl dX0_explore_36 ?_
      refine lv_iconst (pc := 39) (v := 2) hx hb dX0_explore_39 (by decide) ?_
      refine lv_iadd (pc := 40) hx hb dX0_explore_40 ?_
      refine lv_icmp_ge (pc := 41) (tgt := 66) hx hb dX0_explore_41 (by decide) (fun q5 => ?_) (fun q5 => ?_)
      · replace hf := if_t q5 hf
        have hf := Option.some.inj hf
        subst hf
        exact zk_retv (pc := 66) (ww := [xSe a0 a1 a2 a3 b_this.1 b_this.2.1 b_this.2.2.1, xI cy a1 4 b_this.2.2.2.1, xI cy a2 4 b_this.2.2.2.2.1, xRT cy a3 5 (fun j => [some a4, some a5, some a6, some a7, some a8].getD j none), xTe a4 ((b_this.2.2.2.2.2 0)), xTe a5 ((b_this.2.2.2.2.2 1)), xTe a6 ((b_this.2.2.2.2.2 2)), xTe a7 ((b_this.2.2.2.2.2 3)), xTe a8 ((b_this.2.2.2.2.2 4)), xSt p4_0 p4_1 p4_2 p4_3 p4_4 b_p4.1, xI cy p4_1 8 b_p4.2.1, xI cy p4_2 8 b_p4.2.2.1, xI cy p4_3 8 b_p4.2.2.2.1, xI cy p4_4 8 b_p4.2.2.2.2]) C hw hr hQ dX0_explore_66
      · replace hf := if_f q5 hf
        refine lv_aload_n (pc := 44) hx hb dX0_explore_44 rfl (lv_at hl 0 rfl) ?_
        refine lv_aload (pc := 45) hx hb dX0_explore_45 (lv_at hl 4 rfl) ?_
        refine lv_iload (pc := 47) hx hb dX0_explore_47 (lv_at hl 5 rfl) ?_
        obtain ⟨u6, u6e, hf⟩ := bd hf
        refine zk_cV (pc := 49) (ci := 2) (q0 := 9) (rest := [.ref a0]) (st1 := [.int u6, .ref a0]) (w' := [xSe a0 a1 a2 a3 b_this.1 b_this.2.1 b_this.2.2.1, xI cy a1 4 b_this.2.2.2.1, xI cy a2 4 b_this.2.2.2.2.1, xRT cy a3 5 (fun j => [some a4, some a5, some a6, some a7, some a8].getD j none), xTe a4 ((b_this.2.2.2.2.2 0)), xTe a5 ((b_this.2.2.2.2.2 1)), xTe a6 ((b_this.2.2.2.2.2 2)), xTe a7 ((b_this.2.2.2.2.2 3)), xTe a8 ((b_this.2.2.2.2.2 4)), xSt p4_0 p4_1 p4_2 p4_3 p4_4 b_p4.1, xI cy p4_1 8 b_p4.2.1, xI cy p4_2 8 b_p4.2.2.1, xI cy p4_3 8 b_p4.2.2.2.1, xI cy p4_4 8 b_p4.2.2.2.2]) (mk := [none, none, none, none, none, none, none, none, none, none, none, none, none, none]) C hw (c_X2_orderAt l G cy tt p4_0 p4_1 p4_2 p4_3 p4_4 v5 b_p4 _ u6e) zy_X2_orderAt zm_X0_53 rfl rfl rfl [9, 10, 11, 12, 13] rfl rfl rfl rfl rfl rfl rfl rfl hl.1 ⟨rfl, rfl⟩ ⟨Nat.le_of_ble_eq_true rfl, Nat.le_of_ble_eq_true rfl⟩ rfl (Nat.le_of_ble_eq_true rfl) ⟨Nat.zero_le _, Nat.zero_le _⟩ dX0_explore_49 (fun H locs hw => ?_)
        refine lv_iload_n (pc := 52) hx hb dX0_explore_52 rfl (lv_at hl 1 rfl) ?_
        refine lv_iload_n (pc := 53) hx hb dX0_explore_53 rfl (lv_at hl 2 rfl) ?_
        refine lv_iload_n (pc := 54) hx hb dX0_explore_54 rfl (lv_at hl 3 rfl) ?_
        refine lv_aload (pc := 55) hx hb dX0_explore_55 (lv_at hl 4 rfl) ?_
        obtain ⟨u7, u7e, hf⟩ := bd hf
        refine zk_cV (pc := 57) (ci := 0) (q0 := 0) (rest := []) (st1 := []) (w' := [xSe a0 a1 a2 a3 u7.1 u7.2.1 u7.2.2.1, xI cy a1 4 u7.2.2.2.1, xI cy a2 4 u7.2.2.2.2.1, xRT cy a3 5 (fun j => [some a4, some a5, some a6, some a7, some a8].getD j none), xTe a4 ((u7.2.2.2.2.2 0)), xTe a5 ((u7.2.2.2.2.2 1)), xTe a6 ((u7.2.2.2.2.2 2)), xTe a7 ((u7.2.2.2.2.2 3)), xTe a8 ((u7.2.2.2.2.2 4)), xSt p4_0 p4_1 p4_2 p4_3 p4_4 b_p4.1, xI cy p4_1 8 b_p4.2.1, xI cy p4_2 8 b_p4.2.2.1, xI cy p4_3 8 b_p4.2.2.2.1, xI cy p4_4 8 b_p4.2.2.2.2]) (mk := [some (xSe a0 a1 a2 a3 u7.1 u7.2.1 u7.2.2.1), some (xI cy a1 4 u7.2.2.2.1), some (xI cy a2 4 u7.2.2.2.2.1), none, some (xTe a4 ((u7.2.2.2.2.2 0))), some (xTe a5 ((u7.2.2.2.2.2 1))), some (xTe a6 ((u7.2.2.2.2.2 2))), some (xTe a7 ((u7.2.2.2.2.2 3))), some (xTe a8 ((u7.2.2.2.2.2 4))), none, none, none, none, none]) C hw (c_X0_exploreBy_l2 l G cy tt a0 a1 a2 a3 a4 a5 a6 a7 a8 p4_0 p4_1 p4_2 p4_3 p4_4 u6 v2 v3 b_this b_p4 _ u7e) zy_X0_exploreBy zm_X0_57 rfl rfl rfl [0, 1, 2, 3, 4, 5, 6, 7, 8, 9, 10, 11, 12, 13] rfl rfl rfl rfl rfl rfl rfl rfl hl.1 ⟨rfl, rfl⟩ ⟨Nat.le_of_ble_eq_true rfl, Nat.le_of_ble_eq_true rfl⟩ rfl (Nat.le_of_ble_eq_true rfl) ⟨Nat.zero_le _, Nat.zero_le _⟩ dX0_explore_57 (fun H locs hw => ?_)
        refine lv_iinc (pc := 60) (v := (v5 + 1)) (lv' := [(5, .int ((v5 + 1))), (0, .ref a0), (1, .int ((2 : Int32))), (2, .int v2), (3, .int v3), (4, .ref p4_0)]) hx hb dX0_explore_60 hl (k := 5) rfl rfl (by decide) rfl (fun ls hl => ?_)
        refine lv_goto (pc := 63) (tgt := 32) hx hb dX0_explore_63 (by decide) ?_
        exact ih v2 v3 ((v5 + 1)) u7 _ _ _ hf hw (lv_sub hl [1, 2, 3, 4, 5, 0] rfl)
  have J16 : ∀ (v2 : Int32) (v3 : Int32) (b_this : TSe) (H : Heap) (locs : List Loc) (ls : Array Slot), zf_X0_explore_l2_16 b_p4 v2 v3 b_this = some res → zWd G A s.heap H locs [xSe a0 a1 a2 a3 b_this.1 b_this.2.1 b_this.2.2.1, xI cy a1 4 b_this.2.2.2.1, xI cy a2 4 b_this.2.2.2.2.1, xRT cy a3 5 (fun j => [some a4, some a5, some a6, some a7, some a8].getD j none), xTe a4 ((b_this.2.2.2.2.2 0)), xTe a5 ((b_this.2.2.2.2.2 1)), xTe a6 ((b_this.2.2.2.2.2 2)), xTe a7 ((b_this.2.2.2.2.2 3)), xTe a8 ((b_this.2.2.2.2.2 4)), xSt p4_0 p4_1 p4_2 p4_3 p4_4 b_p4.1, xI cy p4_1 8 b_p4.2.1, xI cy p4_2 8 b_p4.2.2.1, xI cy p4_3 8 b_p4.2.2.2.1, xI cy p4_4 8 b_p4.2.2.2.2] → lv_has ls 6 [(0, .ref a0), (1, .int ((2 : Int32))), (2, .int v2), (3, .int v3), (4, .ref p4_0)] → W p l e zr_X0_explore_l2 s m args below meth c H locs 0 0 Q (F0 m 16 ls []) := by
    intro v2 v3 b_this H locs ls hf hw hl
    rw [zf_X0_explore_l2_16] at hf
    refine lv_iload_n (pc := 16) hx hb dX0_explore_16 rfl (lv_at hl 1 rfl) ?_
    refine lv_iload_n (pc := 17) hx hb dX0_explore_17 rfl (lv_at hl 2 rfl) ?_
    refine lv_icmp_lt (pc := 18) (tgt := 29) hx hb dX0_explore_18 (by decide) (fun q3 => ?_) (fun q3 => ?_)
    · replace hf := if_t q3 hf
      refine lv_iconst (pc := 29) (v := 0) hx hb dX0_explore_29 (by decide) ?_
      refine lv_istore (pc := 30) (lv' := [(5, .int ((0 : Int32))), (0, .ref a0), (1, .int ((2 : Int32))), (2, .int v2), (3, .int v3), (4, .ref p4_0)]) hx hb dX0_explore_30 hl (by decide) rfl (fun ls hl => ?_)
      exact J32 FU v2 v3 ((0 : Int32)) b_this _ _ _ hf hw (lv_sub hl [1, 2, 3, 4, 5, 0] rfl)
    · replace hf := if_f q3 hf
      refine lv_aload_n (pc := 21) hx hb dX0_explore_21 rfl (lv_at hl 0 rfl) ?_
      refine lv_iload_n (pc := 22) hx hb dX0_explore_22 rfl (lv_at hl 2 rfl) ?_
      refine lv_iload_n (pc := 23) hx hb dX0_explore_23 rfl (lv_at hl 3 rfl) ?_
      refine lv_iload_n (pc := 24) hx hb dX0_explore_24 rfl (lv_at hl 1 rfl) ?_
      obtain ⟨u4, u4e, hf⟩ := bd hf
      refine zk_cV (pc := 25) (ci := 0) (q0 := 0) (rest := []) (st1 := []) (w' := [xSe a0 a1 a2 a3 u4.1 u4.2.1 u4.2.2.1, xI cy a1 4 u4.2.2.2.1, xI cy a2 4 u4.2.2.2.2.1, xRT cy a3 5 (fun j => [some a4, some a5, some a6, some a7, some a8].getD j none), xTe a4 ((u4.2.2.2.2.2 0)), xTe a5 ((u4.2.2.2.2.2 1)), xTe a6 ((u4.2.2.2.2.2 2)), xTe a7 ((u4.2.2.2.2.2 3)), xTe a8 ((u4.2.2.2.2.2 4)), xSt p4_0 p4_1 p4_2 p4_3 p4_4 b_p4.1, xI cy p4_1 8 b_p4.2.1, xI cy p4_2 8 b_p4.2.2.1, xI cy p4_3 8 b_p4.2.2.2.1, xI cy p4_4 8 b_p4.2.2.2.2]) (mk := [some (xSe a0 a1 a2 a3 u4.1 u4.2.1 u4.2.2.1), some (xI cy a1 4 u4.2.2.2.1), some (xI cy a2 4 u4.2.2.2.2.1), none, some (xTe a4 ((u4.2.2.2.2.2 0))), some (xTe a5 ((u4.2.2.2.2.2 1))), some (xTe a6 ((u4.2.2.2.2.2 2))), some (xTe a7 ((u4.2.2.2.2.2 3))), some (xTe a8 ((u4.2.2.2.2.2 4))), none, none, none, none, none]) C hw (c_X0_compare_l2 l G cy tt a0 a1 a2 a3 a4 a5 a6 a7 a8 v2 v3 b_this _ u4e) zy_X0_compare zm_X0_44 rfl rfl rfl [0, 1, 2, 3, 4, 5, 6, 7, 8] rfl rfl rfl rfl rfl rfl rfl rfl hl.1 ⟨rfl, rfl⟩ ⟨Nat.le_of_ble_eq_true rfl, Nat.le_of_ble_eq_true rfl⟩ rfl (Nat.le_of_ble_eq_true rfl) ⟨Nat.zero_le _, Nat.zero_le _⟩ dX0_explore_25 (fun H locs hw => ?_)
      have hf := Option.some.inj hf
      subst hf
      exact zk_retv (pc := 28) (ww := [xSe a0 a1 a2 a3 u4.1 u4.2.1 u4.2.2.1, xI cy a1 4 u4.2.2.2.1, xI cy a2 4 u4.2.2.2.2.1, xRT cy a3 5 (fun j => [some a4, some a5, some a6, some a7, some a8].getD j none), xTe a4 ((u4.2.2.2.2.2 0)), xTe a5 ((u4.2.2.2.2.2 1)), xTe a6 ((u4.2.2.2.2.2 2)), xTe a7 ((u4.2.2.2.2.2 3)), xTe a8 ((u4.2.2.2.2.2 4)), xSt p4_0 p4_1 p4_2 p4_3 p4_4 b_p4.1, xI cy p4_1 8 b_p4.2.1, xI cy p4_2 8 b_p4.2.2.1, xI cy p4_3 8 b_p4.2.2.2.1, xI cy p4_4 8 b_p4.2.2.2.2]) C hw hr hQ dX0_explore_28
  rw [zf_X0_explore_l2] at hf
  refine lv_aload_n (pc := 0) hx hb dX0_explore_0 rfl (lv_at hl 0 rfl) ?_
  refine zk_gt (pc := 1) C hw zl_X0_18 0 rfl rfl dX0_explore_1 ?_
  refine zk_ifz (pc := 4) (tgt := 16) hx hb dX0_explore_4 (by decide) (fun q1 => ?_) (fun q1 => ?_)
  · replace hf := if_f q1 hf
    exact J16 x2 x3 b_this _ _ _ hf hw (lv_sub hl [0, 1, 2, 3, 4] rfl)
  · replace hf := if_t q1 hf
    refine lv_iload_n (pc := 7) hx hb dX0_explore_7 rfl (lv_at hl 3 rfl) ?_
    refine lv_aload_n (pc := 8) hx hb dX0_explore_8 rfl (lv_at hl 0 rfl) ?_
    refine zk_gt (pc := 9) C hw zl_X0_9 0 rfl rfl dX0_explore_9 ?_
    refine lv_icmp_le (pc := 12) (tgt := 16) hx hb dX0_explore_12 (by decide) (fun q2 => ?_) (fun q2 => ?_)
    · replace hf := if_t q2 hf
      exact J16 x2 x3 b_this _ _ _ hf hw (lv_sub hl [0, 1, 2, 3, 4] rfl)
    · replace hf := if_f q2 hf
      have hf := Option.some.inj hf
      subst hf
      exact zk_retv (pc := 15) (ww := [xSe a0 a1 a2 a3 b_this.1 b_this.2.1 b_this.2.2.1, xI cy a1 4 b_this.2.2.2.1, xI cy a2 4 b_this.2.2.2.2.1, xRT cy a3 5 (fun j => [some a4, some a5, some a6, some a7, some a8].getD j none), xTe a4 ((b_this.2.2.2.2.2 0)), xTe a5 ((b_this.2.2.2.2.2 1)), xTe a6 ((b_this.2.2.2.2.2 2)), xTe a7 ((b_this.2.2.2.2.2 3)), xTe a8 ((b_this.2.2.2.2.2 4)), xSt p4_0 p4_1 p4_2 p4_3 p4_4 b_p4.1, xI cy p4_1 8 b_p4.2.1, xI cy p4_2 8 b_p4.2.2.1, xI cy p4_3 8 b_p4.2.2.2.1, xI cy p4_4 8 b_p4.2.2.2.2]) C hw hr hQ dX0_explore_15
def zf_X0_exploreBy_l1_77 (b_p5 : TSt) (t0 : Int32) (t1 : Int32) (b_this : TSe) : Option (TSe) := (Option.bind (zf_X0_explore_l2 t1 t0 b_this b_p5) (fun u7 => some (u7)))
def zf_X0_exploreBy_l1 (x1 : Int32) (x3 : Int32) (x4 : Int32) (b_this : TSe) (b_p5 : TSt) : Option (TSe) := (if (1 : Int32) < 0 then some (b_this) else (if (1 : Int32) < (4 : Int32) then (Option.bind (zf_X5_become ((b_this.2.2.2.2.2 2)) ((b_this.2.2.2.2.2 1))) (fun u3 => (Option.bind (zf_X5_pass x1 u3 b_p5) (fun u4 => (if u4.2.2.2.2.2.2 = (-1 : Int32) then (if u4.2.2.2.2.2.1 then zf_X0_exploreBy_l1_77 b_p5 ((x4 + (1 : Int32))) x3 ((b_this.1, b_this.2.1, b_this.2.2.1, (upd b_this.2.2.2.1 1 x1), b_this.2.2.2.2.1, (va_up b_this.2.2.2.2.2 2 u4))) else zf_X0_exploreBy_l1_77 b_p5 x4 x3 ((b_this.1, b_this.2.1, b_this.2.2.1, (upd b_this.2.2.2.1 1 x1), b_this.2.2.2.2.1, (va_up b_this.2.2.2.2.2 2 u4)))) else some ((b_this.1, b_this.2.1, b_this.2.2.1, (upd b_this.2.2.2.1 1 x1), b_this.2.2.2.2.1, (va_up b_this.2.2.2.2.2 2 u4)))))))) else some (b_this)))
abbrev zr_X0_exploreBy_l1 : Room := { frames := 7, cells := 0, slots := 0, locals := 170 }
set_option maxHeartbeats 4000000 in
set_option maxRecDepth 100000 in
theorem c_X0_exploreBy_l1 (l : Launch) (G : va_G) (cy : Nat → ClassId) (tt : Nat → Nat) (a0 a1 a2 a3 a4 a5 a6 a7 a8 : Nat) (p5_0 p5_1 p5_2 p5_3 p5_4 : Nat) (x1 : Int32) (x3 : Int32) (x4 : Int32) (b_this : TSe) (b_p5 : TSt) (res : TSe) (hf : zf_X0_exploreBy_l1 x1 x3 x4 b_this b_p5 = some res) : zCT l yX0_exploreBy cX0_exploreBy 7 none zr_X0_exploreBy_l1 G cy tt [.ref a0, .int x1, .int ((1 : Int32)), .int x3, .int x4, .ref p5_0] [xSe a0 a1 a2 a3 b_this.1 b_this.2.1 b_this.2.2.1, xI cy a1 4 b_this.2.2.2.1, xI cy a2 4 b_this.2.2.2.2.1, xRT cy a3 5 (fun j => [some a4, some a5, some a6, some a7, some a8].getD j none), xTe a4 ((b_this.2.2.2.2.2 0)), xTe a5 ((b_this.2.2.2.2.2 1)), xTe a6 ((b_this.2.2.2.2.2 2)), xTe a7 ((b_this.2.2.2.2.2 3)), xTe a8 ((b_this.2.2.2.2.2 4)), xSt p5_0 p5_1 p5_2 p5_3 p5_4 b_p5.1, xI cy p5_1 8 b_p5.2.1, xI cy p5_2 8 b_p5.2.2.1, xI cy p5_3 8 b_p5.2.2.2.1, xI cy p5_4 8 b_p5.2.2.2.2] none [xSe a0 a1 a2 a3 res.1 res.2.1 res.2.2.1, xI cy a1 4 res.2.2.2.1, xI cy a2 4 res.2.2.2.2.1, xRT cy a3 5 (fun j => [some a4, some a5, some a6, some a7, some a8].getD j none), xTe a4 ((res.2.2.2.2.2 0)), xTe a5 ((res.2.2.2.2.2 1)), xTe a6 ((res.2.2.2.2.2 2)), xTe a7 ((res.2.2.2.2.2 3)), xTe a8 ((res.2.2.2.2.2 4)), xSt p5_0 p5_1 p5_2 p5_3 p5_4 b_p5.1, xI cy p5_1 8 b_p5.2.1, xI cy p5_2 8 b_p5.2.2.1, xI cy p5_3 8 b_p5.2.2.2.1, xI cy p5_4 8 b_p5.2.2.2.2] := by
  refine zk_start zn_X0 (Nat.le_of_ble_eq_true rfl) ?_
  intro p e s m args below meth c A ls Q C hr hQ hw hl
  have C : zCx p m c s args meth cX0_exploreBy 7 RX0 G cy tt A := C
  have hx := C.1.1
  have hb := C.1.2.1
  have hl : lv_has ls 7 [(0, .ref a0), (1, .int x1), (2, .int ((1 : Int32))), (3, .int x3), (4, .int x4), (5, .ref p5_0)] := hl
  have J77 : ∀ (t0 : Int32) (t1 : Int32) (b_this : TSe) (H : Heap) (locs : List Loc) (ls : Array Slot), zf_X0_exploreBy_l1_77 b_p5 t0 t1 b_this = some res → zWd G A s.heap H locs [xSe a0 a1 a2 a3 b_this.1 b_this.2.1 b_this.2.2.1, xI cy a1 4 b_this.2.2.2.1, xI cy a2 4 b_this.2.2.2.2.1, xRT cy a3 5 (fun j => [some a4, some a5, some a6, some a7, some a8].getD j none), xTe a4 ((b_this.2.2.2.2.2 0)), xTe a5 ((b_this.2.2.2.2.2 1)), xTe a6 ((b_this.2.2.2.2.2 2)), xTe a7 ((b_this.2.2.2.2.2 3)), xTe a8 ((b_this.2.2.2.2.2 4)), xSt p5_0 p5_1 p5_2 p5_3 p5_4 b_p5.1, xI cy p5_1 8 b_p5.2.1, xI cy p5_2 8 b_p5.2.2.1, xI cy p5_3 8 b_p5.2.2.2.1, xI cy p5_4 8 b_p5.2.2.2.2] → lv_has ls 7 [(5, .ref p5_0)] → W p l e zr_X0_exploreBy_l1 s m args below meth c H locs 0 0 Q (F0 m 77 ls [.int t0, .int t1, .int ((2 : Int32)), .ref a0]) := by
    intro t0 t1 b_this H locs ls hf hw hl
    rw [zf_X0_exploreBy_l1_77] at hf
    refine lv_aload (pc := 77) hx hb dX0_exploreBy_77 (lv_at hl 0 rfl) ?_
    obtain ⟨u7, u7e, hf⟩ := bd hf
    refine zk_cV (pc := 79) (ci := 0) (q0 := 0) (rest := []) (st1 := []) (w' := [xSe a0 a1 a2 a3 u7.1 u7.2.1 u7.2.2.1, xI cy a1 4 u7.2.2.2.1, xI cy a2 4 u7.2.2.2.2.1, xRT cy a3 5 (fun j => [some a4, some a5, some a6, some a7, some a8].getD j none), xTe a4 ((u7.2.2.2.2.2 0)), xTe a5 ((u7.2.2.2.2.2 1)), xTe a6 ((u7.2.2.2.2.2 2)), xTe a7 ((u7.2.2.2.2.2 3)), xTe a8 ((u7.2.2.2.2.2 4)), xSt p5_0 p5_1 p5_2 p5_3 p5_4 b_p5.1, xI cy p5_1 8 b_p5.2.1, xI cy p5_2 8 b_p5.2.2.1, xI cy p5_3 8 b_p5.2.2.2.1, xI cy p5_4 8 b_p5.2.2.2.2]) (mk := [some (xSe a0 a1 a2 a3 u7.1 u7.2.1 u7.2.2.1), some (xI cy a1 4 u7.2.2.2.1), some (xI cy a2 4 u7.2.2.2.2.1), none, some (xTe a4 ((u7.2.2.2.2.2 0))), some (xTe a5 ((u7.2.2.2.2.2 1))), some (xTe a6 ((u7.2.2.2.2.2 2))), some (xTe a7 ((u7.2.2.2.2.2 3))), some (xTe a8 ((u7.2.2.2.2.2 4))), none, none, none, none, none]) C hw (c_X0_explore_l2 l G cy tt a0 a1 a2 a3 a4 a5 a6 a7 a8 p5_0 p5_1 p5_2 p5_3 p5_4 t1 t0 b_this b_p5 _ u7e) zy_X0_explore zm_X0_40 rfl rfl rfl [0, 1, 2, 3, 4, 5, 6, 7, 8, 9, 10, 11, 12, 13] rfl rfl rfl rfl rfl rfl rfl rfl hl.1 ⟨rfl, rfl⟩ ⟨Nat.le_of_ble_eq_true rfl, Nat.le_of_ble_eq_true rfl⟩ rfl (Nat.le_of_ble_eq_true rfl) ⟨Nat.zero_le _, Nat.zero_le _⟩ dX0_exploreBy_79 (fun H locs hw => ?_)
    have hf := Option.some.inj hf
    subst hf
    exact zk_retv (pc := 82) (ww := [xSe a0 a1 a2 a3 u7.1 u7.2.1 u7.2.2.1, xI cy a1 4 u7.2.2.2.1, xI cy a2 4 u7.2.2.2.2.1, xRT cy a3 5 (fun j => [some a4, some a5, some a6, some a7, some a8].getD j none), xTe a4 ((u7.2.2.2.2.2 0)), xTe a5 ((u7.2.2.2.2.2 1)), xTe a6 ((u7.2.2.2.2.2 2)), xTe a7 ((u7.2.2.2.2.2 3)), xTe a8 ((u7.2.2.2.2.2 4)), xSt p5_0 p5_1 p5_2 p5_3 p5_4 b_p5.1, xI cy p5_1 8 b_p5.2.1, xI cy p5_2 8 b_p5.2.2.1, xI cy p5_3 8 b_p5.2.2.2.1, xI cy p5_4 8 b_p5.2.2.2.2]) C hw hr hQ dX0_exploreBy_82
  rw [zf_X0_exploreBy_l1] at hf
  refine lv_iload_n (pc := 0) hx hb dX0_exploreBy_0 rfl (lv_at hl 2 rfl) ?_
  refine lv_if_lt (pc := 1) (tgt := 9) hx hb dX0_exploreBy_1 (by decide) (fun q1 => ?_) (fun q1 => ?_)
  · replace hf := if_t q1 hf
    have hf := Option.some.inj hf
    subst hf
    exact zk_retv (pc := 9) (ww := [xSe a0 a1 a2 a3 b_this.1 b_this.2.1 b_this.2.2.1, xI cy a1 4 b_this.2.2.2.1, xI cy a2 4 b_this.2.2.2.2.1, xRT cy a3 5 (fun j => [some a4, some a5, some a6, some a7, some a8].getD j none), xTe a4 ((b_this.2.2.2.2.2 0)), xTe a5 ((b_this.2.2.2.2.2 1)), xTe a6 ((b_this.2.2.2.2.2 2)), xTe a7 ((b_this.2.2.2.2.2 3)), xTe a8 ((b_this.2.2.2.2.2 4)), xSt p5_0 p5_1 p5_2 p5_3 p5_4 b_p5.1, xI cy p5_1 8 b_p5.2.1, xI cy p5_2 8 b_p5.2.2.1, xI cy p5_3 8 b_p5.2.2.2.1, xI cy p5_4 8 b_p5.2.2.2.2]) C hw hr hQ dX0_exploreBy_9
  · replace hf := if_f q1 hf
    refine lv_iload_n (pc := 4) hx hb dX0_exploreBy_4 rfl (lv_at hl 2 rfl) ?_
    refine lv_iconst (pc := 5) (v := 4) hx hb dX0_exploreBy_5 (by decide) ?_
    refine lv_icmp_lt (pc := 6) (tgt := 10) hx hb dX0_exploreBy_6 (by decide) (fun q2 => ?_) (fun q2 => ?_)
    · replace hf := if_t q2 hf
      refine lv_aload_n (pc := 10) hx hb dX0_exploreBy_10 rfl (lv_at hl 0 rfl) ?_
      refine zk_gt (pc := 11) C hw zl_X0_32 0 rfl rfl dX0_exploreBy_11 ?_
      refine lv_iload_n (pc := 14) hx hb dX0_exploreBy_14 rfl (lv_at hl 2 rfl) ?_
      refine lv_iconst (pc := 15) (v := 1) hx hb dX0_exploreBy_15 (by decide) ?_
      refine lv_iadd (pc := 16) hx hb dX0_exploreBy_16 ?_
      refine zk_eqi (v := 2) (by decide) ?_
      refine zk_aaldT (pc := 17) (a' := a6) 2 (by decide) C hw 3 rfl (by decide) rfl dX0_exploreBy_17 ?_
      refine lv_astore (pc := 18) (lv' := [(6, .ref a6), (0, .ref a0), (1, .int x1), (2, .int ((1 : Int32))), (3, .int x3), (4, .int x4), (5, .ref p5_0)]) hx hb dX0_exploreBy_18 hl (by decide) rfl (fun ls hl => ?_)
      refine lv_aload_n (pc := 20) hx hb dX0_exploreBy_20 rfl (lv_at hl 1 rfl) ?_
      refine zk_gt (pc := 21) C hw zl_X0_22 0 rfl rfl dX0_exploreBy_21 ?_
      refine lv_iload_n (pc := 24) hx hb dX0_exploreBy_24 rfl (lv_at hl 3 rfl) ?_
      refine lv_iload_n (pc := 25) hx hb dX0_exploreBy_25 rfl (lv_at hl 2 rfl) ?_
      refine zk_iastK (pc := 26) (w' := [xSe a0 a1 a2 a3 b_this.1 b_this.2.1 b_this.2.2.1, xI cy a1 4 ((upd b_this.2.2.2.1 1 x1)), xI cy a2 4 b_this.2.2.2.2.1, xRT cy a3 5 (fun j => [some a4, some a5, some a6, some a7, some a8].getD j none), xTe a4 ((b_this.2.2.2.2.2 0)), xTe a5 ((b_this.2.2.2.2.2 1)), xTe a6 ((b_this.2.2.2.2.2 2)), xTe a7 ((b_this.2.2.2.2.2 3)), xTe a8 ((b_this.2.2.2.2.2 4)), xSt p5_0 p5_1 p5_2 p5_3 p5_4 b_p5.1, xI cy p5_1 8 b_p5.2.1, xI cy p5_2 8 b_p5.2.2.1, xI cy p5_3 8 b_p5.2.2.2.1, xI cy p5_4 8 b_p5.2.2.2.2]) 1 (by decide) C hw 1 rfl (by decide) rfl dX0_exploreBy_26 (fun H locs hw => ?_)
      refine lv_aload (pc := 27) hx hb dX0_exploreBy_27 (lv_at hl 0 rfl) ?_
      refine lv_aload_n (pc := 29) hx hb dX0_exploreBy_29 rfl (lv_at hl 1 rfl) ?_
      refine zk_gt (pc := 30) C hw zl_X0_32 0 rfl rfl dX0_exploreBy_30 ?_
      refine lv_iload_n (pc := 33) hx hb dX0_exploreBy_33 rfl (lv_at hl 3 rfl) ?_
      refine zk_aaldT (pc := 34) (a' := a5) 1 (by decide) C hw 3 rfl (by decide) rfl dX0_exploreBy_34 ?_
      obtain ⟨u3, u3e, hf⟩ := bd hf
      refine zk_cV (pc := 35) (ci := 5) (q0 := 6) (rest := []) (st1 := []) (w' := [xSe a0 a1 a2 a3 b_this.1 b_this.2.1 b_this.2.2.1, xI cy a1 4 ((upd b_this.2.2.2.1 1 x1)), xI cy a2 4 b_this.2.2.2.2.1, xRT cy a3 5 (fun j => [some a4, some a5, some a6, some a7, some a8].getD j none), xTe a4 ((b_this.2.2.2.2.2 0)), xTe a5 ((b_this.2.2.2.2.2 1)), xTe a6 u3, xTe a7 ((b_this.2.2.2.2.2 3)), xTe a8 ((b_this.2.2.2.2.2 4)), xSt p5_0 p5_1 p5_2 p5_3 p5_4 b_p5.1, xI cy p5_1 8 b_p5.2.1, xI cy p5_2 8 b_p5.2.2.1, xI cy p5_3 8 b_p5.2.2.2.1, xI cy p5_4 8 b_p5.2.2.2.2]) (mk := [none, none, none, none, none, some (xTe a5 ((b_this.2.2.2.2.2 1))), some (xTe a6 u3), none, none, none, none, none, none, none]) C hw (c_X5_become l G cy tt a6 a5 ((b_this.2.2.2.2.2 2)) ((b_this.2.2.2.2.2 1)) _ u3e) zy_X5_become zm_X0_36 rfl rfl rfl [6, 5] rfl rfl rfl rfl rfl rfl rfl rfl hl.1 ⟨rfl, rfl⟩ ⟨Nat.le_of_ble_eq_true rfl, Nat.le_of_ble_eq_true rfl⟩ rfl (Nat.le_of_ble_eq_true rfl) ⟨Nat.zero_le _, Nat.zero_le _⟩ dX0_exploreBy_35 (fun H locs hw => ?_)
      refine lv_aload (pc := 38) hx hb dX0_exploreBy_38 (lv_at hl 0 rfl) ?_
      refine lv_iload_n (pc := 40) hx hb dX0_exploreBy_40 rfl (lv_at hl 2 rfl) ?_
      refine lv_aload (pc := 41) hx hb dX0_exploreBy_41 (lv_at hl 6 rfl) ?_
      obtain ⟨u4, u4e, hf⟩ := bd hf
      refine zk_cV (pc := 43) (ci := 5) (q0 := 6) (rest := []) (st1 := []) (w' := [xSe a0 a1 a2 a3 b_this.1 b_this.2.1 b_this.2.2.1, xI cy a1 4 ((upd b_this.2.2.2.1 1 x1)), xI cy a2 4 b_this.2.2.2.2.1, xRT cy a3 5 (fun j => [some a4, some a5, some a6, some a7, some a8].getD j none), xTe a4 ((b_this.2.2.2.2.2 0)), xTe a5 ((b_this.2.2.2.2.2 1)), xTe a6 u4, xTe a7 ((b_this.2.2.2.2.2 3)), xTe a8 ((b_this.2.2.2.2.2 4)), xSt p5_0 p5_1 p5_2 p5_3 p5_4 b_p5.1, xI cy p5_1 8 b_p5.2.1, xI cy p5_2 8 b_p5.2.2.1, xI cy p5_3 8 b_p5.2.2.2.1, xI cy p5_4 8 b_p5.2.2.2.2]) (mk := [none, none, none, none, none, none, some (xTe a6 u4), none, none, none, none, none, none, none]) C hw (c_X5_pass l G cy tt a6 p5_0 p5_1 p5_2 p5_3 p5_4 x1 u3 b_p5 _ u4e) zy_X5_pass zm_X0_61 rfl rfl rfl [6, 9, 10, 11, 12, 13] rfl rfl rfl rfl rfl rfl rfl rfl hl.1 ⟨rfl, rfl⟩ ⟨Nat.le_of_ble_eq_true rfl, Nat.le_of_ble_eq_true rfl⟩ rfl (Nat.le_of_ble_eq_true rfl) ⟨Nat.zero_le _, Nat.zero_le _⟩ dX0_exploreBy_43 (fun H locs hw => ?_)
      refine lv_aload (pc := 46) hx hb dX0_exploreBy_46 (lv_at hl 0 rfl) ?_
      refine zk_gt (pc := 48) C hw zl_X0_65 6 rfl rfl dX0_exploreBy_48 ?_
      refine lv_iconst (pc := 51) (v := -1) hx hb dX0_exploreBy_51 (by decide) ?_
      refine lv_icmp_ne (pc := 52) (tgt := 82) hx hb dX0_exploreBy_52 (by decide) (fun q5 => ?_) (fun q5 => ?_)
      · replace hf := if_f q5 hf
        have hf := Option.some.inj hf
        subst hf
        exact zk_retv (pc := 82) (ww := [xSe a0 a1 a2 a3 b_this.1 b_this.2.1 b_this.2.2.1, xI cy a1 4 ((upd b_this.2.2.2.1 1 x1)), xI cy a2 4 b_this.2.2.2.2.1, xRT cy a3 5 (fun j => [some a4, some a5, some a6, some a7, some a8].getD j none), xTe a4 ((b_this.2.2.2.2.2 0)), xTe a5 ((b_this.2.2.2.2.2 1)), xTe a6 u4, xTe a7 ((b_this.2.2.2.2.2 3)), xTe a8 ((b_this.2.2.2.2.2 4)), xSt p5_0 p5_1 p5_2 p5_3 p5_4 b_p5.1, xI cy p5_1 8 b_p5.2.1, xI cy p5_2 8 b_p5.2.2.1, xI cy p5_3 8 b_p5.2.2.2.1, xI cy p5_4 8 b_p5.2.2.2.2]) C hw hr hQ dX0_exploreBy_82
      · replace hf := if_t q5 hf
        refine lv_aload_n (pc := 55) hx hb dX0_exploreBy_55 rfl (lv_at hl 1 rfl) ?_
        refine lv_iload_n (pc := 56) hx hb dX0_exploreBy_56 rfl (lv_at hl 3 rfl) ?_
        refine lv_iconst (pc := 57) (v := 1) hx hb dX0_exploreBy_57 (by decide) ?_
        refine lv_iadd (pc := 58) hx hb dX0_exploreBy_58 ?_
        refine zk_eqi (v := 2) (by decide) ?_
        refine lv_iload_n (pc := 59) hx hb dX0_exploreBy_59 rfl (lv_at hl 4 rfl) ?_
        refine lv_aload (pc := 60) hx hb dX0_exploreBy_60 (lv_at hl 0 rfl) ?_
        refine zk_gt (pc := 62) C hw zl_X0_68 6 rfl rfl dX0_exploreBy_62 ?_
        refine zk_ifz (pc := 65) (tgt := 75) hx hb dX0_exploreBy_65 (by decide) (fun q6 => ?_) (fun q6 => ?_)
        · replace hf := if_f q6 hf
          refine lv_iload (pc := 75) hx hb dX0_exploreBy_75 (lv_at hl 5 rfl) ?_
          exact J77 x4 x3 ((b_this.1, b_this.2.1, b_this.2.2.1, (upd b_this.2.2.2.1 1 x1), b_this.2.2.2.2.1, (va_up b_this.2.2.2.2.2 2 u4))) _ _ _ hf hw (lv_sub hl [6] rfl)
        · replace hf := if_t q6 hf
          refine lv_iload (pc := 68) hx hb dX0_exploreBy_68 (lv_at hl 5 rfl) ?_
          refine lv_iconst (pc := 70) (v := 1) hx hb dX0_exploreBy_70 (by decide) ?_
          refine lv_iadd (pc := 71) hx hb dX0_exploreBy_71 ?_
          refine lv_goto (pc := 72) (tgt := 77) hx hb dX0_exploreBy_72 (by decide) ?_
          exact J77 ((x4 + (1 : Int32))) x3 ((b_this.1, b_this.2.1, b_this.2.2.1, (upd b_this.2.2.2.1 1 x1), b_this.2.2.2.2.1, (va_up b_this.2.2.2.2.2 2 u4))) _ _ _ hf hw (lv_sub hl [6] rfl)
    · replace hf := if_f q2 hf
      have hf := Option.some.inj hf
      subst hf
      exact zk_retv (pc := 9) (ww := [xSe a0 a1 a2 a3 b_this.1 b_this.2.1 b_this.2.2.1, xI cy a1 4 b_this.2.2.2.1, xI cy a2 4 b_this.2.2.2.2.1, xRT cy a3 5 (fun j => [some a4, some a5, some a6, some a7, some a8].getD j none), xTe a4 ((b_this.2.2.2.2.2 0)), xTe a5 ((b_this.2.2.2.2.2 1)), xTe a6 ((b_this.2.2.2.2.2 2)), xTe a7 ((b_this.2.2.2.2.2 3)), xTe a8 ((b_this.2.2.2.2.2 4)), xSt p5_0 p5_1 p5_2 p5_3 p5_4 b_p5.1, xI cy p5_1 8 b_p5.2.1, xI cy p5_2 8 b_p5.2.2.1, xI cy p5_3 8 b_p5.2.2.2.1, xI cy p5_4 8 b_p5.2.2.2.2]) C hw hr hQ dX0_exploreBy_9
def zf_X0_explore_l1_32 (b_p4 : TSt) : Nat → Int32 → Int32 → Int32 → TSe → Option (TSe)
  | 0, _, _, _, _ => none
  | n + 1, v2, v3, v5, b_this => (if (b_p4.1 + (2 : Int32)) ≤ v5 then some (b_this) else (Option.bind (zf_X2_orderAt v5 b_p4) (fun u6 => (Option.bind (zf_X0_exploreBy_l1 u6 v2 v3 b_this b_p4) (fun u7 => zf_X0_explore_l1_32 b_p4 n v2 v3 ((v5 + 1)) u7)))))
def zf_X0_explore_l1_16 (b_p4 : TSt) (v2 : Int32) (v3 : Int32) (b_this : TSe) : Option (TSe) := (if (1 : Int32) < v2 then zf_X0_explore_l1_32 b_p4 FU v2 v3 ((0 : Int32)) b_this else (Option.bind (zf_X0_compare_l1 v2 v3 b_this) (fun u4 => some (u4))))
def zf_X0_explore_l1 (x2 : Int32) (x3 : Int32) (b_this : TSe) (b_p4 : TSt) : Option (TSe) := (if b_this.2.2.1 then (if x3 ≤ b_this.1 then zf_X0_explore_l1_16 b_p4 x2 x3 b_this else some (b_this)) else zf_X0_explore_l1_16 b_p4 x2 x3 b_this)
abbrev zr_X0_explore_l1 : Room := { frames := 8, cells := 0, slots := 0, locals := 196 }
set_option maxHeartbeats 4000000 in
set_option maxRecDepth 100000 in
theorem c_X0_explore_l1 (l : Launch) (G : va_G) (cy : Nat → ClassId) (tt : Nat → Nat) (a0 a1 a2 a3 a4 a5 a6 a7 a8 : Nat) (p4_0 p4_1 p4_2 p4_3 p4_4 : Nat) (x2 : Int32) (x3 : Int32) (b_this : TSe) (b_p4 : TSt) (res : TSe) (hf : zf_X0_explore_l1 x2 x3 b_this b_p4 = some res) : zCT l yX0_explore cX0_explore 6 none zr_X0_explore_l1 G cy tt [.ref a0, .int ((1 : Int32)), .int x2, .int x3, .ref p4_0] [xSe a0 a1 a2 a3 b_this.1 b_this.2.1 b_this.2.2.1, xI cy a1 4 b_this.2.2.2.1, xI cy a2 4 b_this.2.2.2.2.1, xRT cy a3 5 (fun j => [some a4, some a5, some a6, some a7, some a8].getD j none), xTe a4 ((b_this.2.2.2.2.2 0)), xTe a5 ((b_this.2.2.2.2.2 1)), xTe a6 ((b_this.2.2.2.2.2 2)), xTe a7 ((b_this.2.2.2.2.2 3)), xTe a8 ((b_this.2.2.2.2.2 4)), xSt p4_0 p4_1 p4_2 p4_3 p4_4 b_p4.1, xI cy p4_1 8 b_p4.2.1, xI cy p4_2 8 b_p4.2.2.1, xI cy p4_3 8 b_p4.2.2.2.1, xI cy p4_4 8 b_p4.2.2.2.2] none [xSe a0 a1 a2 a3 res.1 res.2.1 res.2.2.1, xI cy a1 4 res.2.2.2.1, xI cy a2 4 res.2.2.2.2.1, xRT cy a3 5 (fun j => [some a4, some a5, some a6, some a7, some a8].getD j none), xTe a4 ((res.2.2.2.2.2 0)), xTe a5 ((res.2.2.2.2.2 1)), xTe a6 ((res.2.2.2.2.2 2)), xTe a7 ((res.2.2.2.2.2 3)), xTe a8 ((res.2.2.2.2.2 4)), xSt p4_0 p4_1 p4_2 p4_3 p4_4 b_p4.1, xI cy p4_1 8 b_p4.2.1, xI cy p4_2 8 b_p4.2.2.1, xI cy p4_3 8 b_p4.2.2.2.1, xI cy p4_4 8 b_p4.2.2.2.2] := by
  refine zk_start zn_X0 (Nat.le_of_ble_eq_true rfl) ?_
  intro p e s m args below meth c A ls Q C hr hQ hw hl
  have C : zCx p m c s args meth cX0_explore 6 RX0 G cy tt A := C
  have hx := C.1.1
  have hb := C.1.2.1
  have hl : lv_has ls 6 [(0, .ref a0), (1, .int ((1 : Int32))), (2, .int x2), (3, .int x3), (4, .ref p4_0)] := hl
  have J32 : ∀ (n : Nat), ∀ (v2 : Int32) (v3 : Int32) (v5 : Int32) (b_this : TSe) (H : Heap) (locs : List Loc) (ls : Array Slot), zf_X0_explore_l1_32 b_p4 n v2 v3 v5 b_this = some res → zWd G A s.heap H locs [xSe a0 a1 a2 a3 b_this.1 b_this.2.1 b_this.2.2.1, xI cy a1 4 b_this.2.2.2.1, xI cy a2 4 b_this.2.2.2.2.1, xRT cy a3 5 (fun j => [some a4, some a5, some a6, some a7, some a8].getD j none), xTe a4 ((b_this.2.2.2.2.2 0)), xTe a5 ((b_this.2.2.2.2.2 1)), xTe a6 ((b_this.2.2.2.2.2 2)), xTe a7 ((b_this.2.2.2.2.2 3)), xTe a8 ((b_this.2.2.2.2.2 4)), xSt p4_0 p4_1 p4_2 p4_3 p4_4 b_p4.1, xI cy p4_1 8 b_p4.2.1, xI cy p4_2 8 b_p4.2.2.1, xI cy p4_3 8 b_p4.2.2.2.1, xI cy p4_4 8 b_p4.2.2.2.2] → lv_has ls 6 [(0, .ref a0), (1, .int ((1 : Int32))), (2, .int v2), (3, .int v3), (4, .ref p4_0), (5, .int v5)] → W p l e zr_X0_explore_l1 s m args below meth c H locs 0 0 Q (F0 m 32 ls []) := by
    intro n
    induction n with
    | zero =>
      intro v2 v3 v5 b_this H locs ls hf hw hl
      rw [zf_X0_explore_l1_32] at hf
      cases hf
    | succ n ih =>
      intro v2 v3 v5 b_this H locs ls hf hw hl
      rw [zf_X0_explore_l1_32] at hf
      refine lv_iload (pc := 32) hx hb dX0_explore_32 (lv_at hl 5 rfl) ?_
      refine lv_aload (pc := 34) hx hb dX0_explore_34 (lv_at hl 4 rfl) ?_
      refine zk_gt (pc := 36) C hw zl_X0_48 9 rfl rfl dX0_explore_36 ?_
      refine lv_iconst (pc := 39) (v := 2) hx hb dX0_explore_39 (by decide) ?_
      refine lv_iadd (pc := 40) hx hb dX0_explore_40 ?_
      refine lv_icmp_ge (pc := 41) (tgt := 66) hx hb dX0_explore_41 (by decide) (fun q5 => ?_) (fun q5 => ?_)
      · replace hf := if_t q5 hf
        have hf := Option.some.inj hf
        subst hf
        exact zk_retv (pc := 66) (ww := [xSe a0 a1 a2 a3 b_this.1 b_this.2.1 b_this.2.2.1, xI cy a1 4 b_this.2.2.2.1, xI cy a2 4 b_this.2.2.2.2.1, xRT cy a3 5 (fun j => [some a4, some a5, some a6, some a7, some a8].getD j none), xTe a4 ((b_this.2.2.2.2.2 0)), xTe a5 ((b_this.2.2.2.2.2 1)), xTe a6 ((b_this.2.2.2.2.2 2)), xTe a7 ((b_this.2.2.2.2.2 3)), xTe a8 ((b_this.2.2.2.2.2 4)), xSt p4_0 p4_1 p4_2 p4_3 p4_4 b_p4.1, xI cy p4_1 8 b_p4.2.1, xI cy p4_2 8 b_p4.2.2.1, xI cy p4_3 8 b_p4.2.2.2.1, xI cy p4_4 8 b_p4.2.2.2.2]) C hw hr hQ dX0_explore_66
      · replace hf := if_f q5 hf
        refine lv_aload_n (pc := 44) hx hb dX0_explore_44 rfl (lv_at hl 0 rfl) ?_
        refine lv_aload (pc := 45) hx hb dX0_explore_45 (lv_at hl 4 rfl) ?_
        refine lv_iload (pc := 47) hx hb dX0_explore_47 (lv_at hl 5 rfl) ?_
        obtain ⟨u6, u6e, hf⟩ := bd hf
        refine zk_cV (pc := 49) (ci := 2) (q0 := 9) (rest := [.ref a0]) (st1 := [.int u6, .ref a0]) (w' := [xSe a0 a1 a2 a3 b_this.1 b_this.2.1 b_this.2.2.1, xI cy a1 4 b_this.2.2.2.1, xI cy a2 4 b_this.2.2.2.2.1, xRT cy a3 5 (fun j => [some a4, some a5, some a6, some a7, some a8].getD j none), xTe a4 ((b_this.2.2.2.2.2 0)), xTe a5 ((b_this.2.2.2.2.2 1)), xTe a6 ((b_this.2.2.2.2.2 2)), xTe a7 ((b_this.2.2.2.2.2 3)), xTe a8 ((b_this.2.2.2.2.2 4)), xSt p4_0 p4_1 p4_2 p4_3 p4_4 b_p4.1, xI cy p4_1 8 b_p4.2.1, xI cy p4_2 8 b_p4.2.2.1, xI cy p4_3 8 b_p4.2.2.2.1, xI cy p4_4 8 b_p4.2.2.2.2]) (mk := [none, none, none, none, none, none, none, none, none, none, none, none, none, none]) C hw (c_X2_orderAt l G cy tt p4_0 p4_1 p4_2 p4_3 p4_4 v5 b_p4 _ u6e) zy_X2_orderAt zm_X0_53 rfl rfl rfl [9, 10, 11, 12, 13] rfl rfl rfl rfl rfl rfl rfl rfl hl.1 ⟨rfl, rfl⟩ ⟨Nat.le_of_ble_eq_true rfl, Nat.le_of_ble_eq_true rfl⟩ rfl (Nat.le_of_ble_eq_true rfl) ⟨Nat.zero_le _, Nat.zero_le _⟩ dX0_explore_49 (fun H locs hw => ?_)
        refine lv_iload_n (pc := 52) hx hb dX0_explore_52 rfl (lv_at hl 1 rfl) ?_
        refine lv_iload_n (pc := 53) hx hb dX0_explore_53 rfl (lv_at hl 2 rfl) ?_
        refine lv_iload_n (pc := 54) hx hb dX0_explore_54 rfl (lv_at hl 3 rfl) ?_
        refine lv_aload (pc := 55) hx hb dX0_explore_55 (lv_at hl 4 rfl) ?_
        obtain ⟨u7, u7e, hf⟩ := bd hf
        refine zk_cV (pc := 57) (ci := 0) (q0 := 0) (rest := []) (st1 := []) (w' := [xSe a0 a1 a2 a3 u7.1 u7.2.1 u7.2.2.1, xI cy a1 4 u7.2.2.2.1, xI cy a2 4 u7.2.2.2.2.1, xRT cy a3 5 (fun j => [some a4, some a5, some a6, some a7, some a8].getD j none), xTe a4 ((u7.2.2.2.2.2 0)), xTe a5 ((u7.2.2.2.2.2 1)), xTe a6 ((u7.2.2.2.2.2 2)), xTe a7 ((u7.2.2.2.2.2 3)), xTe a8 ((u7.2.2.2.2.2 4)), xSt p4_0 p4_1 p4_2 p4_3 p4_4 b_p4.1, xI cy p4_1 8 b_p4.2.1, xI cy p4_2 8 b_p4.2.2.1, xI cy p4_3 8 b_p4.2.2.2.1, xI cy p4_4 8 b_p4.2.2.2.2]) (mk := [some (xSe a0 a1 a2 a3 u7.1 u7.2.1 u7.2.2.1), some (xI cy a1 4 u7.2.2.2.1), some (xI cy a2 4 u7.2.2.2.2.1), none, some (xTe a4 ((u7.2.2.2.2.2 0))), some (xTe a5 ((u7.2.2.2.2.2 1))), some (xTe a6 ((u7.2.2.2.2.2 2))), some (xTe a7 ((u7.2.2.2.2.2 3))), some (xTe a8 ((u7.2.2.2.2.2 4))), none, none, none, none, none]) C hw (c_X0_exploreBy_l1 l G cy tt a0 a1 a2 a3 a4 a5 a6 a7 a8 p4_0 p4_1 p4_2 p4_3 p4_4 u6 v2 v3 b_this b_p4 _ u7e) zy_X0_exploreBy zm_X0_57 rfl rfl rfl [0, 1, 2, 3, 4, 5, 6, 7, 8, 9, 10, 11, 12, 13] rfl rfl rfl rfl rfl rfl rfl rfl hl.1 ⟨rfl, rfl⟩ ⟨Nat.le_of_ble_eq_true rfl, Nat.le_of_ble_eq_true rfl⟩ rfl (Nat.le_of_ble_eq_true rfl) ⟨Nat.zero_le _, Nat.zero_le _⟩ dX0_explore_57 (fun H locs hw => ?_)
        refine lv_iinc (pc := 60) (v := (v5 + 1)) (lv' := [(5, .int ((v5 + 1))), (0, .ref a0), (1, .int ((1 : Int32))), (2, .int v2), (3, .int v3), (4, .ref p4_0)]) hx hb dX0_explore_60 hl (k := 5) rfl rfl (by decide) rfl (fun ls hl => ?_)
        refine lv_goto (pc := 63) (tgt := 32) hx hb dX0_explore_63 (by decide) ?_
        exact ih v2 v3 ((v5 + 1)) u7 _ _ _ hf hw (lv_sub hl [1, 2, 3, 4, 5, 0] rfl)
  have J16 : ∀ (v2 : Int32) (v3 : Int32) (b_this : TSe) (H : Heap) (locs : List Loc) (ls : Array Slot), zf_X0_explore_l1_16 b_p4 v2 v3 b_this = some res → zWd G A s.heap H locs [xSe a0 a1 a2 a3 b_this.1 b_this.2.1 b_this.2.2.1, xI cy a1 4 b_this.2.2.2.1, xI cy a2 4 b_this.2.2.2.2.1, xRT cy a3 5 (fun j => [some a4, some a5, some a6, some a7, some a8].getD j none), xTe a4 ((b_this.2.2.2.2.2 0)), xTe a5 ((b_this.2.2.2.2.2 1)), xTe a6 ((b_this.2.2.2.2.2 2)), xTe a7 ((b_this.2.2.2.2.2 3)), xTe a8 ((b_this.2.2.2.2.2 4)), xSt p4_0 p4_1 p4_2 p4_3 p4_4 b_p4.1, xI cy p4_1 8 b_p4.2.1, xI cy p4_2 8 b_p4.2.2.1, xI cy p4_3 8 b_p4.2.2.2.1, xI cy p4_4 8 b_p4.2.2.2.2] → lv_has ls 6 [(0, .ref a0), (1, .int ((1 : Int32))), (2, .int v2), (3, .int v3), (4, .ref p4_0)] → W p l e zr_X0_explore_l1 s m args below meth c H locs 0 0 Q (F0 m 16 ls []) := by
    intro v2 v3 b_this H locs ls hf hw hl
    rw [zf_X0_explore_l1_16] at hf
    refine lv_iload_n (pc := 16) hx hb dX0_explore_16 rfl (lv_at hl 1 rfl) ?_
    refine lv_iload_n (pc := 17) hx hb dX0_explore_17 rfl (lv_at hl 2 rfl) ?_
    refine lv_icmp_lt (pc := 18) (tgt := 29) hx hb dX0_explore_18 (by decide) (fun q3 => ?_) (fun q3 => ?_)
    · replace hf := if_t q3 hf
      refine lv_iconst (pc := 29) (v := 0) hx hb dX0_explore_29 (by decide) ?_
      refine lv_istore (pc := 30) (lv' := [(5, .int ((0 : Int32))), (0, .ref a0), (1, .int ((1 : Int32))), (2, .int v2), (3, .int v3), (4, .ref p4_0)]) hx hb dX0_explore_30 hl (by decide) rfl (fun ls hl => ?_)
      exact J32 FU v2 v3 ((0 : Int32)) b_this _ _ _ hf hw (lv_sub hl [1, 2, 3, 4, 5, 0] rfl)
    · replace hf := if_f q3 hf
      refine lv_aload_n (pc := 21) hx hb dX0_explore_21 rfl (lv_at hl 0 rfl) ?_
      refine lv_iload_n (pc := 22) hx hb dX0_explore_22 rfl (lv_at hl 2 rfl) ?_
      refine lv_iload_n (pc := 23) hx hb dX0_explore_23 rfl (lv_at hl 3 rfl) ?_
      refine lv_iload_n (pc := 24) hx hb dX0_explore_24 rfl (lv_at hl 1 rfl) ?_
      obtain ⟨u4, u4e, hf⟩ := bd hf
      refine zk_cV (pc := 25) (ci := 0) (q0 := 0) (rest := []) (st1 := []) (w' := [xSe a0 a1 a2 a3 u4.1 u4.2.1 u4.2.2.1, xI cy a1 4 u4.2.2.2.1, xI cy a2 4 u4.2.2.2.2.1, xRT cy a3 5 (fun j => [some a4, some a5, some a6, some a7, some a8].getD j none), xTe a4 ((u4.2.2.2.2.2 0)), xTe a5 ((u4.2.2.2.2.2 1)), xTe a6 ((u4.2.2.2.2.2 2)), xTe a7 ((u4.2.2.2.2.2 3)), xTe a8 ((u4.2.2.2.2.2 4)), xSt p4_0 p4_1 p4_2 p4_3 p4_4 b_p4.1, xI cy p4_1 8 b_p4.2.1, xI cy p4_2 8 b_p4.2.2.1, xI cy p4_3 8 b_p4.2.2.2.1, xI cy p4_4 8 b_p4.2.2.2.2]) (mk := [some (xSe a0 a1 a2 a3 u4.1 u4.2.1 u4.2.2.1), some (xI cy a1 4 u4.2.2.2.1), some (xI cy a2 4 u4.2.2.2.2.1), none, some (xTe a4 ((u4.2.2.2.2.2 0))), some (xTe a5 ((u4.2.2.2.2.2 1))), some (xTe a6 ((u4.2.2.2.2.2 2))), some (xTe a7 ((u4.2.2.2.2.2 3))), some (xTe a8 ((u4.2.2.2.2.2 4))), none, none, none, none, none]) C hw (c_X0_compare_l1 l G cy tt a0 a1 a2 a3 a4 a5 a6 a7 a8 v2 v3 b_this _ u4e) zy_X0_compare zm_X0_44 rfl rfl rfl [0, 1, 2, 3, 4, 5, 6, 7, 8] rfl rfl rfl rfl rfl rfl rfl rfl hl.1 ⟨rfl, rfl⟩ ⟨Nat.le_of_ble_eq_true rfl, Nat.le_of_ble_eq_true rfl⟩ rfl (Nat.le_of_ble_eq_true rfl) ⟨Nat.zero_le _, Nat.zero_le _⟩ dX0_explore_25 (fun H locs hw => ?_)
      have hf := Option.some.inj hf
      subst hf
      exact zk_retv (pc := 28) (ww := [xSe a0 a1 a2 a3 u4.1 u4.2.1 u4.2.2.1, xI cy a1 4 u4.2.2.2.1, xI cy a2 4 u4.2.2.2.2.1, xRT cy a3 5 (fun j => [some a4, some a5, some a6, some a7, some a8].getD j none), xTe a4 ((u4.2.2.2.2.2 0)), xTe a5 ((u4.2.2.2.2.2 1)), xTe a6 ((u4.2.2.2.2.2 2)), xTe a7 ((u4.2.2.2.2.2 3)), xTe a8 ((u4.2.2.2.2.2 4)), xSt p4_0 p4_1 p4_2 p4_3 p4_4 b_p4.1, xI cy p4_1 8 b_p4.2.1, xI cy p4_2 8 b_p4.2.2.1, xI cy p4_3 8 b_p4.2.2.2.1, xI cy p4_4 8 b_p4.2.2.2.2]) C hw hr hQ dX0_explore_28
  rw [zf_X0_explore_l1] at hf
  refine lv_aload_n (pc := 0) hx hb dX0_explore_0 rfl (lv_at hl 0 rfl) ?_
  refine zk_gt (pc := 1) C hw zl_X0_18 0 rfl rfl dX0_explore_1 ?_
  refine zk_ifz (pc := 4) (tgt := 16) hx hb dX0_explore_4 (by decide) (fun q1 => ?_) (fun q1 => ?_)
  · replace hf := if_f q1 hf
    exact J16 x2 x3 b_this _ _ _ hf hw (lv_sub hl [0, 1, 2, 3, 4] rfl)
  · replace hf := if_t q1 hf
    refine lv_iload_n (pc := 7) hx hb dX0_explore_7 rfl (lv_at hl 3 rfl) ?_
    refine lv_aload_n (pc := 8) hx hb dX0_explore_8 rfl (lv_at hl 0 rfl) ?_
    refine zk_gt (pc := 9) C hw zl_X0_9 0 rfl rfl dX0_explore_9 ?_
    refine lv_icmp_le (pc := 12) (tgt := 16) hx hb dX0_explore_12 (by decide) (fun q2 => ?_) (fun q2 => ?_)
    · replace hf := if_t q2 hf
      exact J16 x2 x3 b_this _ _ _ hf hw (lv_sub hl [0, 1, 2, 3, 4] rfl)
    · replace hf := if_f q2 hf
      have hf := Option.some.inj hf
      subst hf
      exact zk_retv (pc := 15) (ww := [xSe a0 a1 a2 a3 b_this.1 b_this.2.1 b_this.2.2.1, xI cy a1 4 b_this.2.2.2.1, xI cy a2 4 b_this.2.2.2.2.1, xRT cy a3 5 (fun j => [some a4, some a5, some a6, some a7, some a8].getD j none), xTe a4 ((b_this.2.2.2.2.2 0)), xTe a5 ((b_this.2.2.2.2.2 1)), xTe a6 ((b_this.2.2.2.2.2 2)), xTe a7 ((b_this.2.2.2.2.2 3)), xTe a8 ((b_this.2.2.2.2.2 4)), xSt p4_0 p4_1 p4_2 p4_3 p4_4 b_p4.1, xI cy p4_1 8 b_p4.2.1, xI cy p4_2 8 b_p4.2.2.1, xI cy p4_3 8 b_p4.2.2.2.1, xI cy p4_4 8 b_p4.2.2.2.2]) C hw hr hQ dX0_explore_15
