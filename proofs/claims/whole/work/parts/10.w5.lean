def zf_X8_wipe  (b_size : Int32) : Option (Int32 × Int32) := some (b_size, (0 : Int32))
abbrev zr_X8_wipe : Room := { frames := 0, cells := 0, slots := 0, locals := 0 }
set_option maxHeartbeats 4000000 in
set_option maxRecDepth 100000 in
theorem c_X8_wipe (l : Launch) (G : va_G) (cy : Nat → ClassId) (tt : Nat → Nat) (M : Nat → Nat) (b_isKept : Bool) (b_at : Int32) (b_from : Int32) (b_sort : Int32) (b_fled : Bool) (b_flights : Int32) (b_firstFlight : Int32) (b_bestHarms : Int32) (b_bestRage : Int32) (b_harmed : Int64) (b_raged : Int64)  (b_size : Int32) (res : Int32 × Int32) (hf : zf_X8_wipe b_size = some res) : zCT l yX8_wipe cX8_wipe 2 (some .int) zr_X8_wipe G cy tt [.ref ((M 0))] [xM M b_isKept b_size b_at b_from b_sort b_fled b_flights b_firstFlight b_bestHarms b_bestRage b_harmed b_raged] (some (.int res.1)) [xM M b_isKept res.2 b_at b_from b_sort b_fled b_flights b_firstFlight b_bestHarms b_bestRage b_harmed b_raged] := by
  refine zk_start zn_X8 (Nat.le_of_ble_eq_true rfl) ?_
  intro p e s m args below meth c A ls Q C hr hQ hw hl
  have C : zCx p m c s args meth cX8_wipe 2 RX8 G cy tt A := C
  have hx := C.1.1
  have hb := C.1.2.1
  have hl : lv_has ls 2 [(0, .ref ((M 0)))] := hl
  rw [zf_X8_wipe] at hf
  refine lv_aload_n (pc := 0) hx hb dX8_wipe_0 rfl (lv_at hl 0 rfl) ?_
  refine zk_gt (pc := 1) C hw zl_X8_109 0 rfl rfl dX8_wipe_1 ?_
  refine lv_istore_n (pc := 4) (lv' := [(1, .int b_size), (0, .ref ((M 0)))]) hx hb dX8_wipe_4 rfl hl (by decide) rfl (fun ls hl => ?_)
  refine lv_aload_n (pc := 5) hx hb dX8_wipe_5 rfl (lv_at hl 1 rfl) ?_
  refine lv_iconst (pc := 6) (v := 0) hx hb dX8_wipe_6 (by decide) ?_
  refine zk_put (pc := 7) (w' := [xM M b_isKept ((0 : Int32)) b_at b_from b_sort b_fled b_flights b_firstFlight b_bestHarms b_bestRage b_harmed b_raged]) C hw zp_X8_109 0 rfl rfl rfl (Nat.le_of_ble_eq_true rfl) rfl dX8_wipe_7 (fun H locs hw => ?_)
  refine lv_iload_n (pc := 10) hx hb dX8_wipe_10 rfl (lv_at hl 0 rfl) ?_
  have hf := Option.some.inj hf
  subst hf
  exact zk_reti (pc := 11) (ww := [xM M b_isKept ((0 : Int32)) b_at b_from b_sort b_fled b_flights b_firstFlight b_bestHarms b_bestRage b_harmed b_raged]) C hw hr hQ dX8_wipe_11
def zf_X8_sortAt (x1 : Int32) (b_tape : Nat → Int32) (b_size : Int32) : Option (Int32) := (if x1 < b_size then (if ix x1 250 then (Option.bind (zf_X8_isIn ((((b_tape x1.toNatClampNeg)).toInt64)) (((97 : Int64))) (((122 : Int64)))) (fun u3 => (if u3 then some ((1 : Int32)) else (if ix x1 250 then (Option.bind (zf_X8_isIn ((((b_tape x1.toNatClampNeg)).toInt64)) (((48 : Int64))) (((57 : Int64)))) (fun u6 => (if u6 then some ((2 : Int32)) else (if ix x1 250 then (if (b_tape x1.toNatClampNeg) = (59 : Int32) then some ((3 : Int32)) else some ((4 : Int32))) else none)))) else none)))) else none) else some ((0 : Int32)))
abbrev zr_X8_sortAt : Room := { frames := 1, cells := 0, slots := 0, locals := 25 }
set_option maxHeartbeats 4000000 in
set_option maxRecDepth 100000 in
theorem c_X8_sortAt (l : Launch) (G : va_G) (cy : Nat → ClassId) (tt : Nat → Nat) (M : Nat → Nat) (b_isKept : Bool) (b_at : Int32) (b_from : Int32) (b_sort : Int32) (b_fled : Bool) (b_flights : Int32) (b_firstFlight : Int32) (b_bestHarms : Int32) (b_bestRage : Int32) (b_harmed : Int64) (b_raged : Int64) (x1 : Int32) (b_tape : Nat → Int32) (b_size : Int32) (res : Int32) (hf : zf_X8_sortAt x1 b_tape b_size = some res) : zCT l yX8_sortAt cX8_sortAt 2 (some .int) zr_X8_sortAt G cy tt [.ref ((M 0)), .int x1] [xM M b_isKept b_size b_at b_from b_sort b_fled b_flights b_firstFlight b_bestHarms b_bestRage b_harmed b_raged, xI cy ((M 5)) 250 b_tape] (some (.int res)) [xM M b_isKept b_size b_at b_from b_sort b_fled b_flights b_firstFlight b_bestHarms b_bestRage b_harmed b_raged, xI cy ((M 5)) 250 b_tape] := by
  refine zk_start zn_X8 (Nat.le_of_ble_eq_true rfl) ?_
  intro p e s m args below meth c A ls Q C hr hQ hw hl
  have C : zCx p m c s args meth cX8_sortAt 2 RX8 G cy tt A := C
  have hx := C.1.1
  have hb := C.1.2.1
  have hl : lv_has ls 2 [(0, .ref ((M 0))), (1, .int x1)] := hl
  rw [zf_X8_sortAt] at hf
  refine lv_iload_n (pc := 0) hx hb dX8_sortAt_0 rfl (lv_at hl 1 rfl) ?_
  refine lv_aload_n (pc := 1) hx hb dX8_sortAt_1 rfl (lv_at hl 0 rfl) ?_
  refine zk_gt (pc := 2) C hw zl_X8_109 0 rfl rfl dX8_sortAt_2 ?_
  refine lv_icmp_lt (pc := 5) (tgt := 12) hx hb dX8_sortAt_5 (by decide) (fun q1 => ?_) (fun q1 => ?_)
  · replace hf := if_t q1 hf
    refine lv_aload_n (pc := 12) hx hb dX8_sortAt_12 rfl (lv_at hl 0 rfl) ?_
    refine zk_gt (pc := 13) C hw zl_X8_26 0 rfl rfl dX8_sortAt_13 ?_
    refine lv_iload_n (pc := 16) hx hb dX8_sortAt_16 rfl (lv_at hl 1 rfl) ?_
    obtain ⟨q2, hf⟩ := ck hf
    refine zk_iald (pc := 17) C hw 1 rfl q2 dX8_sortAt_17 ?_
    refine lv_i2l (pc := 18) (v := ((b_tape x1.toNatClampNeg)).toInt64) hx hb dX8_sortAt_18 rfl ?_
    refine lv_ldc2 (pc := 19) (v := 97) hx hb C.1.2.2.2.1 (C.1.2.2.2.2 _ zc_X8_113) dX8_sortAt_19 ?_
    refine lv_ldc2 (pc := 22) (v := 122) hx hb C.1.2.2.2.1 (C.1.2.2.2.2 _ zc_X8_115) dX8_sortAt_22 ?_
    obtain ⟨u3, u3e, hf⟩ := bd hf
    refine zk_cS (pc := 25) (rest := []) (st1 := [.int (bI u3)]) (w' := [xM M b_isKept b_size b_at b_from b_sort b_fled b_flights b_firstFlight b_bestHarms b_bestRage b_harmed b_raged, xI cy ((M 5)) 250 b_tape]) (mk := [none, none]) C hw (c_X8_isIn l G cy tt ((((b_tape x1.toNatClampNeg)).toInt64)) (((97 : Int64))) (((122 : Int64))) _ u3e) zy_X8_isIn zm_X8_68 [] rfl rfl rfl rfl rfl rfl rfl rfl hl.1 ⟨rfl, rfl⟩ ⟨Nat.le_of_ble_eq_true rfl, Nat.le_of_ble_eq_true rfl⟩ rfl (Nat.le_of_ble_eq_true rfl) ⟨Nat.zero_le _, Nat.zero_le _⟩ dX8_sortAt_25 (fun H locs hw => ?_)
    refine zk_ifz (pc := 28) (tgt := 35) hx hb dX8_sortAt_28 (by decide) (fun q4 => ?_) (fun q4 => ?_)
    · replace hf := if_f q4 hf
      refine lv_aload_n (pc := 35) hx hb dX8_sortAt_35 rfl (lv_at hl 0 rfl) ?_
      refine zk_gt (pc := 36) C hw zl_X8_26 0 rfl rfl dX8_sortAt_36 ?_
      refine lv_iload_n (pc := 39) hx hb dX8_sortAt_39 rfl (lv_at hl 1 rfl) ?_
      obtain ⟨q5, hf⟩ := ck hf
      refine zk_iald (pc := 40) C hw 1 rfl q5 dX8_sortAt_40 ?_
      refine lv_i2l (pc := 41) (v := ((b_tape x1.toNatClampNeg)).toInt64) hx hb dX8_sortAt_41 rfl ?_
      refine lv_ldc2 (pc := 42) (v := 48) hx hb C.1.2.2.2.1 (C.1.2.2.2.2 _ zc_X8_117) dX8_sortAt_42 ?_
      refine lv_ldc2 (pc := 45) (v := 57) hx hb C.1.2.2.2.1 (C.1.2.2.2.2 _ zc_X8_119) dX8_sortAt_45 ?_
      obtain ⟨u6, u6e, hf⟩ := bd hf
      refine zk_cS (pc := 48) (rest := []) (st1 := [.int (bI u6)]) (w' := [xM M b_isKept b_size b_at b_from b_sort b_fled b_flights b_firstFlight b_bestHarms b_bestRage b_harmed b_raged, xI cy ((M 5)) 250 b_tape]) (mk := [none, none]) C hw (c_X8_isIn l G cy tt ((((b_tape x1.toNatClampNeg)).toInt64)) (((48 : Int64))) (((57 : Int64))) _ u6e) zy_X8_isIn zm_X8_68 [] rfl rfl rfl rfl rfl rfl rfl rfl hl.1 ⟨rfl, rfl⟩ ⟨Nat.le_of_ble_eq_true rfl, Nat.le_of_ble_eq_true rfl⟩ rfl (Nat.le_of_ble_eq_true rfl) ⟨Nat.zero_le _, Nat.zero_le _⟩ dX8_sortAt_48 (fun H locs hw => ?_)
      refine zk_ifz (pc := 51) (tgt := 58) hx hb dX8_sortAt_51 (by decide) (fun q7 => ?_) (fun q7 => ?_)
      · replace hf := if_f q7 hf
        refine lv_aload_n (pc := 58) hx hb dX8_sortAt_58 rfl (lv_at hl 0 rfl) ?_
        refine zk_gt (pc := 59) C hw zl_X8_26 0 rfl rfl dX8_sortAt_59 ?_
        refine lv_iload_n (pc := 62) hx hb dX8_sortAt_62 rfl (lv_at hl 1 rfl) ?_
        obtain ⟨q8, hf⟩ := ck hf
        refine zk_iald (pc := 63) C hw 1 rfl q8 dX8_sortAt_63 ?_
        refine lv_bipush (pc := 64) (v := 59) hx hb dX8_sortAt_64 (by decide) ?_
        refine lv_icmp_ne (pc := 66) (tgt := 73) hx hb dX8_sortAt_66 (by decide) (fun q9 => ?_) (fun q9 => ?_)
        · replace hf := if_f q9 hf
          refine lv_iconst (pc := 73) (v := 4) hx hb dX8_sortAt_73 (by decide) ?_
          have hf := Option.some.inj hf
          subst hf
          exact zk_reti (pc := 74) (ww := [xM M b_isKept b_size b_at b_from b_sort b_fled b_flights b_firstFlight b_bestHarms b_bestRage b_harmed b_raged, xI cy ((M 5)) 250 b_tape]) C hw hr hQ dX8_sortAt_74
        · replace hf := if_t q9 hf
          refine lv_iconst (pc := 69) (v := 3) hx hb dX8_sortAt_69 (by decide) ?_
          refine lv_goto (pc := 70) (tgt := 74) hx hb dX8_sortAt_70 (by decide) ?_
          have hf := Option.some.inj hf
          subst hf
          exact zk_reti (pc := 74) (ww := [xM M b_isKept b_size b_at b_from b_sort b_fled b_flights b_firstFlight b_bestHarms b_bestRage b_harmed b_raged, xI cy ((M 5)) 250 b_tape]) C hw hr hQ dX8_sortAt_74
      · replace hf := if_t q7 hf
        refine lv_iconst (pc := 54) (v := 2) hx hb dX8_sortAt_54 (by decide) ?_
        refine lv_goto (pc := 55) (tgt := 74) hx hb dX8_sortAt_55 (by decide) ?_
        have hf := Option.some.inj hf
        subst hf
        exact zk_reti (pc := 74) (ww := [xM M b_isKept b_size b_at b_from b_sort b_fled b_flights b_firstFlight b_bestHarms b_bestRage b_harmed b_raged, xI cy ((M 5)) 250 b_tape]) C hw hr hQ dX8_sortAt_74
    · replace hf := if_t q4 hf
      refine lv_iconst (pc := 31) (v := 1) hx hb dX8_sortAt_31 (by decide) ?_
      refine lv_goto (pc := 32) (tgt := 74) hx hb dX8_sortAt_32 (by decide) ?_
      have hf := Option.some.inj hf
      subst hf
      exact zk_reti (pc := 74) (ww := [xM M b_isKept b_size b_at b_from b_sort b_fled b_flights b_firstFlight b_bestHarms b_bestRage b_harmed b_raged, xI cy ((M 5)) 250 b_tape]) C hw hr hQ dX8_sortAt_74
  · replace hf := if_f q1 hf
    refine lv_iconst (pc := 8) (v := 0) hx hb dX8_sortAt_8 (by decide) ?_
    refine lv_goto (pc := 9) (tgt := 74) hx hb dX8_sortAt_9 (by decide) ?_
    have hf := Option.some.inj hf
    subst hf
    exact zk_reti (pc := 74) (ww := [xM M b_isKept b_size b_at b_from b_sort b_fled b_flights b_firstFlight b_bestHarms b_bestRage b_harmed b_raged, xI cy ((M 5)) 250 b_tape]) C hw hr hQ dX8_sortAt_74
def zf_X8_next_75 (b_tape : Nat → Int32) (b_size : Int32) : Nat → Int32 → Int32 → Int32 → Option (Int32 × Int32 × Int32)
  | 0, _, _, _ => none
  | n + 1, b_at, b_from, b_sort => (if (3 : Int32) ≤ b_sort then some (b_at, b_from, b_sort) else (Option.bind (zf_X8_sortAt b_at b_tape b_size) (fun u10 => (if u10 = b_sort then zf_X8_next_75 b_tape b_size n ((b_at + (1 : Int32))) b_from b_sort else some (b_at, b_from, b_sort)))))
def zf_X8_next_38 (b_tape : Nat → Int32) (b_size : Int32) (b_at : Int32) (b_from : Int32) (b_sort : Int32) : Option (Int32 × Int32 × Int32) := (Option.bind (zf_X8_sortAt b_at b_tape b_size) (fun u7 => (if u7 ≤ 0 then some (b_at, b_at, u7) else zf_X8_next_75 b_tape b_size FU ((b_at + (1 : Int32))) b_at u7)))
def zf_X8_next_0 (b_tape : Nat → Int32) (b_size : Int32) : Nat → Int32 → Int32 → Int32 → Option (Int32 × Int32 × Int32)
  | 0, _, _, _ => none
  | n + 1, b_at, b_from, b_sort => (if b_size ≤ b_at then zf_X8_next_38 b_tape b_size b_at b_from b_sort else (if ix b_at 250 then (if (b_tape b_at.toNatClampNeg) = (32 : Int32) then zf_X8_next_0 b_tape b_size n ((b_at + (1 : Int32))) b_from b_sort else zf_X8_next_38 b_tape b_size b_at b_from b_sort) else none))
def zf_X8_next  (b_tape : Nat → Int32) (b_size : Int32) (b_at : Int32) (b_from : Int32) (b_sort : Int32) : Option (Int32 × Int32 × Int32) := (if b_size ≤ b_at then zf_X8_next_38 b_tape b_size b_at b_from b_sort else (if ix b_at 250 then (if (b_tape b_at.toNatClampNeg) = (32 : Int32) then zf_X8_next_0 b_tape b_size FU ((b_at + (1 : Int32))) b_from b_sort else zf_X8_next_38 b_tape b_size b_at b_from b_sort) else none))
abbrev zr_X8_next : Room := { frames := 2, cells := 0, slots := 0, locals := 46 }
set_option maxHeartbeats 4000000 in
set_option maxRecDepth 100000 in
theorem c_X8_next (l : Launch) (G : va_G) (cy : Nat → ClassId) (tt : Nat → Nat) (M : Nat → Nat) (b_isKept : Bool) (b_fled : Bool) (b_flights : Int32) (b_firstFlight : Int32) (b_bestHarms : Int32) (b_bestRage : Int32) (b_harmed : Int64) (b_raged : Int64)  (b_tape : Nat → Int32) (b_size : Int32) (b_at : Int32) (b_from : Int32) (b_sort : Int32) (res : Int32 × Int32 × Int32) (hf : zf_X8_next b_tape b_size b_at b_from b_sort = some res) : zCT l yX8_next cX8_next 1 none zr_X8_next G cy tt [.ref ((M 0))] [xM M b_isKept b_size b_at b_from b_sort b_fled b_flights b_firstFlight b_bestHarms b_bestRage b_harmed b_raged, xI cy ((M 5)) 250 b_tape] none [xM M b_isKept b_size res.1 res.2.1 res.2.2 b_fled b_flights b_firstFlight b_bestHarms b_bestRage b_harmed b_raged, xI cy ((M 5)) 250 b_tape] := by
  refine zk_start zn_X8 (Nat.le_of_ble_eq_true rfl) ?_
  intro p e s m args below meth c A ls Q C hr hQ hw hl
  have C : zCx p m c s args meth cX8_next 1 RX8 G cy tt A := C
  have hx := C.1.1
  have hb := C.1.2.1
  have hl : lv_has ls 1 [(0, .ref ((M 0)))] := hl
  have J75 : ∀ (n : Nat), ∀ (b_at : Int32) (b_from : Int32) (b_sort : Int32) (H : Heap) (locs : List Loc) (ls : Array Slot), zf_X8_next_75 b_tape b_size n b_at b_from b_sort = some res → zWd G A s.heap H locs [xM M b_isKept b_size b_at b_from b_sort b_fled b_flights b_firstFlight b_bestHarms b_bestRage b_harmed b_raged, xI cy ((M 5)) 250 b_tape] → lv_has ls 1 [(0, .ref ((M 0)))] → W p l e zr_X8_next s m args below meth c H locs 0 0 Q (F0 m 75 ls []) := by
    intro n
    induction n with
    | zero =>
      intro b_at b_from b_sort H locs ls hf hw hl
      rw [zf_X8_next_75] at hf
      cases hf
    | succ n ih =>
      intro b_at b_from b_sort H locs ls hf hw hl
      rw [zf_X8_next_75] at hf
      refine lv_aload_n (pc := 75) hx hb dX8_next_75 rfl (lv_at hl 0 rfl) ?_
      refine zk_gt (pc := 76) C hw zl_X8_130 0 rfl rfl dX8_next_76 ?_
      refine lv_iconst (pc := 79) (v := 3) hx hb dX8_next_79 (by decide) ?_
      refine lv_icmp_ge (pc := 80) (tgt := 111) hx hb dX8_next_80 (by decide) (fun q9 => ?_) (fun q9 => ?_)
      · replace hf := if_t q9 hf
        have hf := Option.some.inj hf
        subst hf
        exact zk_retv (pc := 111) (ww := [xM M b_isKept b_size b_at b_from b_sort b_fled b_flights b_firstFlight b_bestHarms b_bestRage b_harmed b_raged, xI cy ((M 5)) 250 b_tape]) C hw hr hQ dX8_next_111
      · replace hf := if_f q9 hf
        refine lv_aload_n (pc := 83) hx hb dX8_next_83 rfl (lv_at hl 0 rfl) ?_
        refine lv_aload_n (pc := 84) hx hb dX8_next_84 rfl (lv_at hl 0 rfl) ?_
        refine zk_gt (pc := 85) C hw zl_X8_121 0 rfl rfl dX8_next_85 ?_
        obtain ⟨u10, u10e, hf⟩ := bd hf
        refine zk_cV (pc := 88) (ci := 8) (q0 := 0) (rest := []) (st1 := [.int u10]) (w' := [xM M b_isKept b_size b_at b_from b_sort b_fled b_flights b_firstFlight b_bestHarms b_bestRage b_harmed b_raged, xI cy ((M 5)) 250 b_tape]) (mk := [none, none]) C hw (c_X8_sortAt l G cy tt M b_isKept b_at b_from b_sort b_fled b_flights b_firstFlight b_bestHarms b_bestRage b_harmed b_raged b_at b_tape b_size _ u10e) zy_X8_sortAt zm_X8_127 rfl rfl rfl [0, 1] rfl rfl rfl rfl rfl rfl rfl rfl hl.1 ⟨rfl, rfl⟩ ⟨Nat.le_of_ble_eq_true rfl, Nat.le_of_ble_eq_true rfl⟩ rfl (Nat.le_of_ble_eq_true rfl) ⟨Nat.zero_le _, Nat.zero_le _⟩ dX8_next_88 (fun H locs hw => ?_)
        refine lv_aload_n (pc := 91) hx hb dX8_next_91 rfl (lv_at hl 0 rfl) ?_
        refine zk_gt (pc := 92) C hw zl_X8_130 0 rfl rfl dX8_next_92 ?_
        refine lv_icmp_ne (pc := 95) (tgt := 111) hx hb dX8_next_95 (by decide) (fun q11 => ?_) (fun q11 => ?_)
        · replace hf := if_f q11 hf
          have hf := Option.some.inj hf
          subst hf
          exact zk_retv (pc := 111) (ww := [xM M b_isKept b_size b_at b_from b_sort b_fled b_flights b_firstFlight b_bestHarms b_bestRage b_harmed b_raged, xI cy ((M 5)) 250 b_tape]) C hw hr hQ dX8_next_111
        · replace hf := if_t q11 hf
          refine lv_aload_n (pc := 98) hx hb dX8_next_98 rfl (lv_at hl 0 rfl) ?_
          refine lv_dup (pc := 99) hx hb dX8_next_99 rfl ?_
          refine zk_gt (pc := 100) C hw zl_X8_121 0 rfl rfl dX8_next_100 ?_
          refine lv_iconst (pc := 103) (v := 1) hx hb dX8_next_103 (by decide) ?_
          refine lv_iadd (pc := 104) hx hb dX8_next_104 ?_
          refine zk_put (pc := 105) (w' := [xM M b_isKept b_size ((b_at + (1 : Int32))) b_from b_sort b_fled b_flights b_firstFlight b_bestHarms b_bestRage b_harmed b_raged, xI cy ((M 5)) 250 b_tape]) C hw zp_X8_121 0 rfl rfl rfl (Nat.le_of_ble_eq_true rfl) rfl dX8_next_105 (fun H locs hw => ?_)
          refine lv_goto (pc := 108) (tgt := 75) hx hb dX8_next_108 (by decide) ?_
          exact ih ((b_at + (1 : Int32))) b_from b_sort _ _ _ hf hw (lv_sub hl [0] rfl)
  have J38 : ∀ (b_at : Int32) (b_from : Int32) (b_sort : Int32) (H : Heap) (locs : List Loc) (ls : Array Slot), zf_X8_next_38 b_tape b_size b_at b_from b_sort = some res → zWd G A s.heap H locs [xM M b_isKept b_size b_at b_from b_sort b_fled b_flights b_firstFlight b_bestHarms b_bestRage b_harmed b_raged, xI cy ((M 5)) 250 b_tape] → lv_has ls 1 [(0, .ref ((M 0)))] → W p l e zr_X8_next s m args below meth c H locs 0 0 Q (F0 m 38 ls []) := by
    intro b_at b_from b_sort H locs ls hf hw hl
    rw [zf_X8_next_38] at hf
    refine lv_aload_n (pc := 38) hx hb dX8_next_38 rfl (lv_at hl 0 rfl) ?_
    refine lv_aload_n (pc := 39) hx hb dX8_next_39 rfl (lv_at hl 0 rfl) ?_
    refine zk_gt (pc := 40) C hw zl_X8_121 0 rfl rfl dX8_next_40 ?_
    refine zk_put (pc := 43) (w' := [xM M b_isKept b_size b_at b_at b_sort b_fled b_flights b_firstFlight b_bestHarms b_bestRage b_harmed b_raged, xI cy ((M 5)) 250 b_tape]) C hw zp_X8_124 0 rfl rfl rfl (Nat.le_of_ble_eq_true rfl) rfl dX8_next_43 (fun H locs hw => ?_)
    refine lv_aload_n (pc := 46) hx hb dX8_next_46 rfl (lv_at hl 0 rfl) ?_
    refine lv_aload_n (pc := 47) hx hb dX8_next_47 rfl (lv_at hl 0 rfl) ?_
    refine lv_aload_n (pc := 48) hx hb dX8_next_48 rfl (lv_at hl 0 rfl) ?_
    refine zk_gt (pc := 49) C hw zl_X8_121 0 rfl rfl dX8_next_49 ?_
    obtain ⟨u7, u7e, hf⟩ := bd hf
    refine zk_cV (pc := 52) (ci := 8) (q0 := 0) (rest := [.ref ((M 0))]) (st1 := [.int u7, .ref ((M 0))]) (w' := [xM M b_isKept b_size b_at b_at b_sort b_fled b_flights b_firstFlight b_bestHarms b_bestRage b_harmed b_raged, xI cy ((M 5)) 250 b_tape]) (mk := [none, none]) C hw (c_X8_sortAt l G cy tt M b_isKept b_at b_at b_sort b_fled b_flights b_firstFlight b_bestHarms b_bestRage b_harmed b_raged b_at b_tape b_size _ u7e) zy_X8_sortAt zm_X8_127 rfl rfl rfl [0, 1] rfl rfl rfl rfl rfl rfl rfl rfl hl.1 ⟨rfl, rfl⟩ ⟨Nat.le_of_ble_eq_true rfl, Nat.le_of_ble_eq_true rfl⟩ rfl (Nat.le_of_ble_eq_true rfl) ⟨Nat.zero_le _, Nat.zero_le _⟩ dX8_next_52 (fun H locs hw => ?_)
    refine zk_put (pc := 55) (w' := [xM M b_isKept b_size b_at b_at u7 b_fled b_flights b_firstFlight b_bestHarms b_bestRage b_harmed b_raged, xI cy ((M 5)) 250 b_tape]) C hw zp_X8_130 0 rfl rfl rfl (Nat.le_of_ble_eq_true rfl) rfl dX8_next_55 (fun H locs hw => ?_)
    refine lv_aload_n (pc := 58) hx hb dX8_next_58 rfl (lv_at hl 0 rfl) ?_
    refine zk_gt (pc := 59) C hw zl_X8_130 0 rfl rfl dX8_next_59 ?_
    refine lv_if_le (pc := 62) (tgt := 111) hx hb dX8_next_62 (by decide) (fun q8 => ?_) (fun q8 => ?_)
    · replace hf := if_t q8 hf
      have hf := Option.some.inj hf
      subst hf
      exact zk_retv (pc := 111) (ww := [xM M b_isKept b_size b_at b_at u7 b_fled b_flights b_firstFlight b_bestHarms b_bestRage b_harmed b_raged, xI cy ((M 5)) 250 b_tape]) C hw hr hQ dX8_next_111
    · replace hf := if_f q8 hf
      refine lv_aload_n (pc := 65) hx hb dX8_next_65 rfl (lv_at hl 0 rfl) ?_
      refine lv_dup (pc := 66) hx hb dX8_next_66 rfl ?_
      refine zk_gt (pc := 67) C hw zl_X8_121 0 rfl rfl dX8_next_67 ?_
      refine lv_iconst (pc := 70) (v := 1) hx hb dX8_next_70 (by decide) ?_
      refine lv_iadd (pc := 71) hx hb dX8_next_71 ?_
      refine zk_put (pc := 72) (w' := [xM M b_isKept b_size ((b_at + (1 : Int32))) b_at u7 b_fled b_flights b_firstFlight b_bestHarms b_bestRage b_harmed b_raged, xI cy ((M 5)) 250 b_tape]) C hw zp_X8_121 0 rfl rfl rfl (Nat.le_of_ble_eq_true rfl) rfl dX8_next_72 (fun H locs hw => ?_)
      exact J75 FU ((b_at + (1 : Int32))) b_at u7 _ _ _ hf hw (lv_sub hl [0] rfl)
  have J0 : ∀ (n : Nat), ∀ (b_at : Int32) (b_from : Int32) (b_sort : Int32) (H : Heap) (locs : List Loc) (ls : Array Slot), zf_X8_next_0 b_tape b_size n b_at b_from b_sort = some res → zWd G A s.heap H locs [xM M b_isKept b_size b_at b_from b_sort b_fled b_flights b_firstFlight b_bestHarms b_bestRage b_harmed b_raged, xI cy ((M 5)) 250 b_tape] → lv_has ls 1 [(0, .ref ((M 0)))] → W p l e zr_X8_next s m args below meth c H locs 0 0 Q (F0 m 0 ls []) := by
    intro n
    induction n with
    | zero =>
      intro b_at b_from b_sort H locs ls hf hw hl
      rw [zf_X8_next_0] at hf
      cases hf
    | succ n ih =>
      intro b_at b_from b_sort H locs ls hf hw hl
      rw [zf_X8_next_0] at hf
      refine lv_aload_n (pc := 0) hx hb dX8_next_0 rfl (lv_at hl 0 rfl) ?_
      refine zk_gt (pc := 1) C hw zl_X8_121 0 rfl rfl dX8_next_1 ?_
      refine lv_aload_n (pc := 4) hx hb dX8_next_4 rfl (lv_at hl 0 rfl) ?_
      refine zk_gt (pc := 5) C hw zl_X8_109 0 rfl rfl dX8_next_5 ?_
      refine lv_icmp_ge (pc := 8) (tgt := 38) hx hb dX8_next_8 (by decide) (fun q4 => ?_) (fun q4 => ?_)
      · replace hf := if_t q4 hf
        exact J38 b_at b_from b_sort _ _ _ hf hw (lv_sub hl [0] rfl)
      · replace hf := if_f q4 hf
        refine lv_aload_n (pc := 11) hx hb dX8_next_11 rfl (lv_at hl 0 rfl) ?_
        refine zk_gt (pc := 12) C hw zl_X8_26 0 rfl rfl dX8_next_12 ?_
        refine lv_aload_n (pc := 15) hx hb dX8_next_15 rfl (lv_at hl 0 rfl) ?_
        refine zk_gt (pc := 16) C hw zl_X8_121 0 rfl rfl dX8_next_16 ?_
        obtain ⟨q5, hf⟩ := ck hf
        refine zk_iald (pc := 19) C hw 1 rfl q5 dX8_next_19 ?_
        refine lv_bipush (pc := 20) (v := 32) hx hb dX8_next_20 (by decide) ?_
        refine lv_icmp_ne (pc := 22) (tgt := 38) hx hb dX8_next_22 (by decide) (fun q6 => ?_) (fun q6 => ?_)
        · replace hf := if_f q6 hf
          exact J38 b_at b_from b_sort _ _ _ hf hw (lv_sub hl [0] rfl)
        · replace hf := if_t q6 hf
          refine lv_aload_n (pc := 25) hx hb dX8_next_25 rfl (lv_at hl 0 rfl) ?_
          refine lv_dup (pc := 26) hx hb dX8_next_26 rfl ?_
          refine zk_gt (pc := 27) C hw zl_X8_121 0 rfl rfl dX8_next_27 ?_
          refine lv_iconst (pc := 30) (v := 1) hx hb dX8_next_30 (by decide) ?_
          refine lv_iadd (pc := 31) hx hb dX8_next_31 ?_
          refine zk_put (pc := 32) (w' := [xM M b_isKept b_size ((b_at + (1 : Int32))) b_from b_sort b_fled b_flights b_firstFlight b_bestHarms b_bestRage b_harmed b_raged, xI cy ((M 5)) 250 b_tape]) C hw zp_X8_121 0 rfl rfl rfl (Nat.le_of_ble_eq_true rfl) rfl dX8_next_32 (fun H locs hw => ?_)
          refine lv_goto (pc := 35) (tgt := 0) hx hb dX8_next_35 (by decide) ?_
          exact ih ((b_at + (1 : Int32))) b_from b_sort _ _ _ hf hw (lv_sub hl [0] rfl)
  rw [zf_X8_next] at hf
  refine lv_aload_n (pc := 0) hx hb dX8_next_0 rfl (lv_at hl 0 rfl) ?_
  refine zk_gt (pc := 1) C hw zl_X8_121 0 rfl rfl dX8_next_1 ?_
  refine lv_aload_n (pc := 4) hx hb dX8_next_4 rfl (lv_at hl 0 rfl) ?_
  refine zk_gt (pc := 5) C hw zl_X8_109 0 rfl rfl dX8_next_5 ?_
  refine lv_icmp_ge (pc := 8) (tgt := 38) hx hb dX8_next_8 (by decide) (fun q1 => ?_) (fun q1 => ?_)
  · replace hf := if_t q1 hf
    exact J38 b_at b_from b_sort _ _ _ hf hw (lv_sub hl [0] rfl)
  · replace hf := if_f q1 hf
    refine lv_aload_n (pc := 11) hx hb dX8_next_11 rfl (lv_at hl 0 rfl) ?_
    refine zk_gt (pc := 12) C hw zl_X8_26 0 rfl rfl dX8_next_12 ?_
    refine lv_aload_n (pc := 15) hx hb dX8_next_15 rfl (lv_at hl 0 rfl) ?_
    refine zk_gt (pc := 16) C hw zl_X8_121 0 rfl rfl dX8_next_16 ?_
    obtain ⟨q2, hf⟩ := ck hf
    refine zk_iald (pc := 19) C hw 1 rfl q2 dX8_next_19 ?_
    refine lv_bipush (pc := 20) (v := 32) hx hb dX8_next_20 (by decide) ?_
    refine lv_icmp_ne (pc := 22) (tgt := 38) hx hb dX8_next_22 (by decide) (fun q3 => ?_) (fun q3 => ?_)
    · replace hf := if_f q3 hf
      exact J38 b_at b_from b_sort _ _ _ hf hw (lv_sub hl [0] rfl)
    · replace hf := if_t q3 hf
      refine lv_aload_n (pc := 25) hx hb dX8_next_25 rfl (lv_at hl 0 rfl) ?_
      refine lv_dup (pc := 26) hx hb dX8_next_26 rfl ?_
      refine zk_gt (pc := 27) C hw zl_X8_121 0 rfl rfl dX8_next_27 ?_
      refine lv_iconst (pc := 30) (v := 1) hx hb dX8_next_30 (by decide) ?_
      refine lv_iadd (pc := 31) hx hb dX8_next_31 ?_
      refine zk_put (pc := 32) (w' := [xM M b_isKept b_size ((b_at + (1 : Int32))) b_from b_sort b_fled b_flights b_firstFlight b_bestHarms b_bestRage b_harmed b_raged, xI cy ((M 5)) 250 b_tape]) C hw zp_X8_121 0 rfl rfl rfl (Nat.le_of_ble_eq_true rfl) rfl dX8_next_32 (fun H locs hw => ?_)
      refine lv_goto (pc := 35) (tgt := 0) hx hb dX8_next_35 (by decide) ?_
      exact J0 FU ((b_at + (1 : Int32))) b_from b_sort _ _ _ hf hw (lv_sub hl [0] rfl)
def zf_X8_word_102 (b_tape : Nat → Int32) (b_at : Int32) (b_from : Int32) (b_sort : Int32) (b_words : Nat → Int32) (k41 : Int32 → Int32 → Bool → Int32 → Option (Int32)) (v1 : Int32) (v2 : Int32) (v4 : Int32) (t0 : Bool) : Option (Int32) := k41 v1 v2 t0 ((v4 + 1))
def zf_X8_word_82 (b_tape : Nat → Int32) (b_at : Int32) (b_from : Int32) (b_sort : Int32) (b_words : Nat → Int32) (k41 : Int32 → Int32 → Bool → Int32 → Option (Int32)) (v1 : Int32) (v2 : Int32) (v4 : Int32) (t0 : Int32) : Option (Int32) := (if ix ((((6 : Int32) * v2) + v4)) 42 then (if t0 = (b_words ((((6 : Int32) * v2) + v4)).toNatClampNeg) then zf_X8_word_102 b_tape b_at b_from b_sort b_words k41 v1 v2 v4 true else zf_X8_word_102 b_tape b_at b_from b_sort b_words k41 v1 v2 v4 false) else none)
def zf_X8_word_118 (b_tape : Nat → Int32) (b_at : Int32) (b_from : Int32) (b_sort : Int32) (b_words : Nat → Int32) (k4 : Int32 → Int32 → Option (Int32)) (v2 : Int32) (t0 : Int32) : Option (Int32) := k4 t0 ((v2 + 1))
def zf_X8_word_109 (b_tape : Nat → Int32) (b_at : Int32) (b_from : Int32) (b_sort : Int32) (b_words : Nat → Int32) (k4 : Int32 → Int32 → Option (Int32)) (v1 : Int32) (v2 : Int32) (v3 : Bool) : Option (Int32) := (if v3 then zf_X8_word_118 b_tape b_at b_from b_sort b_words k4 v2 v2 else zf_X8_word_118 b_tape b_at b_from b_sort b_words k4 v2 v1)
def zf_X8_word_41 (b_tape : Nat → Int32) (b_at : Int32) (b_from : Int32) (b_sort : Int32) (b_words : Nat → Int32) (k4 : Int32 → Int32 → Option (Int32)) : Nat → Int32 → Int32 → Bool → Int32 → Option (Int32)
  | 0, _, _, _, _ => none
  | n + 1, v1, v2, v3, v4 => (if (6 : Int32) ≤ v4 then zf_X8_word_109 b_tape b_at b_from b_sort b_words k4 v1 v2 v3 else (if v3 then (if b_at ≤ (b_from + v4) then zf_X8_word_82 b_tape b_at b_from b_sort b_words (zf_X8_word_41 b_tape b_at b_from b_sort b_words k4 n) v1 v2 v4 ((0 : Int32)) else (if ix ((b_from + v4)) 250 then zf_X8_word_82 b_tape b_at b_from b_sort b_words (zf_X8_word_41 b_tape b_at b_from b_sort b_words k4 n) v1 v2 v4 ((b_tape ((b_from + v4)).toNatClampNeg)) else none)) else zf_X8_word_109 b_tape b_at b_from b_sort b_words k4 v1 v2 v3))
def zf_X8_word_37 (b_tape : Nat → Int32) (b_at : Int32) (b_from : Int32) (b_sort : Int32) (b_words : Nat → Int32) (k4 : Int32 → Int32 → Option (Int32)) (v1 : Int32) (v2 : Int32) (t0 : Bool) : Option (Int32) := zf_X8_word_41 b_tape b_at b_from b_sort b_words k4 FU v1 v2 t0 ((0 : Int32))
def zf_X8_word_36 (b_tape : Nat → Int32) (b_at : Int32) (b_from : Int32) (b_sort : Int32) (b_words : Nat → Int32) (k4 : Int32 → Int32 → Option (Int32)) (v1 : Int32) (v2 : Int32) : Option (Int32) := zf_X8_word_37 b_tape b_at b_from b_sort b_words k4 v1 v2 false
def zf_X8_word_4 (b_tape : Nat → Int32) (b_at : Int32) (b_from : Int32) (b_sort : Int32) (b_words : Nat → Int32) : Nat → Int32 → Int32 → Option (Int32)
  | 0, _, _ => none
  | n + 1, v1, v2 => (if (7 : Int32) ≤ v2 then some (v1) else (if b_sort = (1 : Int32) then (if (6 : Int32) < (b_at - b_from) then zf_X8_word_36 b_tape b_at b_from b_sort b_words (zf_X8_word_4 b_tape b_at b_from b_sort b_words n) v1 v2 else zf_X8_word_37 b_tape b_at b_from b_sort b_words (zf_X8_word_4 b_tape b_at b_from b_sort b_words n) v1 v2 true) else zf_X8_word_36 b_tape b_at b_from b_sort b_words (zf_X8_word_4 b_tape b_at b_from b_sort b_words n) v1 v2))
def zf_X8_word  (b_tape : Nat → Int32) (b_at : Int32) (b_from : Int32) (b_sort : Int32) (b_words : Nat → Int32) : Option (Int32) := zf_X8_word_4 b_tape b_at b_from b_sort b_words FU ((-1 : Int32)) ((0 : Int32))
abbrev zr_X8_word : Room := { frames := 0, cells := 0, slots := 0, locals := 0 }
set_option maxHeartbeats 4000000 in
set_option maxRecDepth 100000 in
theorem c_X8_word (l : Launch) (G : va_G) (cy : Nat → ClassId) (tt : Nat → Nat) (M : Nat → Nat) (b_isKept : Bool) (b_size : Int32) (b_fled : Bool) (b_flights : Int32) (b_firstFlight : Int32) (b_bestHarms : Int32) (b_bestRage : Int32) (b_harmed : Int64) (b_raged : Int64)  (b_tape : Nat → Int32) (b_at : Int32) (b_from : Int32) (b_sort : Int32) (b_words : Nat → Int32) (res : Int32) (hf : zf_X8_word b_tape b_at b_from b_sort b_words = some res) : zCT l yX8_word cX8_word 5 (some .int) zr_X8_word G cy tt [.ref ((M 0))] [xM M b_isKept b_size b_at b_from b_sort b_fled b_flights b_firstFlight b_bestHarms b_bestRage b_harmed b_raged, xI cy ((M 5)) 250 b_tape, xC cy ((M 6)) 42 b_words] (some (.int res)) [xM M b_isKept b_size b_at b_from b_sort b_fled b_flights b_firstFlight b_bestHarms b_bestRage b_harmed b_raged, xI cy ((M 5)) 250 b_tape, xC cy ((M 6)) 42 b_words] := by
  refine zk_start zn_X8 (Nat.le_of_ble_eq_true rfl) ?_
  intro p e s m args below meth c A ls Q C hr hQ hw hl
  have C : zCx p m c s args meth cX8_word 5 RX8 G cy tt A := C
  have hx := C.1.1
  have hb := C.1.2.1
  have hl : lv_has ls 5 [(0, .ref ((M 0)))] := hl
  have J102 : ∀ (k41 : Int32 → Int32 → Bool → Int32 → Option (Int32)) (K41 : ∀ (v1 : Int32) (v2 : Int32) (v3 : Bool) (v4 : Int32) (H : Heap) (locs : List Loc) (ls : Array Slot), k41 v1 v2 v3 v4 = some res → zWd G A s.heap H locs [xM M b_isKept b_size b_at b_from b_sort b_fled b_flights b_firstFlight b_bestHarms b_bestRage b_harmed b_raged, xI cy ((M 5)) 250 b_tape, xC cy ((M 6)) 42 b_words] → lv_has ls 5 [(0, .ref ((M 0))), (1, .int v1), (2, .int v2), (3, .int (bI v3)), (4, .int v4)] → W p l e zr_X8_word s m args below meth c H locs 0 0 Q (F0 m 41 ls [])), ∀ (v1 : Int32) (v2 : Int32) (v4 : Int32) (t0 : Bool) (H : Heap) (locs : List Loc) (ls : Array Slot), zf_X8_word_102 b_tape b_at b_from b_sort b_words k41 v1 v2 v4 t0 = some res → zWd G A s.heap H locs [xM M b_isKept b_size b_at b_from b_sort b_fled b_flights b_firstFlight b_bestHarms b_bestRage b_harmed b_raged, xI cy ((M 5)) 250 b_tape, xC cy ((M 6)) 42 b_words] → lv_has ls 5 [(0, .ref ((M 0))), (1, .int v1), (2, .int v2), (4, .int v4)] → W p l e zr_X8_word s m args below meth c H locs 0 0 Q (F0 m 102 ls [.int (bI t0)]) := by
    intro k41 K41 v1 v2 v4 t0 H locs ls hf hw hl
    rw [zf_X8_word_102] at hf
    refine lv_istore_n (pc := 102) (lv' := [(3, .int (bI t0)), (0, .ref ((M 0))), (1, .int v1), (2, .int v2), (4, .int v4)]) hx hb dX8_word_102 rfl hl (by decide) rfl (fun ls hl => ?_)
    refine lv_iinc (pc := 103) (v := (v4 + 1)) (lv' := [(4, .int ((v4 + 1))), (3, .int (bI t0)), (0, .ref ((M 0))), (1, .int v1), (2, .int v2)]) hx hb dX8_word_103 hl (k := 4) rfl rfl (by decide) rfl (fun ls hl => ?_)
    refine lv_goto (pc := 106) (tgt := 41) hx hb dX8_word_106 (by decide) ?_
    exact K41 v1 v2 t0 ((v4 + 1)) _ _ _ hf hw (lv_sub hl [2, 3, 4, 1, 0] rfl)
  have J82 : ∀ (k41 : Int32 → Int32 → Bool → Int32 → Option (Int32)) (K41 : ∀ (v1 : Int32) (v2 : Int32) (v3 : Bool) (v4 : Int32) (H : Heap) (locs : List Loc) (ls : Array Slot), k41 v1 v2 v3 v4 = some res → zWd G A s.heap H locs [xM M b_isKept b_size b_at b_from b_sort b_fled b_flights b_firstFlight b_bestHarms b_bestRage b_harmed b_raged, xI cy ((M 5)) 250 b_tape, xC cy ((M 6)) 42 b_words] → lv_has ls 5 [(0, .ref ((M 0))), (1, .int v1), (2, .int v2), (3, .int (bI v3)), (4, .int v4)] → W p l e zr_X8_word s m args below meth c H locs 0 0 Q (F0 m 41 ls [])), ∀ (v1 : Int32) (v2 : Int32) (v4 : Int32) (t0 : Int32) (H : Heap) (locs : List Loc) (ls : Array Slot), zf_X8_word_82 b_tape b_at b_from b_sort b_words k41 v1 v2 v4 t0 = some res → zWd G A s.heap H locs [xM M b_isKept b_size b_at b_from b_sort b_fled b_flights b_firstFlight b_bestHarms b_bestRage b_harmed b_raged, xI cy ((M 5)) 250 b_tape, xC cy ((M 6)) 42 b_words] → lv_has ls 5 [(0, .ref ((M 0))), (1, .int v1), (2, .int v2), (4, .int v4)] → W p l e zr_X8_word s m args below meth c H locs 0 0 Q (F0 m 82 ls [.int t0]) := by
    intro k41 K41 v1 v2 v4 t0 H locs ls hf hw hl
    rw [zf_X8_word_82] at hf
    refine lv_aload_n (pc := 82) hx hb dX8_word_82 rfl (lv_at hl 0 rfl) ?_
    refine zk_gt (pc := 83) C hw zl_X8_29 0 rfl rfl dX8_word_83 ?_
    refine lv_bipush (pc := 86) (v := 6) hx hb dX8_word_86 (by decide) ?_
    refine lv_iload_n (pc := 88) hx hb dX8_word_88 rfl (lv_at hl 2 rfl) ?_
    refine lv_imul (pc := 89) hx hb dX8_word_89 ?_
    refine lv_iload (pc := 90) hx hb dX8_word_90 (lv_at hl 3 rfl) ?_
    refine lv_iadd (pc := 92) hx hb dX8_word_92 ?_
    obtain ⟨q8, hf⟩ := ck hf
    refine zk_cald (pc := 93) C hw 2 rfl q8 dX8_word_93 ?_
    refine lv_icmp_ne (pc := 94) (tgt := 101) hx hb dX8_word_94 (by decide) (fun q9 => ?_) (fun q9 => ?_)
    · replace hf := if_f q9 hf
      refine lv_iconst (pc := 101) (v := 0) hx hb dX8_word_101 (by decide) ?_
      exact J102 k41 K41 v1 v2 v4 false _ _ _ hf hw (lv_sub hl [0, 1, 2, 3] rfl)
    · replace hf := if_t q9 hf
      refine lv_iconst (pc := 97) (v := 1) hx hb dX8_word_97 (by decide) ?_
      refine lv_goto (pc := 98) (tgt := 102) hx hb dX8_word_98 (by decide) ?_
      exact J102 k41 K41 v1 v2 v4 true _ _ _ hf hw (lv_sub hl [0, 1, 2, 3] rfl)
  have J118 : ∀ (k4 : Int32 → Int32 → Option (Int32)) (K4 : ∀ (v1 : Int32) (v2 : Int32) (H : Heap) (locs : List Loc) (ls : Array Slot), k4 v1 v2 = some res → zWd G A s.heap H locs [xM M b_isKept b_size b_at b_from b_sort b_fled b_flights b_firstFlight b_bestHarms b_bestRage b_harmed b_raged, xI cy ((M 5)) 250 b_tape, xC cy ((M 6)) 42 b_words] → lv_has ls 5 [(0, .ref ((M 0))), (1, .int v1), (2, .int v2)] → W p l e zr_X8_word s m args below meth c H locs 0 0 Q (F0 m 4 ls [])), ∀ (v2 : Int32) (t0 : Int32) (H : Heap) (locs : List Loc) (ls : Array Slot), zf_X8_word_118 b_tape b_at b_from b_sort b_words k4 v2 t0 = some res → zWd G A s.heap H locs [xM M b_isKept b_size b_at b_from b_sort b_fled b_flights b_firstFlight b_bestHarms b_bestRage b_harmed b_raged, xI cy ((M 5)) 250 b_tape, xC cy ((M 6)) 42 b_words] → lv_has ls 5 [(0, .ref ((M 0))), (2, .int v2)] → W p l e zr_X8_word s m args below meth c H locs 0 0 Q (F0 m 118 ls [.int t0]) := by
    intro k4 K4 v2 t0 H locs ls hf hw hl
    rw [zf_X8_word_118] at hf
    refine lv_istore_n (pc := 118) (lv' := [(1, .int t0), (0, .ref ((M 0))), (2, .int v2)]) hx hb dX8_word_118 rfl hl (by decide) rfl (fun ls hl => ?_)
    refine lv_iinc (pc := 119) (v := (v2 + 1)) (lv' := [(2, .int ((v2 + 1))), (1, .int t0), (0, .ref ((M 0)))]) hx hb dX8_word_119 hl (k := 2) rfl rfl (by decide) rfl (fun ls hl => ?_)
    refine lv_goto (pc := 122) (tgt := 4) hx hb dX8_word_122 (by decide) ?_
    exact K4 t0 ((v2 + 1)) _ _ _ hf hw (lv_sub hl [2, 1, 0] rfl)
  have J109 : ∀ (k4 : Int32 → Int32 → Option (Int32)) (K4 : ∀ (v1 : Int32) (v2 : Int32) (H : Heap) (locs : List Loc) (ls : Array Slot), k4 v1 v2 = some res → zWd G A s.heap H locs [xM M b_isKept b_size b_at b_from b_sort b_fled b_flights b_firstFlight b_bestHarms b_bestRage b_harmed b_raged, xI cy ((M 5)) 250 b_tape, xC cy ((M 6)) 42 b_words] → lv_has ls 5 [(0, .ref ((M 0))), (1, .int v1), (2, .int v2)] → W p l e zr_X8_word s m args below meth c H locs 0 0 Q (F0 m 4 ls [])), ∀ (v1 : Int32) (v2 : Int32) (v3 : Bool) (H : Heap) (locs : List Loc) (ls : Array Slot), zf_X8_word_109 b_tape b_at b_from b_sort b_words k4 v1 v2 v3 = some res → zWd G A s.heap H locs [xM M b_isKept b_size b_at b_from b_sort b_fled b_flights b_firstFlight b_bestHarms b_bestRage b_harmed b_raged, xI cy ((M 5)) 250 b_tape, xC cy ((M 6)) 42 b_words] → lv_has ls 5 [(0, .ref ((M 0))), (1, .int v1), (2, .int v2), (3, .int (bI v3))] → W p l e zr_X8_word s m args below meth c H locs 0 0 Q (F0 m 109 ls []) := by
    intro k4 K4 v1 v2 v3 H locs ls hf hw hl
    rw [zf_X8_word_109] at hf
    refine lv_iload_n (pc := 109) hx hb dX8_word_109 rfl (lv_at hl 3 rfl) ?_
    refine zk_ifz (pc := 110) (tgt := 117) hx hb dX8_word_110 (by decide) (fun q10 => ?_) (fun q10 => ?_)
    · replace hf := if_f q10 hf
      refine lv_iload_n (pc := 117) hx hb dX8_word_117 rfl (lv_at hl 1 rfl) ?_
      exact J118 k4 K4 v2 v1 _ _ _ hf hw (lv_sub hl [0, 2] rfl)
    · replace hf := if_t q10 hf
      refine lv_iload_n (pc := 113) hx hb dX8_word_113 rfl (lv_at hl 2 rfl) ?_
      refine lv_goto (pc := 114) (tgt := 118) hx hb dX8_word_114 (by decide) ?_
      exact J118 k4 K4 v2 v2 _ _ _ hf hw (lv_sub hl [0, 2] rfl)
  have J41 : ∀ (k4 : Int32 → Int32 → Option (Int32)) (K4 : ∀ (v1 : Int32) (v2 : Int32) (H : Heap) (locs : List Loc) (ls : Array Slot), k4 v1 v2 = some res → zWd G A s.heap H locs [xM M b_isKept b_size b_at b_from b_sort b_fled b_flights b_firstFlight b_bestHarms b_bestRage b_harmed b_raged, xI cy ((M 5)) 250 b_tape, xC cy ((M 6)) 42 b_words] → lv_has ls 5 [(0, .ref ((M 0))), (1, .int v1), (2, .int v2)] → W p l e zr_X8_word s m args below meth c H locs 0 0 Q (F0 m 4 ls [])) (n : Nat), ∀ (v1 : Int32) (v2 : Int32) (v3 : Bool) (v4 : Int32) (H : Heap) (locs : List Loc) (ls : Array Slot), zf_X8_word_41 b_tape b_at b_from b_sort b_words k4 n v1 v2 v3 v4 = some res → zWd G A s.heap H locs [xM M b_isKept b_size b_at b_from b_sort b_fled b_flights b_firstFlight b_bestHarms b_bestRage b_harmed b_raged, xI cy ((M 5)) 250 b_tape, xC cy ((M 6)) 42 b_words] → lv_has ls 5 [(0, .ref ((M 0))), (1, .int v1), (2, .int v2), (3, .int (bI v3)), (4, .int v4)] → W p l e zr_X8_word s m args below meth c H locs 0 0 Q (F0 m 41 ls []) := by
    intro k4 K4 n
    induction n with
    | zero =>
      intro v1 v2 v3 v4 H locs ls hf hw hl
      rw [zf_X8_word_41] at hf
      cases hf
    | succ n ih =>
      intro v1 v2 v3 v4 H locs ls hf hw hl
      rw [zf_X8_word_41] at hf
      refine lv_iload (pc := 41) hx hb dX8_word_41 (lv_at hl 4 rfl) ?_
      refine lv_bipush (pc := 43) (v := 6) hx hb dX8_word_43 (by decide) ?_
      refine lv_icmp_ge (pc := 45) (tgt := 109) hx hb dX8_word_45 (by decide) (fun q4 => ?_) (fun q4 => ?_)
      · replace hf := if_t q4 hf
        exact J109 k4 K4 v1 v2 v3 _ _ _ hf hw (lv_sub hl [0, 1, 2, 3] rfl)
      · replace hf := if_f q4 hf
        refine lv_iload_n (pc := 48) hx hb dX8_word_48 rfl (lv_at hl 3 rfl) ?_
        refine zk_ifz (pc := 49) (tgt := 109) hx hb dX8_word_49 (by decide) (fun q5 => ?_) (fun q5 => ?_)
        · replace hf := if_f q5 hf
          exact J109 k4 K4 v1 v2 v3 _ _ _ hf hw (lv_sub hl [0, 1, 2, 3] rfl)
        · replace hf := if_t q5 hf
          refine lv_aload_n (pc := 52) hx hb dX8_word_52 rfl (lv_at hl 0 rfl) ?_
          refine zk_gt (pc := 53) C hw zl_X8_124 0 rfl rfl dX8_word_53 ?_
          refine lv_iload (pc := 56) hx hb dX8_word_56 (lv_at hl 4 rfl) ?_
          refine lv_iadd (pc := 58) hx hb dX8_word_58 ?_
          refine lv_aload_n (pc := 59) hx hb dX8_word_59 rfl (lv_at hl 0 rfl) ?_
          refine zk_gt (pc := 60) C hw zl_X8_121 0 rfl rfl dX8_word_60 ?_
          refine lv_icmp_ge (pc := 63) (tgt := 81) hx hb dX8_word_63 (by decide) (fun q6 => ?_) (fun q6 => ?_)
          · replace hf := if_t q6 hf
            refine lv_iconst (pc := 81) (v := 0) hx hb dX8_word_81 (by decide) ?_
            exact J82 (zf_X8_word_41 b_tape b_at b_from b_sort b_words k4 n) ih v1 v2 v4 ((0 : Int32)) _ _ _ hf hw (lv_sub hl [0, 1, 2, 4] rfl)
          · replace hf := if_f q6 hf
            refine lv_aload_n (pc := 66) hx hb dX8_word_66 rfl (lv_at hl 0 rfl) ?_
            refine zk_gt (pc := 67) C hw zl_X8_26 0 rfl rfl dX8_word_67 ?_
            refine lv_aload_n (pc := 70) hx hb dX8_word_70 rfl (lv_at hl 0 rfl) ?_
            refine zk_gt (pc := 71) C hw zl_X8_124 0 rfl rfl dX8_word_71 ?_
            refine lv_iload (pc := 74) hx hb dX8_word_74 (lv_at hl 4 rfl) ?_
            refine lv_iadd (pc := 76) hx hb dX8_word_76 ?_
            obtain ⟨q7, hf⟩ := ck hf
            refine zk_iald (pc := 77) C hw 1 rfl q7 dX8_word_77 ?_
            refine lv_goto (pc := 78) (tgt := 82) hx hb dX8_word_78 (by decide) ?_
            exact J82 (zf_X8_word_41 b_tape b_at b_from b_sort b_words k4 n) ih v1 v2 v4 ((b_tape ((b_from + v4)).toNatClampNeg)) _ _ _ hf hw (lv_sub hl [0, 1, 2, 4] rfl)
  have J37 : ∀ (k4 : Int32 → Int32 → Option (Int32)) (K4 : ∀ (v1 : Int32) (v2 : Int32) (H : Heap) (locs : List Loc) (ls : Array Slot), k4 v1 v2 = some res → zWd G A s.heap H locs [xM M b_isKept b_size b_at b_from b_sort b_fled b_flights b_firstFlight b_bestHarms b_bestRage b_harmed b_raged, xI cy ((M 5)) 250 b_tape, xC cy ((M 6)) 42 b_words] → lv_has ls 5 [(0, .ref ((M 0))), (1, .int v1), (2, .int v2)] → W p l e zr_X8_word s m args below meth c H locs 0 0 Q (F0 m 4 ls [])), ∀ (v1 : Int32) (v2 : Int32) (t0 : Bool) (H : Heap) (locs : List Loc) (ls : Array Slot), zf_X8_word_37 b_tape b_at b_from b_sort b_words k4 v1 v2 t0 = some res → zWd G A s.heap H locs [xM M b_isKept b_size b_at b_from b_sort b_fled b_flights b_firstFlight b_bestHarms b_bestRage b_harmed b_raged, xI cy ((M 5)) 250 b_tape, xC cy ((M 6)) 42 b_words] → lv_has ls 5 [(0, .ref ((M 0))), (1, .int v1), (2, .int v2)] → W p l e zr_X8_word s m args below meth c H locs 0 0 Q (F0 m 37 ls [.int (bI t0)]) := by
    intro k4 K4 v1 v2 t0 H locs ls hf hw hl
    rw [zf_X8_word_37] at hf
    refine lv_istore_n (pc := 37) (lv' := [(3, .int (bI t0)), (0, .ref ((M 0))), (1, .int v1), (2, .int v2)]) hx hb dX8_word_37 rfl hl (by decide) rfl (fun ls hl => ?_)
    refine lv_iconst (pc := 38) (v := 0) hx hb dX8_word_38 (by decide) ?_
    refine lv_istore (pc := 39) (lv' := [(4, .int ((0 : Int32))), (3, .int (bI t0)), (0, .ref ((M 0))), (1, .int v1), (2, .int v2)]) hx hb dX8_word_39 hl (by decide) rfl (fun ls hl => ?_)
    exact J41 k4 K4 FU v1 v2 t0 ((0 : Int32)) _ _ _ hf hw (lv_sub hl [2, 3, 4, 1, 0] rfl)
  have J36 : ∀ (k4 : Int32 → Int32 → Option (Int32)) (K4 : ∀ (v1 : Int32) (v2 : Int32) (H : Heap) (locs : List Loc) (ls : Array Slot), k4 v1 v2 = some res → zWd G A s.heap H locs [xM M b_isKept b_size b_at b_from b_sort b_fled b_flights b_firstFlight b_bestHarms b_bestRage b_harmed b_raged, xI cy ((M 5)) 250 b_tape, xC cy ((M 6)) 42 b_words] → lv_has ls 5 [(0, .ref ((M 0))), (1, .int v1), (2, .int v2)] → W p l e zr_X8_word s m args below meth c H locs 0 0 Q (F0 m 4 ls [])), ∀ (v1 : Int32) (v2 : Int32) (H : Heap) (locs : List Loc) (ls : Array Slot), zf_X8_word_36 b_tape b_at b_from b_sort b_words k4 v1 v2 = some res → zWd G A s.heap H locs [xM M b_isKept b_size b_at b_from b_sort b_fled b_flights b_firstFlight b_bestHarms b_bestRage b_harmed b_raged, xI cy ((M 5)) 250 b_tape, xC cy ((M 6)) 42 b_words] → lv_has ls 5 [(0, .ref ((M 0))), (1, .int v1), (2, .int v2)] → W p l e zr_X8_word s m args below meth c H locs 0 0 Q (F0 m 36 ls []) := by
    intro k4 K4 v1 v2 H locs ls hf hw hl
    rw [zf_X8_word_36] at hf
    refine lv_iconst (pc := 36) (v := 0) hx hb dX8_word_36 (by decide) ?_
    exact J37 k4 K4 v1 v2 false _ _ _ hf hw (lv_sub hl [0, 1, 2] rfl)
  have J4 : ∀ (n : Nat), ∀ (v1 : Int32) (v2 : Int32) (H : Heap) (locs : List Loc) (ls : Array Slot), zf_X8_word_4 b_tape b_at b_from b_sort b_words n v1 v2 = some res → zWd G A s.heap H locs [xM M b_isKept b_size b_at b_from b_sort b_fled b_flights b_firstFlight b_bestHarms b_bestRage b_harmed b_raged, xI cy ((M 5)) 250 b_tape, xC cy ((M 6)) 42 b_words] → lv_has ls 5 [(0, .ref ((M 0))), (1, .int v1), (2, .int v2)] → W p l e zr_X8_word s m args below meth c H locs 0 0 Q (F0 m 4 ls []) := by
    intro n
    induction n with
    | zero =>
      intro v1 v2 H locs ls hf hw hl
      rw [zf_X8_word_4] at hf
      cases hf
    | succ n ih =>
      intro v1 v2 H locs ls hf hw hl
      rw [zf_X8_word_4] at hf
      refine lv_iload_n (pc := 4) hx hb dX8_word_4 rfl (lv_at hl 2 rfl) ?_
      refine lv_bipush (pc := 5) (v := 7) hx hb dX8_word_5 (by decide) ?_
      refine lv_icmp_ge (pc := 7) (tgt := 125) hx hb dX8_word_7 (by decide) (fun q1 => ?_) (fun q1 => ?_)
      · replace hf := if_t q1 hf
        refine lv_iload_n (pc := 125) hx hb dX8_word_125 rfl (lv_at hl 1 rfl) ?_
        have hf := Option.some.inj hf
        subst hf
        exact zk_reti (pc := 126) (ww := [xM M b_isKept b_size b_at b_from b_sort b_fled b_flights b_firstFlight b_bestHarms b_bestRage b_harmed b_raged, xI cy ((M 5)) 250 b_tape, xC cy ((M 6)) 42 b_words]) C hw hr hQ dX8_word_126
      · replace hf := if_f q1 hf
        refine lv_aload_n (pc := 10) hx hb dX8_word_10 rfl (lv_at hl 0 rfl) ?_
        refine zk_gt (pc := 11) C hw zl_X8_130 0 rfl rfl dX8_word_11 ?_
        refine lv_iconst (pc := 14) (v := 1) hx hb dX8_word_14 (by decide) ?_
        refine lv_icmp_ne (pc := 15) (tgt := 36) hx hb dX8_word_15 (by decide) (fun q2 => ?_) (fun q2 => ?_)
        · replace hf := if_f q2 hf
          exact J36 (zf_X8_word_4 b_tape b_at b_from b_sort b_words n) ih v1 v2 _ _ _ hf hw (lv_sub hl [0, 1, 2] rfl)
        · replace hf := if_t q2 hf
          refine lv_aload_n (pc := 18) hx hb dX8_word_18 rfl (lv_at hl 0 rfl) ?_
          refine zk_gt (pc := 19) C hw zl_X8_121 0 rfl rfl dX8_word_19 ?_
          refine lv_aload_n (pc := 22) hx hb dX8_word_22 rfl (lv_at hl 0 rfl) ?_
          refine zk_gt (pc := 23) C hw zl_X8_124 0 rfl rfl dX8_word_23 ?_
          refine lv_isub (pc := 26) hx hb dX8_word_26 ?_
          refine lv_bipush (pc := 27) (v := 6) hx hb dX8_word_27 (by decide) ?_
          refine lv_icmp_gt (pc := 29) (tgt := 36) hx hb dX8_word_29 (by decide) (fun q3 => ?_) (fun q3 => ?_)
          · replace hf := if_t q3 hf
            exact J36 (zf_X8_word_4 b_tape b_at b_from b_sort b_words n) ih v1 v2 _ _ _ hf hw (lv_sub hl [0, 1, 2] rfl)
          · replace hf := if_f q3 hf
            refine lv_iconst (pc := 32) (v := 1) hx hb dX8_word_32 (by decide) ?_
            refine lv_goto (pc := 33) (tgt := 37) hx hb dX8_word_33 (by decide) ?_
            exact J37 (zf_X8_word_4 b_tape b_at b_from b_sort b_words n) ih v1 v2 true _ _ _ hf hw (lv_sub hl [0, 1, 2] rfl)
  rw [zf_X8_word] at hf
  refine lv_iconst (pc := 0) (v := -1) hx hb dX8_word_0 (by decide) ?_
  refine lv_istore_n (pc := 1) (lv' := [(1, .int ((-1 : Int32))), (0, .ref ((M 0)))]) hx hb dX8_word_1 rfl hl (by decide) rfl (fun ls hl => ?_)
  refine lv_iconst (pc := 2) (v := 0) hx hb dX8_word_2 (by decide) ?_
  refine lv_istore_n (pc := 3) (lv' := [(2, .int ((0 : Int32))), (1, .int ((-1 : Int32))), (0, .ref ((M 0)))]) hx hb dX8_word_3 rfl hl (by decide) rfl (fun ls hl => ?_)
  exact J4 FU ((-1 : Int32)) ((0 : Int32)) _ _ _ hf hw (lv_sub hl [2, 1, 0] rfl)
def zf_X8_number_35 (b_tape : Nat → Int32) (b_size : Int32) : Nat → Int32 → Int32 → Int32 → Int32 → Int32 → Int32 → Int32 → Option (Int32 × Int32 × Int32 × Int32)
  | 0, _, _, _, _, _, _, _ => none
  | n + 1, v1, v2, v3, v4, b_at, b_from, b_sort => (if b_at ≤ v4 then (Option.bind (zf_X8_isIn v3.toInt64 v1.toInt64 v2.toInt64) (fun u5 => (if u5 then some (v3, b_at, b_from, b_sort) else some ((-1 : Int32), b_at, b_from, b_sort)))) else (if ix v4 250 then zf_X8_number_35 b_tape b_size n v1 v2 (((((10 : Int32) * v3) + (b_tape v4.toNatClampNeg)) - (48 : Int32))) ((v4 + 1)) b_at b_from b_sort else none))
def zf_X8_number (x1 : Int32) (x2 : Int32) (b_tape : Nat → Int32) (b_size : Int32) (b_at : Int32) (b_from : Int32) (b_sort : Int32) : Option (Int32 × Int32 × Int32 × Int32) := (Option.bind (zf_X8_next b_tape b_size b_at b_from b_sort) (fun u1 => (if u1.2.2 = (2 : Int32) then (if (u1.1 - u1.2.1) ≤ (3 : Int32) then zf_X8_number_35 b_tape b_size FU x1 x2 ((0 : Int32)) u1.2.1 u1.1 u1.2.1 u1.2.2 else some ((-1 : Int32), u1.1, u1.2.1, u1.2.2)) else some ((-1 : Int32), u1.1, u1.2.1, u1.2.2))))
abbrev zr_X8_number : Room := { frames := 3, cells := 0, slots := 0, locals := 66 }
set_option maxHeartbeats 4000000 in
set_option maxRecDepth 100000 in
theorem c_X8_number (l : Launch) (G : va_G) (cy : Nat → ClassId) (tt : Nat → Nat) (M : Nat → Nat) (b_isKept : Bool) (b_fled : Bool) (b_flights : Int32) (b_firstFlight : Int32) (b_bestHarms : Int32) (b_bestRage : Int32) (b_harmed : Int64) (b_raged : Int64) (x1 : Int32) (x2 : Int32) (b_tape : Nat → Int32) (b_size : Int32) (b_at : Int32) (b_from : Int32) (b_sort : Int32) (res : Int32 × Int32 × Int32 × Int32) (hf : zf_X8_number x1 x2 b_tape b_size b_at b_from b_sort = some res) : zCT l yX8_number cX8_number 5 (some .int) zr_X8_number G cy tt [.ref ((M 0)), .int x1, .int x2] [xM M b_isKept b_size b_at b_from b_sort b_fled b_flights b_firstFlight b_bestHarms b_bestRage b_harmed b_raged, xI cy ((M 5)) 250 b_tape] (some (.int res.1)) [xM M b_isKept b_size res.2.1 res.2.2.1 res.2.2.2 b_fled b_flights b_firstFlight b_bestHarms b_bestRage b_harmed b_raged, xI cy ((M 5)) 250 b_tape] := by
  refine zk_start zn_X8 (Nat.le_of_ble_eq_true rfl) ?_
  intro p e s m args below meth c A ls Q C hr hQ hw hl
  have C : zCx p m c s args meth cX8_number 5 RX8 G cy tt A := C
  have hx := C.1.1
  have hb := C.1.2.1
  have hl : lv_has ls 5 [(0, .ref ((M 0))), (1, .int x1), (2, .int x2)] := hl
  have J35 : ∀ (n : Nat), ∀ (v1 : Int32) (v2 : Int32) (v3 : Int32) (v4 : Int32) (b_at : Int32) (b_from : Int32) (b_sort : Int32) (H : Heap) (locs : List Loc) (ls : Array Slot), zf_X8_number_35 b_tape b_size n v1 v2 v3 v4 b_at b_from b_sort = some res → zWd G A s.heap H locs [xM M b_isKept b_size b_at b_from b_sort b_fled b_flights b_firstFlight b_bestHarms b_bestRage b_harmed b_raged, xI cy ((M 5)) 250 b_tape] → lv_has ls 5 [(0, .ref ((M 0))), (1, .int v1), (2, .int v2), (3, .int v3), (4, .int v4)] → W p l e zr_X8_number s m args below meth c H locs 0 0 Q (F0 m 35 ls []) := by
    intro n
    induction n with
    | zero =>
      intro v1 v2 v3 v4 b_at b_from b_sort H locs ls hf hw hl
      rw [zf_X8_number_35] at hf
      cases hf
    | succ n ih =>
      intro v1 v2 v3 v4 b_at b_from b_sort H locs ls hf hw hl
      rw [zf_X8_number_35] at hf
      refine lv_iload (pc := 35) hx hb dX8_number_35 (lv_at hl 4 rfl) ?_
      refine lv_aload_n (pc := 37) hx hb dX8_number_37 rfl (lv_at hl 0 rfl) ?_
      refine zk_gt (pc := 38) C hw zl_X8_121 0 rfl rfl dX8_number_38 ?_
      refine lv_icmp_ge (pc := 41) (tgt := 66) hx hb dX8_number_41 (by decide) (fun q4 => ?_) (fun q4 => ?_)
      · replace hf := if_t q4 hf
        refine lv_iload_n (pc := 66) hx hb dX8_number_66 rfl (lv_at hl 3 rfl) ?_
        refine lv_i2l (pc := 67) (v := v3.toInt64) hx hb dX8_number_67 rfl ?_
        refine lv_iload_n (pc := 68) hx hb dX8_number_68 rfl (lv_at hl 1 rfl) ?_
        refine lv_i2l (pc := 69) (v := v1.toInt64) hx hb dX8_number_69 rfl ?_
        refine lv_iload_n (pc := 70) hx hb dX8_number_70 rfl (lv_at hl 2 rfl) ?_
        refine lv_i2l (pc := 71) (v := v2.toInt64) hx hb dX8_number_71 rfl ?_
        obtain ⟨u5, u5e, hf⟩ := bd hf
        refine zk_cS (pc := 72) (rest := []) (st1 := [.int (bI u5)]) (w' := [xM M b_isKept b_size b_at b_from b_sort b_fled b_flights b_firstFlight b_bestHarms b_bestRage b_harmed b_raged, xI cy ((M 5)) 250 b_tape]) (mk := [none, none]) C hw (c_X8_isIn l G cy tt v3.toInt64 v1.toInt64 v2.toInt64 _ u5e) zy_X8_isIn zm_X8_68 [] rfl rfl rfl rfl rfl rfl rfl rfl hl.1 ⟨rfl, rfl⟩ ⟨Nat.le_of_ble_eq_true rfl, Nat.le_of_ble_eq_true rfl⟩ rfl (Nat.le_of_ble_eq_true rfl) ⟨Nat.zero_le _, Nat.zero_le _⟩ dX8_number_72 (fun H locs hw => ?_)
        refine zk_ifz (pc := 75) (tgt := 82) hx hb dX8_number_75 (by decide) (fun q6 => ?_) (fun q6 => ?_)
        · replace hf := if_f q6 hf
          refine lv_iconst (pc := 82) (v := -1) hx hb dX8_number_82 (by decide) ?_
          have hf := Option.some.inj hf
          subst hf
          exact zk_reti (pc := 83) (ww := [xM M b_isKept b_size b_at b_from b_sort b_fled b_flights b_firstFlight b_bestHarms b_bestRage b_harmed b_raged, xI cy ((M 5)) 250 b_tape]) C hw hr hQ dX8_number_83
        · replace hf := if_t q6 hf
          refine lv_iload_n (pc := 78) hx hb dX8_number_78 rfl (lv_at hl 3 rfl) ?_
          refine lv_goto (pc := 79) (tgt := 83) hx hb dX8_number_79 (by decide) ?_
          have hf := Option.some.inj hf
          subst hf
          exact zk_reti (pc := 83) (ww := [xM M b_isKept b_size b_at b_from b_sort b_fled b_flights b_firstFlight b_bestHarms b_bestRage b_harmed b_raged, xI cy ((M 5)) 250 b_tape]) C hw hr hQ dX8_number_83
      · replace hf := if_f q4 hf
        refine lv_bipush (pc := 44) (v := 10) hx hb dX8_number_44 (by decide) ?_
        refine lv_iload_n (pc := 46) hx hb dX8_number_46 rfl (lv_at hl 3 rfl) ?_
        refine lv_imul (pc := 47) hx hb dX8_number_47 ?_
        refine lv_aload_n (pc := 48) hx hb dX8_number_48 rfl (lv_at hl 0 rfl) ?_
        refine zk_gt (pc := 49) C hw zl_X8_26 0 rfl rfl dX8_number_49 ?_
        refine lv_iload (pc := 52) hx hb dX8_number_52 (lv_at hl 4 rfl) ?_
        obtain ⟨q7, hf⟩ := ck hf
        refine zk_iald (pc := 54) C hw 1 rfl q7 dX8_number_54 ?_
        refine lv_iadd (pc := 55) hx hb dX8_number_55 ?_
        refine lv_bipush (pc := 56) (v := 48) hx hb dX8_number_56 (by decide) ?_
        refine lv_isub (pc := 58) hx hb dX8_number_58 ?_
        refine lv_istore_n (pc := 59) (lv' := [(3, .int (((((10 : Int32) * v3) + (b_tape v4.toNatClampNeg)) - (48 : Int32)))), (0, .ref ((M 0))), (1, .int v1), (2, .int v2), (4, .int v4)]) hx hb dX8_number_59 rfl hl (by decide) rfl (fun ls hl => ?_)
        refine lv_iinc (pc := 60) (v := (v4 + 1)) (lv' := [(4, .int ((v4 + 1))), (3, .int (((((10 : Int32) * v3) + (b_tape v4.toNatClampNeg)) - (48 : Int32)))), (0, .ref ((M 0))), (1, .int v1), (2, .int v2)]) hx hb dX8_number_60 hl (k := 4) rfl rfl (by decide) rfl (fun ls hl => ?_)
        refine lv_goto (pc := 63) (tgt := 35) hx hb dX8_number_63 (by decide) ?_
        exact ih v1 v2 (((((10 : Int32) * v3) + (b_tape v4.toNatClampNeg)) - (48 : Int32))) ((v4 + 1)) b_at b_from b_sort _ _ _ hf hw (lv_sub hl [2, 3, 4, 1, 0] rfl)
  rw [zf_X8_number] at hf
  refine lv_aload_n (pc := 0) hx hb dX8_number_0 rfl (lv_at hl 0 rfl) ?_
  obtain ⟨u1, u1e, hf⟩ := bd hf
  refine zk_cV (pc := 1) (ci := 8) (q0 := 0) (rest := []) (st1 := []) (w' := [xM M b_isKept b_size u1.1 u1.2.1 u1.2.2 b_fled b_flights b_firstFlight b_bestHarms b_bestRage b_harmed b_raged, xI cy ((M 5)) 250 b_tape]) (mk := [some (xM M b_isKept b_size u1.1 u1.2.1 u1.2.2 b_fled b_flights b_firstFlight b_bestHarms b_bestRage b_harmed b_raged), none]) C hw (c_X8_next l G cy tt M b_isKept b_fled b_flights b_firstFlight b_bestHarms b_bestRage b_harmed b_raged b_tape b_size b_at b_from b_sort _ u1e) zy_X8_next zm_X8_133 rfl rfl rfl [0, 1] rfl rfl rfl rfl rfl rfl rfl rfl hl.1 ⟨rfl, rfl⟩ ⟨Nat.le_of_ble_eq_true rfl, Nat.le_of_ble_eq_true rfl⟩ rfl (Nat.le_of_ble_eq_true rfl) ⟨Nat.zero_le _, Nat.zero_le _⟩ dX8_number_1 (fun H locs hw => ?_)
  refine lv_aload_n (pc := 4) hx hb dX8_number_4 rfl (lv_at hl 0 rfl) ?_
  refine zk_gt (pc := 5) C hw zl_X8_130 0 rfl rfl dX8_number_5 ?_
  refine lv_iconst (pc := 8) (v := 2) hx hb dX8_number_8 (by decide) ?_
  refine lv_icmp_ne (pc := 9) (tgt := 25) hx hb dX8_number_9 (by decide) (fun q2 => ?_) (fun q2 => ?_)
  · replace hf := if_f q2 hf
    refine lv_iconst (pc := 25) (v := -1) hx hb dX8_number_25 (by decide) ?_
    have hf := Option.some.inj hf
    subst hf
    exact zk_reti (pc := 26) (ww := [xM M b_isKept b_size u1.1 u1.2.1 u1.2.2 b_fled b_flights b_firstFlight b_bestHarms b_bestRage b_harmed b_raged, xI cy ((M 5)) 250 b_tape]) C hw hr hQ dX8_number_26
  · replace hf := if_t q2 hf
    refine lv_aload_n (pc := 12) hx hb dX8_number_12 rfl (lv_at hl 0 rfl) ?_
    refine zk_gt (pc := 13) C hw zl_X8_121 0 rfl rfl dX8_number_13 ?_
    refine lv_aload_n (pc := 16) hx hb dX8_number_16 rfl (lv_at hl 0 rfl) ?_
    refine zk_gt (pc := 17) C hw zl_X8_124 0 rfl rfl dX8_number_17 ?_
    refine lv_isub (pc := 20) hx hb dX8_number_20 ?_
    refine lv_iconst (pc := 21) (v := 3) hx hb dX8_number_21 (by decide) ?_
    refine lv_icmp_le (pc := 22) (tgt := 27) hx hb dX8_number_22 (by decide) (fun q3 => ?_) (fun q3 => ?_)
    · replace hf := if_t q3 hf
      refine lv_iconst (pc := 27) (v := 0) hx hb dX8_number_27 (by decide) ?_
      refine lv_istore_n (pc := 28) (lv' := [(3, .int ((0 : Int32))), (0, .ref ((M 0))), (1, .int x1), (2, .int x2)]) hx hb dX8_number_28 rfl hl (by decide) rfl (fun ls hl => ?_)
      refine lv_aload_n (pc := 29) hx hb dX8_number_29 rfl (lv_at hl 1 rfl) ?_
      refine zk_gt (pc := 30) C hw zl_X8_124 0 rfl rfl dX8_number_30 ?_
      refine lv_istore (pc := 33) (lv' := [(4, .int u1.2.1), (3, .int ((0 : Int32))), (0, .ref ((M 0))), (1, .int x1), (2, .int x2)]) hx hb dX8_number_33 hl (by decide) rfl (fun ls hl => ?_)
      exact J35 FU x1 x2 ((0 : Int32)) u1.2.1 u1.1 u1.2.1 u1.2.2 _ _ _ hf hw (lv_sub hl [2, 3, 4, 1, 0] rfl)
    · replace hf := if_f q3 hf
      refine lv_iconst (pc := 25) (v := -1) hx hb dX8_number_25 (by decide) ?_
      have hf := Option.some.inj hf
      subst hf
      exact zk_reti (pc := 26) (ww := [xM M b_isKept b_size u1.1 u1.2.1 u1.2.2 b_fled b_flights b_firstFlight b_bestHarms b_bestRage b_harmed b_raged, xI cy ((M 5)) 250 b_tape]) C hw hr hQ dX8_number_26
def zf_X8_isStatement_90 (b_tape : Nat → Int32) (b_size : Int32) (b_words : Nat → Int32) (v4 : Int32) (b_now : Nat → Int32) (b_at : Int32) (b_from : Int32) (b_sort : Int32) : Option (Bool × (Nat → Int32) × Int32 × Int32 × Int32) := (if v4 = (-1 : Int32) then some (false, b_now, b_at, b_from, b_sort) else some (true, b_now, b_at, b_from, b_sort))
def zf_X8_isStatement_73 (b_tape : Nat → Int32) (b_size : Int32) (b_words : Nat → Int32) (v2 : Int32) (v3 : Int32) (t0 : Int32) (b_now : Nat → Int32) (b_at : Int32) (b_from : Int32) (b_sort : Int32) : Option (Bool × (Nat → Int32) × Int32 × Int32 × Int32) := (if t0 = (-1 : Int32) then zf_X8_isStatement_90 b_tape b_size b_words t0 b_now b_at b_from b_sort else (Option.bind (zf_X8_add v2 v3 t0 b_now) (fun u21 => zf_X8_isStatement_90 b_tape b_size b_words t0 u21.2 b_at b_from b_sort)))
def zf_X8_isStatement_56 (b_tape : Nat → Int32) (b_size : Int32) (b_words : Nat → Int32) (v2 : Int32) (t0 : Int32) (b_now : Nat → Int32) (b_at : Int32) (b_from : Int32) (b_sort : Int32) : Option (Bool × (Nat → Int32) × Int32 × Int32 × Int32) := (if t0 = (-1 : Int32) then zf_X8_isStatement_73 b_tape b_size b_words v2 t0 ((-1 : Int32)) b_now b_at b_from b_sort else (Option.bind (zf_X8_number (((0 : Int32))) (((40 : Int32))) b_tape b_size b_at b_from b_sort) (fun u19 => zf_X8_isStatement_73 b_tape b_size b_words v2 t0 u19.1 b_now u19.2.1 u19.2.2.1 u19.2.2.2)))
def zf_X8_isStatement_152 (b_tape : Nat → Int32) (b_size : Int32) (b_words : Nat → Int32) (v3 : Int32) (b_now : Nat → Int32) (b_at : Int32) (b_from : Int32) (b_sort : Int32) : Option (Bool × (Nat → Int32) × Int32 × Int32 × Int32) := (if v3 = (-1 : Int32) then some (false, b_now, b_at, b_from, b_sort) else some (true, b_now, b_at, b_from, b_sort))
def zf_X8_isStatement_135 (b_tape : Nat → Int32) (b_size : Int32) (b_words : Nat → Int32) (v2 : Int32) (t0 : Int32) (b_now : Nat → Int32) (b_at : Int32) (b_from : Int32) (b_sort : Int32) : Option (Bool × (Nat → Int32) × Int32 × Int32 × Int32) := (if t0 = (-1 : Int32) then zf_X8_isStatement_152 b_tape b_size b_words t0 b_now b_at b_from b_sort else (if ix ((((4 : Int32) * v2) + (2 : Int32))) 39 then zf_X8_isStatement_152 b_tape b_size b_words t0 ((upd b_now (((((4 : Int32) * v2) + (2 : Int32))).toNatClampNeg) t0)) b_at b_from b_sort else none))
def zf_X8_isStatement_224 (b_tape : Nat → Int32) (b_size : Int32) (b_words : Nat → Int32) (v2 : Int32) (b_now : Nat → Int32) (b_at : Int32) (b_from : Int32) (b_sort : Int32) : Option (Bool × (Nat → Int32) × Int32 × Int32 × Int32) := (if v2 = (-1 : Int32) then some (false, b_now, b_at, b_from, b_sort) else some (true, b_now, b_at, b_from, b_sort))
def zf_X8_isStatement_203 (b_tape : Nat → Int32) (b_size : Int32) (b_words : Nat → Int32) (v1 : Int32) (t0 : Int32) (t1 : Bool) (b_now : Nat → Int32) (b_at : Int32) (b_from : Int32) (b_sort : Int32) : Option (Bool × (Nat → Int32) × Int32 × Int32 × Int32) := (Option.bind (zf_X8_number (((bI t1))) t0 b_tape b_size b_at b_from b_sort) (fun u28 => (if u28.1 = (-1 : Int32) then zf_X8_isStatement_224 b_tape b_size b_words u28.1 b_now u28.2.1 u28.2.2.1 u28.2.2.2 else (if ix ((((33 : Int32) + v1) - (2 : Int32))) 39 then zf_X8_isStatement_224 b_tape b_size b_words u28.1 ((upd b_now (((((33 : Int32) + v1) - (2 : Int32))).toNatClampNeg) u28.1)) u28.2.1 u28.2.2.1 u28.2.2.2 else none))))
def zf_X8_isStatement_179 (b_tape : Nat → Int32) (b_size : Int32) (b_words : Nat → Int32) (v1 : Int32) (t0 : Bool) (b_now : Nat → Int32) (b_at : Int32) (b_from : Int32) (b_sort : Int32) : Option (Bool × (Nat → Int32) × Int32 × Int32 × Int32) := (if v1 = (4 : Int32) then zf_X8_isStatement_203 b_tape b_size b_words v1 ((9 : Int32)) t0 b_now b_at b_from b_sort else (if v1 = (6 : Int32) then zf_X8_isStatement_203 b_tape b_size b_words v1 ((999 : Int32)) t0 b_now b_at b_from b_sort else zf_X8_isStatement_203 b_tape b_size b_words v1 ((99 : Int32)) t0 b_now b_at b_from b_sort))
def zf_X8_isStatement_174 (b_tape : Nat → Int32) (b_size : Int32) (b_words : Nat → Int32) (v1 : Int32) (b_now : Nat → Int32) (b_at : Int32) (b_from : Int32) (b_sort : Int32) : Option (Bool × (Nat → Int32) × Int32 × Int32 × Int32) := zf_X8_isStatement_179 b_tape b_size b_words v1 true b_now b_at b_from b_sort
def zf_X8_isStatement_29 (b_tape : Nat → Int32) (b_size : Int32) (b_words : Nat → Int32) (v1 : Int32) (b_now : Nat → Int32) (b_at : Int32) (b_from : Int32) (b_sort : Int32) : Option (Bool × (Nat → Int32) × Int32 × Int32 × Int32) := (if v1 = 0 then (Option.bind (zf_X8_number (((0 : Int32))) (((5 : Int32))) b_tape b_size b_at b_from b_sort) (fun u15 => (if u15.1 = (-1 : Int32) then zf_X8_isStatement_56 b_tape b_size b_words u15.1 ((-1 : Int32)) b_now u15.2.1 u15.2.2.1 u15.2.2.2 else (Option.bind (zf_X8_number (((0 : Int32))) (((9 : Int32))) b_tape b_size u15.2.1 u15.2.2.1 u15.2.2.2) (fun u17 => zf_X8_isStatement_56 b_tape b_size b_words u15.1 u17.1 b_now u17.2.1 u17.2.2.1 u17.2.2.2))))) else (if v1 = (1 : Int32) then (Option.bind (zf_X8_many b_now) (fun u11 => (Option.bind (zf_X8_number (((0 : Int32))) (((u11 - (1 : Int32)))) b_tape b_size b_at b_from b_sort) (fun u12 => (if u12.1 = (-1 : Int32) then zf_X8_isStatement_135 b_tape b_size b_words u12.1 ((-1 : Int32)) b_now u12.2.1 u12.2.2.1 u12.2.2.2 else (Option.bind (zf_X8_number (((0 : Int32))) (((40 : Int32))) b_tape b_size u12.2.1 u12.2.2.1 u12.2.2.2) (fun u14 => zf_X8_isStatement_135 b_tape b_size b_words u12.1 u14.1 b_now u14.2.1 u14.2.2.1 u14.2.2.2))))))) else (if v1 = (4 : Int32) then zf_X8_isStatement_174 b_tape b_size b_words v1 b_now b_at b_from b_sort else (if v1 = (5 : Int32) then zf_X8_isStatement_174 b_tape b_size b_words v1 b_now b_at b_from b_sort else zf_X8_isStatement_179 b_tape b_size b_words v1 false b_now b_at b_from b_sort))))
def zf_X8_isStatement  (b_now : Nat → Int32) (b_tape : Nat → Int32) (b_size : Int32) (b_at : Int32) (b_from : Int32) (b_sort : Int32) (b_words : Nat → Int32) : Option (Bool × (Nat → Int32) × Int32 × Int32 × Int32) := (Option.bind (zf_X8_next b_tape b_size b_at b_from b_sort) (fun u1 => (Option.bind (zf_X8_word b_tape u1.1 u1.2.1 u1.2.2 b_words) (fun u2 => (if u2 = (-1 : Int32) then some (false, b_now, u1.1, u1.2.1, u1.2.2) else (if u2 = 0 then (Option.bind (zf_X8_many b_now) (fun u5 => (if u5 = (8 : Int32) then some (false, b_now, u1.1, u1.2.1, u1.2.2) else zf_X8_isStatement_29 b_tape b_size b_words u2 b_now u1.1 u1.2.1 u1.2.2))) else zf_X8_isStatement_29 b_tape b_size b_words u2 b_now u1.1 u1.2.1 u1.2.2))))))
abbrev zr_X8_isStatement : Room := { frames := 4, cells := 0, slots := 0, locals := 90 }
set_option maxHeartbeats 4000000 in
set_option maxRecDepth 100000 in
theorem c_X8_isStatement (l : Launch) (G : va_G) (cy : Nat → ClassId) (tt : Nat → Nat) (M : Nat → Nat) (b_isKept : Bool) (b_fled : Bool) (b_flights : Int32) (b_firstFlight : Int32) (b_bestHarms : Int32) (b_bestRage : Int32) (b_harmed : Int64) (b_raged : Int64)  (b_now : Nat → Int32) (b_tape : Nat → Int32) (b_size : Int32) (b_at : Int32) (b_from : Int32) (b_sort : Int32) (b_words : Nat → Int32) (res : Bool × (Nat → Int32) × Int32 × Int32 × Int32) (hf : zf_X8_isStatement b_now b_tape b_size b_at b_from b_sort b_words = some res) : zCT l yX8_isStatement cX8_isStatement 5 (some .boolean) zr_X8_isStatement G cy tt [.ref ((M 0))] [xM M b_isKept b_size b_at b_from b_sort b_fled b_flights b_firstFlight b_bestHarms b_bestRage b_harmed b_raged, xI cy ((M 2)) 39 b_now, xI cy ((M 5)) 250 b_tape, xC cy ((M 6)) 42 b_words] (some (.int (bI res.1))) [xM M b_isKept b_size res.2.2.1 res.2.2.2.1 res.2.2.2.2 b_fled b_flights b_firstFlight b_bestHarms b_bestRage b_harmed b_raged, xI cy ((M 2)) 39 res.2.1, xI cy ((M 5)) 250 b_tape, xC cy ((M 6)) 42 b_words] := by
  refine zk_start zn_X8 (Nat.le_of_ble_eq_true rfl) ?_
  intro p e s m args below meth c A ls Q C hr hQ hw hl
  have C : zCx p m c s args meth cX8_isStatement 5 RX8 G cy tt A := C
  have hx := C.1.1
  have hb := C.1.2.1
  have hl : lv_has ls 5 [(0, .ref ((M 0)))] := hl
  have J90 : ∀ (v4 : Int32) (b_now : Nat → Int32) (b_at : Int32) (b_from : Int32) (b_sort : Int32) (H : Heap) (locs : List Loc) (ls : Array Slot), zf_X8_isStatement_90 b_tape b_size b_words v4 b_now b_at b_from b_sort = some res → zWd G A s.heap H locs [xM M b_isKept b_size b_at b_from b_sort b_fled b_flights b_firstFlight b_bestHarms b_bestRage b_harmed b_raged, xI cy ((M 2)) 39 b_now, xI cy ((M 5)) 250 b_tape, xC cy ((M 6)) 42 b_words] → lv_has ls 5 [(4, .int v4)] → W p l e zr_X8_isStatement s m args below meth c H locs 0 0 Q (F0 m 90 ls []) := by
    intro v4 b_now b_at b_from b_sort H locs ls hf hw hl
    rw [zf_X8_isStatement_90] at hf
    refine lv_iload (pc := 90) hx hb dX8_isStatement_90 (lv_at hl 0 rfl) ?_
    refine lv_iconst (pc := 92) (v := -1) hx hb dX8_isStatement_92 (by decide) ?_
    refine lv_icmp_eq (pc := 93) (tgt := 100) hx hb dX8_isStatement_93 (by decide) (fun q22 => ?_) (fun q22 => ?_)
    · replace hf := if_t q22 hf
      refine lv_iconst (pc := 100) (v := 0) hx hb dX8_isStatement_100 (by decide) ?_
      have hf := Option.some.inj hf
      subst hf
      exact zk_retz (pc := 101) (b := false) (ww := [xM M b_isKept b_size b_at b_from b_sort b_fled b_flights b_firstFlight b_bestHarms b_bestRage b_harmed b_raged, xI cy ((M 2)) 39 b_now, xI cy ((M 5)) 250 b_tape, xC cy ((M 6)) 42 b_words]) C hw hr hQ dX8_isStatement_101
    · replace hf := if_f q22 hf
      refine lv_iconst (pc := 96) (v := 1) hx hb dX8_isStatement_96 (by decide) ?_
      refine lv_goto (pc := 97) (tgt := 101) hx hb dX8_isStatement_97 (by decide) ?_
      have hf := Option.some.inj hf
      subst hf
      exact zk_retz (pc := 101) (b := true) (ww := [xM M b_isKept b_size b_at b_from b_sort b_fled b_flights b_firstFlight b_bestHarms b_bestRage b_harmed b_raged, xI cy ((M 2)) 39 b_now, xI cy ((M 5)) 250 b_tape, xC cy ((M 6)) 42 b_words]) C hw hr hQ dX8_isStatement_101
  have J73 : ∀ (v2 : Int32) (v3 : Int32) (t0 : Int32) (b_now : Nat → Int32) (b_at : Int32) (b_from : Int32) (b_sort : Int32) (H : Heap) (locs : List Loc) (ls : Array Slot), zf_X8_isStatement_73 b_tape b_size b_words v2 v3 t0 b_now b_at b_from b_sort = some res → zWd G A s.heap H locs [xM M b_isKept b_size b_at b_from b_sort b_fled b_flights b_firstFlight b_bestHarms b_bestRage b_harmed b_raged, xI cy ((M 2)) 39 b_now, xI cy ((M 5)) 250 b_tape, xC cy ((M 6)) 42 b_words] → lv_has ls 5 [(0, .ref ((M 0))), (2, .int v2), (3, .int v3)] → W p l e zr_X8_isStatement s m args below meth c H locs 0 0 Q (F0 m 73 ls [.int t0]) := by
    intro v2 v3 t0 b_now b_at b_from b_sort H locs ls hf hw hl
    rw [zf_X8_isStatement_73] at hf
    refine lv_istore (pc := 73) (lv' := [(4, .int t0), (0, .ref ((M 0))), (2, .int v2), (3, .int v3)]) hx hb dX8_isStatement_73 hl (by decide) rfl (fun ls hl => ?_)
    refine lv_iload (pc := 75) hx hb dX8_isStatement_75 (lv_at hl 0 rfl) ?_
    refine lv_iconst (pc := 77) (v := -1) hx hb dX8_isStatement_77 (by decide) ?_
    refine lv_icmp_eq (pc := 78) (tgt := 90) hx hb dX8_isStatement_78 (by decide) (fun q20 => ?_) (fun q20 => ?_)
    · replace hf := if_t q20 hf
      exact J90 t0 b_now b_at b_from b_sort _ _ _ hf hw (lv_sub hl [0] rfl)
    · replace hf := if_f q20 hf
      refine lv_aload_n (pc := 81) hx hb dX8_isStatement_81 rfl (lv_at hl 1 rfl) ?_
      refine lv_iload_n (pc := 82) hx hb dX8_isStatement_82 rfl (lv_at hl 2 rfl) ?_
      refine lv_iload_n (pc := 83) hx hb dX8_isStatement_83 rfl (lv_at hl 3 rfl) ?_
      refine lv_iload (pc := 84) hx hb dX8_isStatement_84 (lv_at hl 0 rfl) ?_
      obtain ⟨u21, u21e, hf⟩ := bd hf
      refine zk_cV (pc := 86) (ci := 8) (q0 := 0) (rest := []) (st1 := [.int u21.1]) (w' := [xM M b_isKept b_size b_at b_from b_sort b_fled b_flights b_firstFlight b_bestHarms b_bestRage b_harmed b_raged, xI cy ((M 2)) 39 u21.2, xI cy ((M 5)) 250 b_tape, xC cy ((M 6)) 42 b_words]) (mk := [none, some (xI cy ((M 2)) 39 u21.2), none, none]) C hw (c_X8_add l G cy tt M b_isKept b_size b_at b_from b_sort b_fled b_flights b_firstFlight b_bestHarms b_bestRage b_harmed b_raged v2 v3 t0 b_now _ u21e) zy_X8_add zm_X8_94 rfl rfl rfl [0, 1] rfl rfl rfl rfl rfl rfl rfl rfl hl.1 ⟨rfl, rfl⟩ ⟨Nat.le_of_ble_eq_true rfl, Nat.le_of_ble_eq_true rfl⟩ rfl (Nat.le_of_ble_eq_true rfl) ⟨Nat.zero_le _, Nat.zero_le _⟩ dX8_isStatement_86 (fun H locs hw => ?_)
      refine lv_pop (pc := 89) hx hb dX8_isStatement_89 rfl ?_
      exact J90 t0 u21.2 b_at b_from b_sort _ _ _ hf hw (lv_sub hl [0] rfl)
  have J56 : ∀ (v2 : Int32) (t0 : Int32) (b_now : Nat → Int32) (b_at : Int32) (b_from : Int32) (b_sort : Int32) (H : Heap) (locs : List Loc) (ls : Array Slot), zf_X8_isStatement_56 b_tape b_size b_words v2 t0 b_now b_at b_from b_sort = some res → zWd G A s.heap H locs [xM M b_isKept b_size b_at b_from b_sort b_fled b_flights b_firstFlight b_bestHarms b_bestRage b_harmed b_raged, xI cy ((M 2)) 39 b_now, xI cy ((M 5)) 250 b_tape, xC cy ((M 6)) 42 b_words] → lv_has ls 5 [(0, .ref ((M 0))), (2, .int v2)] → W p l e zr_X8_isStatement s m args below meth c H locs 0 0 Q (F0 m 56 ls [.int t0]) := by
    intro v2 t0 b_now b_at b_from b_sort H locs ls hf hw hl
    rw [zf_X8_isStatement_56] at hf
    refine lv_istore_n (pc := 56) (lv' := [(3, .int t0), (0, .ref ((M 0))), (2, .int v2)]) hx hb dX8_isStatement_56 rfl hl (by decide) rfl (fun ls hl => ?_)
    refine lv_iload_n (pc := 57) hx hb dX8_isStatement_57 rfl (lv_at hl 0 rfl) ?_
    refine lv_iconst (pc := 58) (v := -1) hx hb dX8_isStatement_58 (by decide) ?_
    refine lv_icmp_ne (pc := 59) (tgt := 66) hx hb dX8_isStatement_59 (by decide) (fun q18 => ?_) (fun q18 => ?_)
    · replace hf := if_f q18 hf
      refine lv_aload_n (pc := 66) hx hb dX8_isStatement_66 rfl (lv_at hl 1 rfl) ?_
      refine lv_iconst (pc := 67) (v := 0) hx hb dX8_isStatement_67 (by decide) ?_
      refine lv_bipush (pc := 68) (v := 40) hx hb dX8_isStatement_68 (by decide) ?_
      obtain ⟨u19, u19e, hf⟩ := bd hf
      refine zk_cV (pc := 70) (ci := 8) (q0 := 0) (rest := []) (st1 := [.int u19.1]) (w' := [xM M b_isKept b_size u19.2.1 u19.2.2.1 u19.2.2.2 b_fled b_flights b_firstFlight b_bestHarms b_bestRage b_harmed b_raged, xI cy ((M 2)) 39 b_now, xI cy ((M 5)) 250 b_tape, xC cy ((M 6)) 42 b_words]) (mk := [some (xM M b_isKept b_size u19.2.1 u19.2.2.1 u19.2.2.2 b_fled b_flights b_firstFlight b_bestHarms b_bestRage b_harmed b_raged), none, none, none]) C hw (c_X8_number l G cy tt M b_isKept b_fled b_flights b_firstFlight b_bestHarms b_bestRage b_harmed b_raged (((0 : Int32))) (((40 : Int32))) b_tape b_size b_at b_from b_sort _ u19e) zy_X8_number zm_X8_139 rfl rfl rfl [0, 2] rfl rfl rfl rfl rfl rfl rfl rfl hl.1 ⟨rfl, rfl⟩ ⟨Nat.le_of_ble_eq_true rfl, Nat.le_of_ble_eq_true rfl⟩ rfl (Nat.le_of_ble_eq_true rfl) ⟨Nat.zero_le _, Nat.zero_le _⟩ dX8_isStatement_70 (fun H locs hw => ?_)
      exact J73 v2 t0 u19.1 b_now u19.2.1 u19.2.2.1 u19.2.2.2 _ _ _ hf hw (lv_sub hl [1, 2, 0] rfl)
    · replace hf := if_t q18 hf
      refine lv_iconst (pc := 62) (v := -1) hx hb dX8_isStatement_62 (by decide) ?_
      refine lv_goto (pc := 63) (tgt := 73) hx hb dX8_isStatement_63 (by decide) ?_
      exact J73 v2 t0 ((-1 : Int32)) b_now b_at b_from b_sort _ _ _ hf hw (lv_sub hl [1, 2, 0] rfl)
  have J152 : ∀ (v3 : Int32) (b_now : Nat → Int32) (b_at : Int32) (b_from : Int32) (b_sort : Int32) (H : Heap) (locs : List Loc) (ls : Array Slot), zf_X8_isStatement_152 b_tape b_size b_words v3 b_now b_at b_from b_sort = some res → zWd G A s.heap H locs [xM M b_isKept b_size b_at b_from b_sort b_fled b_flights b_firstFlight b_bestHarms b_bestRage b_harmed b_raged, xI cy ((M 2)) 39 b_now, xI cy ((M 5)) 250 b_tape, xC cy ((M 6)) 42 b_words] → lv_has ls 5 [(3, .int v3)] → W p l e zr_X8_isStatement s m args below meth c H locs 0 0 Q (F0 m 152 ls []) := by
    intro v3 b_now b_at b_from b_sort H locs ls hf hw hl
    rw [zf_X8_isStatement_152] at hf
    refine lv_iload_n (pc := 152) hx hb dX8_isStatement_152 rfl (lv_at hl 0 rfl) ?_
    refine lv_iconst (pc := 153) (v := -1) hx hb dX8_isStatement_153 (by decide) ?_
    refine lv_icmp_eq (pc := 154) (tgt := 161) hx hb dX8_isStatement_154 (by decide) (fun q25 => ?_) (fun q25 => ?_)
    · replace hf := if_t q25 hf
      refine lv_iconst (pc := 161) (v := 0) hx hb dX8_isStatement_161 (by decide) ?_
      have hf := Option.some.inj hf
      subst hf
      exact zk_retz (pc := 162) (b := false) (ww := [xM M b_isKept b_size b_at b_from b_sort b_fled b_flights b_firstFlight b_bestHarms b_bestRage b_harmed b_raged, xI cy ((M 2)) 39 b_now, xI cy ((M 5)) 250 b_tape, xC cy ((M 6)) 42 b_words]) C hw hr hQ dX8_isStatement_162
    · replace hf := if_f q25 hf
      refine lv_iconst (pc := 157) (v := 1) hx hb dX8_isStatement_157 (by decide) ?_
      refine lv_goto (pc := 158) (tgt := 162) hx hb dX8_isStatement_158 (by decide) ?_
      have hf := Option.some.inj hf
      subst hf
      exact zk_retz (pc := 162) (b := true) (ww := [xM M b_isKept b_size b_at b_from b_sort b_fled b_flights b_firstFlight b_bestHarms b_bestRage b_harmed b_raged, xI cy ((M 2)) 39 b_now, xI cy ((M 5)) 250 b_tape, xC cy ((M 6)) 42 b_words]) C hw hr hQ dX8_isStatement_162
  have J135 : ∀ (v2 : Int32) (t0 : Int32) (b_now : Nat → Int32) (b_at : Int32) (b_from : Int32) (b_sort : Int32) (H : Heap) (locs : List Loc) (ls : Array Slot), zf_X8_isStatement_135 b_tape b_size b_words v2 t0 b_now b_at b_from b_sort = some res → zWd G A s.heap H locs [xM M b_isKept b_size b_at b_from b_sort b_fled b_flights b_firstFlight b_bestHarms b_bestRage b_harmed b_raged, xI cy ((M 2)) 39 b_now, xI cy ((M 5)) 250 b_tape, xC cy ((M 6)) 42 b_words] → lv_has ls 5 [(0, .ref ((M 0))), (2, .int v2)] → W p l e zr_X8_isStatement s m args below meth c H locs 0 0 Q (F0 m 135 ls [.int t0]) := by
    intro v2 t0 b_now b_at b_from b_sort H locs ls hf hw hl
    rw [zf_X8_isStatement_135] at hf
    refine lv_istore_n (pc := 135) (lv' := [(3, .int t0), (0, .ref ((M 0))), (2, .int v2)]) hx hb dX8_isStatement_135 rfl hl (by decide) rfl (fun ls hl => ?_)
    refine lv_iload_n (pc := 136) hx hb dX8_isStatement_136 rfl (lv_at hl 0 rfl) ?_
    refine lv_iconst (pc := 137) (v := -1) hx hb dX8_isStatement_137 (by decide) ?_
    refine lv_icmp_eq (pc := 138) (tgt := 152) hx hb dX8_isStatement_138 (by decide) (fun q23 => ?_) (fun q23 => ?_)
    · replace hf := if_t q23 hf
      exact J152 t0 b_now b_at b_from b_sort _ _ _ hf hw (lv_sub hl [0] rfl)
    · replace hf := if_f q23 hf
      refine lv_aload_n (pc := 141) hx hb dX8_isStatement_141 rfl (lv_at hl 1 rfl) ?_
      refine zk_gt (pc := 142) C hw zl_X8_17 0 rfl rfl dX8_isStatement_142 ?_
      refine lv_iconst (pc := 145) (v := 4) hx hb dX8_isStatement_145 (by decide) ?_
      refine lv_iload_n (pc := 146) hx hb dX8_isStatement_146 rfl (lv_at hl 2 rfl) ?_
      refine lv_imul (pc := 147) hx hb dX8_isStatement_147 ?_
      refine lv_iconst (pc := 148) (v := 2) hx hb dX8_isStatement_148 (by decide) ?_
      refine lv_iadd (pc := 149) hx hb dX8_isStatement_149 ?_
      refine lv_iload_n (pc := 150) hx hb dX8_isStatement_150 rfl (lv_at hl 0 rfl) ?_
      obtain ⟨q24, hf⟩ := ck hf
      refine zk_iast (pc := 151) (w' := [xM M b_isKept b_size b_at b_from b_sort b_fled b_flights b_firstFlight b_bestHarms b_bestRage b_harmed b_raged, xI cy ((M 2)) 39 ((upd b_now (((((4 : Int32) * v2) + (2 : Int32))).toNatClampNeg) t0)), xI cy ((M 5)) 250 b_tape, xC cy ((M 6)) 42 b_words]) C hw 1 rfl q24 rfl dX8_isStatement_151 (fun H locs hw => ?_)
      exact J152 t0 ((upd b_now (((((4 : Int32) * v2) + (2 : Int32))).toNatClampNeg) t0)) b_at b_from b_sort _ _ _ hf hw (lv_sub hl [0] rfl)
  have J224 : ∀ (v2 : Int32) (b_now : Nat → Int32) (b_at : Int32) (b_from : Int32) (b_sort : Int32) (H : Heap) (locs : List Loc) (ls : Array Slot), zf_X8_isStatement_224 b_tape b_size b_words v2 b_now b_at b_from b_sort = some res → zWd G A s.heap H locs [xM M b_isKept b_size b_at b_from b_sort b_fled b_flights b_firstFlight b_bestHarms b_bestRage b_harmed b_raged, xI cy ((M 2)) 39 b_now, xI cy ((M 5)) 250 b_tape, xC cy ((M 6)) 42 b_words] → lv_has ls 5 [(2, .int v2)] → W p l e zr_X8_isStatement s m args below meth c H locs 0 0 Q (F0 m 224 ls []) := by
    intro v2 b_now b_at b_from b_sort H locs ls hf hw hl
    rw [zf_X8_isStatement_224] at hf
    refine lv_iload_n (pc := 224) hx hb dX8_isStatement_224 rfl (lv_at hl 0 rfl) ?_
    refine lv_iconst (pc := 225) (v := -1) hx hb dX8_isStatement_225 (by decide) ?_
    refine lv_icmp_eq (pc := 226) (tgt := 233) hx hb dX8_isStatement_226 (by decide) (fun q31 => ?_) (fun q31 => ?_)
    · replace hf := if_t q31 hf
      refine lv_iconst (pc := 233) (v := 0) hx hb dX8_isStatement_233 (by decide) ?_
      have hf := Option.some.inj hf
      subst hf
      exact zk_retz (pc := 234) (b := false) (ww := [xM M b_isKept b_size b_at b_from b_sort b_fled b_flights b_firstFlight b_bestHarms b_bestRage b_harmed b_raged, xI cy ((M 2)) 39 b_now, xI cy ((M 5)) 250 b_tape, xC cy ((M 6)) 42 b_words]) C hw hr hQ dX8_isStatement_234
    · replace hf := if_f q31 hf
      refine lv_iconst (pc := 229) (v := 1) hx hb dX8_isStatement_229 (by decide) ?_
      refine lv_goto (pc := 230) (tgt := 234) hx hb dX8_isStatement_230 (by decide) ?_
      have hf := Option.some.inj hf
      subst hf
      exact zk_retz (pc := 234) (b := true) (ww := [xM M b_isKept b_size b_at b_from b_sort b_fled b_flights b_firstFlight b_bestHarms b_bestRage b_harmed b_raged, xI cy ((M 2)) 39 b_now, xI cy ((M 5)) 250 b_tape, xC cy ((M 6)) 42 b_words]) C hw hr hQ dX8_isStatement_234
  have J203 : ∀ (v1 : Int32) (t0 : Int32) (t1 : Bool) (b_now : Nat → Int32) (b_at : Int32) (b_from : Int32) (b_sort : Int32) (H : Heap) (locs : List Loc) (ls : Array Slot), zf_X8_isStatement_203 b_tape b_size b_words v1 t0 t1 b_now b_at b_from b_sort = some res → zWd G A s.heap H locs [xM M b_isKept b_size b_at b_from b_sort b_fled b_flights b_firstFlight b_bestHarms b_bestRage b_harmed b_raged, xI cy ((M 2)) 39 b_now, xI cy ((M 5)) 250 b_tape, xC cy ((M 6)) 42 b_words] → lv_has ls 5 [(0, .ref ((M 0))), (1, .int v1)] → W p l e zr_X8_isStatement s m args below meth c H locs 0 0 Q (F0 m 203 ls [.int t0, .int (bI t1), .ref ((M 0))]) := by
    intro v1 t0 t1 b_now b_at b_from b_sort H locs ls hf hw hl
    rw [zf_X8_isStatement_203] at hf
    obtain ⟨u28, u28e, hf⟩ := bd hf
    refine zk_cV (pc := 203) (ci := 8) (q0 := 0) (rest := []) (st1 := [.int u28.1]) (w' := [xM M b_isKept b_size u28.2.1 u28.2.2.1 u28.2.2.2 b_fled b_flights b_firstFlight b_bestHarms b_bestRage b_harmed b_raged, xI cy ((M 2)) 39 b_now, xI cy ((M 5)) 250 b_tape, xC cy ((M 6)) 42 b_words]) (mk := [some (xM M b_isKept b_size u28.2.1 u28.2.2.1 u28.2.2.2 b_fled b_flights b_firstFlight b_bestHarms b_bestRage b_harmed b_raged), none, none, none]) C hw (c_X8_number l G cy tt M b_isKept b_fled b_flights b_firstFlight b_bestHarms b_bestRage b_harmed b_raged (((bI t1))) t0 b_tape b_size b_at b_from b_sort _ u28e) zy_X8_number zm_X8_139 rfl rfl rfl [0, 2] rfl rfl rfl rfl rfl rfl rfl rfl hl.1 ⟨rfl, rfl⟩ ⟨Nat.le_of_ble_eq_true rfl, Nat.le_of_ble_eq_true rfl⟩ rfl (Nat.le_of_ble_eq_true rfl) ⟨Nat.zero_le _, Nat.zero_le _⟩ dX8_isStatement_203 (fun H locs hw => ?_)
    refine lv_istore_n (pc := 206) (lv' := [(2, .int u28.1), (0, .ref ((M 0))), (1, .int v1)]) hx hb dX8_isStatement_206 rfl hl (by decide) rfl (fun ls hl => ?_)
    refine lv_iload_n (pc := 207) hx hb dX8_isStatement_207 rfl (lv_at hl 0 rfl) ?_
    refine lv_iconst (pc := 208) (v := -1) hx hb dX8_isStatement_208 (by decide) ?_
    refine lv_icmp_eq (pc := 209) (tgt := 224) hx hb dX8_isStatement_209 (by decide) (fun q29 => ?_) (fun q29 => ?_)
    · replace hf := if_t q29 hf
      exact J224 u28.1 b_now u28.2.1 u28.2.2.1 u28.2.2.2 _ _ _ hf hw (lv_sub hl [0] rfl)
    · replace hf := if_f q29 hf
      refine lv_aload_n (pc := 212) hx hb dX8_isStatement_212 rfl (lv_at hl 1 rfl) ?_
      refine zk_gt (pc := 213) C hw zl_X8_17 0 rfl rfl dX8_isStatement_213 ?_
      refine lv_bipush (pc := 216) (v := 33) hx hb dX8_isStatement_216 (by decide) ?_
      refine lv_iload_n (pc := 218) hx hb dX8_isStatement_218 rfl (lv_at hl 2 rfl) ?_
      refine lv_iadd (pc := 219) hx hb dX8_isStatement_219 ?_
      refine lv_iconst (pc := 220) (v := 2) hx hb dX8_isStatement_220 (by decide) ?_
      refine lv_isub (pc := 221) hx hb dX8_isStatement_221 ?_
      refine lv_iload_n (pc := 222) hx hb dX8_isStatement_222 rfl (lv_at hl 0 rfl) ?_
      obtain ⟨q30, hf⟩ := ck hf
      refine zk_iast (pc := 223) (w' := [xM M b_isKept b_size u28.2.1 u28.2.2.1 u28.2.2.2 b_fled b_flights b_firstFlight b_bestHarms b_bestRage b_harmed b_raged, xI cy ((M 2)) 39 ((upd b_now (((((33 : Int32) + v1) - (2 : Int32))).toNatClampNeg) u28.1)), xI cy ((M 5)) 250 b_tape, xC cy ((M 6)) 42 b_words]) C hw 1 rfl q30 rfl dX8_isStatement_223 (fun H locs hw => ?_)
      exact J224 u28.1 ((upd b_now (((((33 : Int32) + v1) - (2 : Int32))).toNatClampNeg) u28.1)) u28.2.1 u28.2.2.1 u28.2.2.2 _ _ _ hf hw (lv_sub hl [0] rfl)
  have J179 : ∀ (v1 : Int32) (t0 : Bool) (b_now : Nat → Int32) (b_at : Int32) (b_from : Int32) (b_sort : Int32) (H : Heap) (locs : List Loc) (ls : Array Slot), zf_X8_isStatement_179 b_tape b_size b_words v1 t0 b_now b_at b_from b_sort = some res → zWd G A s.heap H locs [xM M b_isKept b_size b_at b_from b_sort b_fled b_flights b_firstFlight b_bestHarms b_bestRage b_harmed b_raged, xI cy ((M 2)) 39 b_now, xI cy ((M 5)) 250 b_tape, xC cy ((M 6)) 42 b_words] → lv_has ls 5 [(0, .ref ((M 0))), (1, .int v1)] → W p l e zr_X8_isStatement s m args below meth c H locs 0 0 Q (F0 m 179 ls [.int (bI t0), .ref ((M 0))]) := by
    intro v1 t0 b_now b_at b_from b_sort H locs ls hf hw hl
    rw [zf_X8_isStatement_179] at hf
    refine lv_iload_n (pc := 179) hx hb dX8_isStatement_179 rfl (lv_at hl 1 rfl) ?_
    refine lv_iconst (pc := 180) (v := 4) hx hb dX8_isStatement_180 (by decide) ?_
    refine lv_icmp_ne (pc := 181) (tgt := 189) hx hb dX8_isStatement_181 (by decide) (fun q26 => ?_) (fun q26 => ?_)
    · replace hf := if_f q26 hf
      refine lv_iload_n (pc := 189) hx hb dX8_isStatement_189 rfl (lv_at hl 1 rfl) ?_
      refine lv_bipush (pc := 190) (v := 6) hx hb dX8_isStatement_190 (by decide) ?_
      refine lv_icmp_ne (pc := 192) (tgt := 201) hx hb dX8_isStatement_192 (by decide) (fun q27 => ?_) (fun q27 => ?_)
      · replace hf := if_f q27 hf
        refine lv_bipush (pc := 201) (v := 99) hx hb dX8_isStatement_201 (by decide) ?_
        exact J203 v1 ((99 : Int32)) t0 b_now b_at b_from b_sort _ _ _ hf hw (lv_sub hl [0, 1] rfl)
      · replace hf := if_t q27 hf
        refine lv_sipush (pc := 195) (v := 999) hx hb dX8_isStatement_195 (by decide) ?_
        refine lv_goto (pc := 198) (tgt := 203) hx hb dX8_isStatement_198 (by decide) ?_
        exact J203 v1 ((999 : Int32)) t0 b_now b_at b_from b_sort _ _ _ hf hw (lv_sub hl [0, 1] rfl)
    · replace hf := if_t q26 hf
      refine lv_bipush (pc := 184) (v := 9) hx hb dX8_isStatement_184 (by decide) ?_
      refine lv_goto (pc := 186) (tgt := 203) hx hb dX8_isStatement_186 (by decide) ?_
      exact J203 v1 ((9 : Int32)) t0 b_now b_at b_from b_sort _ _ _ hf hw (lv_sub hl [0, 1] rfl)
  have J174 : ∀ (v1 : Int32) (b_now : Nat → Int32) (b_at : Int32) (b_from : Int32) (b_sort : Int32) (H : Heap) (locs : List Loc) (ls : Array Slot), zf_X8_isStatement_174 b_tape b_size b_words v1 b_now b_at b_from b_sort = some res → zWd G A s.heap H locs [xM M b_isKept b_size b_at b_from b_sort b_fled b_flights b_firstFlight b_bestHarms b_bestRage b_harmed b_raged, xI cy ((M 2)) 39 b_now, xI cy ((M 5)) 250 b_tape, xC cy ((M 6)) 42 b_words] → lv_has ls 5 [(0, .ref ((M 0))), (1, .int v1)] → W p l e zr_X8_isStatement s m args below meth c H locs 0 0 Q (F0 m 174 ls [.ref ((M 0))]) := by
    intro v1 b_now b_at b_from b_sort H locs ls hf hw hl
    rw [zf_X8_isStatement_174] at hf
    refine lv_iconst (pc := 174) (v := 1) hx hb dX8_isStatement_174 (by decide) ?_
    refine lv_goto (pc := 175) (tgt := 179) hx hb dX8_isStatement_175 (by decide) ?_
    exact J179 v1 true b_now b_at b_from b_sort _ _ _ hf hw (lv_sub hl [0, 1] rfl)
  have J29 : ∀ (v1 : Int32) (b_now : Nat → Int32) (b_at : Int32) (b_from : Int32) (b_sort : Int32) (H : Heap) (locs : List Loc) (ls : Array Slot), zf_X8_isStatement_29 b_tape b_size b_words v1 b_now b_at b_from b_sort = some res → zWd G A s.heap H locs [xM M b_isKept b_size b_at b_from b_sort b_fled b_flights b_firstFlight b_bestHarms b_bestRage b_harmed b_raged, xI cy ((M 2)) 39 b_now, xI cy ((M 5)) 250 b_tape, xC cy ((M 6)) 42 b_words] → lv_has ls 5 [(0, .ref ((M 0))), (1, .int v1)] → W p l e zr_X8_isStatement s m args below meth c H locs 0 0 Q (F0 m 29 ls []) := by
    intro v1 b_now b_at b_from b_sort H locs ls hf hw hl
    rw [zf_X8_isStatement_29] at hf
    refine lv_iload_n (pc := 29) hx hb dX8_isStatement_29 rfl (lv_at hl 1 rfl) ?_
    refine lv_if_ne (pc := 30) (tgt := 102) hx hb dX8_isStatement_30 (by decide) (fun q7 => ?_) (fun q7 => ?_)
    · replace hf := if_f q7 hf
      refine lv_iload_n (pc := 102) hx hb dX8_isStatement_102 rfl (lv_at hl 1 rfl) ?_
      refine lv_iconst (pc := 103) (v := 1) hx hb dX8_isStatement_103 (by decide) ?_
      refine lv_icmp_ne (pc := 104) (tgt := 163) hx hb dX8_isStatement_104 (by decide) (fun q8 => ?_) (fun q8 => ?_)
      · replace hf := if_f q8 hf
        refine lv_aload_n (pc := 163) hx hb dX8_isStatement_163 rfl (lv_at hl 0 rfl) ?_
        refine lv_iload_n (pc := 164) hx hb dX8_isStatement_164 rfl (lv_at hl 1 rfl) ?_
        refine lv_iconst (pc := 165) (v := 4) hx hb dX8_isStatement_165 (by decide) ?_
        refine lv_icmp_eq (pc := 166) (tgt := 174) hx hb dX8_isStatement_166 (by decide) (fun q9 => ?_) (fun q9 => ?_)
        · replace hf := if_t q9 hf
          exact J174 v1 b_now b_at b_from b_sort _ _ _ hf hw (lv_sub hl [0, 1] rfl)
        · replace hf := if_f q9 hf
          refine lv_iload_n (pc := 169) hx hb dX8_isStatement_169 rfl (lv_at hl 1 rfl) ?_
          refine lv_iconst (pc := 170) (v := 5) hx hb dX8_isStatement_170 (by decide) ?_
          refine lv_icmp_ne (pc := 171) (tgt := 178) hx hb dX8_isStatement_171 (by decide) (fun q10 => ?_) (fun q10 => ?_)
          · replace hf := if_f q10 hf
            refine lv_iconst (pc := 178) (v := 0) hx hb dX8_isStatement_178 (by decide) ?_
            exact J179 v1 false b_now b_at b_from b_sort _ _ _ hf hw (lv_sub hl [0, 1] rfl)
          · replace hf := if_t q10 hf
            exact J174 v1 b_now b_at b_from b_sort _ _ _ hf hw (lv_sub hl [0, 1] rfl)
      · replace hf := if_t q8 hf
        refine lv_aload_n (pc := 107) hx hb dX8_isStatement_107 rfl (lv_at hl 0 rfl) ?_
        refine lv_iconst (pc := 108) (v := 0) hx hb dX8_isStatement_108 (by decide) ?_
        refine lv_aload_n (pc := 109) hx hb dX8_isStatement_109 rfl (lv_at hl 0 rfl) ?_
        obtain ⟨u11, u11e, hf⟩ := bd hf
        refine zk_cV (pc := 110) (ci := 8) (q0 := 0) (rest := [.int ((0 : Int32)), .ref ((M 0))]) (st1 := [.int u11, .int ((0 : Int32)), .ref ((M 0))]) (w' := [xM M b_isKept b_size b_at b_from b_sort b_fled b_flights b_firstFlight b_bestHarms b_bestRage b_harmed b_raged, xI cy ((M 2)) 39 b_now, xI cy ((M 5)) 250 b_tape, xC cy ((M 6)) 42 b_words]) (mk := [none, none, none, none]) C hw (c_X8_many l G cy tt M b_isKept b_size b_at b_from b_sort b_fled b_flights b_firstFlight b_bestHarms b_bestRage b_harmed b_raged b_now _ u11e) zy_X8_many zm_X8_80 rfl rfl rfl [0, 1] rfl rfl rfl rfl rfl rfl rfl rfl hl.1 ⟨rfl, rfl⟩ ⟨Nat.le_of_ble_eq_true rfl, Nat.le_of_ble_eq_true rfl⟩ rfl (Nat.le_of_ble_eq_true rfl) ⟨Nat.zero_le _, Nat.zero_le _⟩ dX8_isStatement_110 (fun H locs hw => ?_)
        refine lv_iconst (pc := 113) (v := 1) hx hb dX8_isStatement_113 (by decide) ?_
        refine lv_isub (pc := 114) hx hb dX8_isStatement_114 ?_
        obtain ⟨u12, u12e, hf⟩ := bd hf
        refine zk_cV (pc := 115) (ci := 8) (q0 := 0) (rest := []) (st1 := [.int u12.1]) (w' := [xM M b_isKept b_size u12.2.1 u12.2.2.1 u12.2.2.2 b_fled b_flights b_firstFlight b_bestHarms b_bestRage b_harmed b_raged, xI cy ((M 2)) 39 b_now, xI cy ((M 5)) 250 b_tape, xC cy ((M 6)) 42 b_words]) (mk := [some (xM M b_isKept b_size u12.2.1 u12.2.2.1 u12.2.2.2 b_fled b_flights b_firstFlight b_bestHarms b_bestRage b_harmed b_raged), none, none, none]) C hw (c_X8_number l G cy tt M b_isKept b_fled b_flights b_firstFlight b_bestHarms b_bestRage b_harmed b_raged (((0 : Int32))) (((u11 - (1 : Int32)))) b_tape b_size b_at b_from b_sort _ u12e) zy_X8_number zm_X8_139 rfl rfl rfl [0, 2] rfl rfl rfl rfl rfl rfl rfl rfl hl.1 ⟨rfl, rfl⟩ ⟨Nat.le_of_ble_eq_true rfl, Nat.le_of_ble_eq_true rfl⟩ rfl (Nat.le_of_ble_eq_true rfl) ⟨Nat.zero_le _, Nat.zero_le _⟩ dX8_isStatement_115 (fun H locs hw => ?_)
        refine lv_istore_n (pc := 118) (lv' := [(2, .int u12.1), (0, .ref ((M 0))), (1, .int v1)]) hx hb dX8_isStatement_118 rfl hl (by decide) rfl (fun ls hl => ?_)
        refine lv_iload_n (pc := 119) hx hb dX8_isStatement_119 rfl (lv_at hl 0 rfl) ?_
        refine lv_iconst (pc := 120) (v := -1) hx hb dX8_isStatement_120 (by decide) ?_
        refine lv_icmp_ne (pc := 121) (tgt := 128) hx hb dX8_isStatement_121 (by decide) (fun q13 => ?_) (fun q13 => ?_)
        · replace hf := if_f q13 hf
          refine lv_aload_n (pc := 128) hx hb dX8_isStatement_128 rfl (lv_at hl 1 rfl) ?_
          refine lv_iconst (pc := 129) (v := 0) hx hb dX8_isStatement_129 (by decide) ?_
          refine lv_bipush (pc := 130) (v := 40) hx hb dX8_isStatement_130 (by decide) ?_
          obtain ⟨u14, u14e, hf⟩ := bd hf
          refine zk_cV (pc := 132) (ci := 8) (q0 := 0) (rest := []) (st1 := [.int u14.1]) (w' := [xM M b_isKept b_size u14.2.1 u14.2.2.1 u14.2.2.2 b_fled b_flights b_firstFlight b_bestHarms b_bestRage b_harmed b_raged, xI cy ((M 2)) 39 b_now, xI cy ((M 5)) 250 b_tape, xC cy ((M 6)) 42 b_words]) (mk := [some (xM M b_isKept b_size u14.2.1 u14.2.2.1 u14.2.2.2 b_fled b_flights b_firstFlight b_bestHarms b_bestRage b_harmed b_raged), none, none, none]) C hw (c_X8_number l G cy tt M b_isKept b_fled b_flights b_firstFlight b_bestHarms b_bestRage b_harmed b_raged (((0 : Int32))) (((40 : Int32))) b_tape b_size u12.2.1 u12.2.2.1 u12.2.2.2 _ u14e) zy_X8_number zm_X8_139 rfl rfl rfl [0, 2] rfl rfl rfl rfl rfl rfl rfl rfl hl.1 ⟨rfl, rfl⟩ ⟨Nat.le_of_ble_eq_true rfl, Nat.le_of_ble_eq_true rfl⟩ rfl (Nat.le_of_ble_eq_true rfl) ⟨Nat.zero_le _, Nat.zero_le _⟩ dX8_isStatement_132 (fun H locs hw => ?_)
          exact J135 u12.1 u14.1 b_now u14.2.1 u14.2.2.1 u14.2.2.2 _ _ _ hf hw (lv_sub hl [1, 0] rfl)
        · replace hf := if_t q13 hf
          refine lv_iconst (pc := 124) (v := -1) hx hb dX8_isStatement_124 (by decide) ?_
          refine lv_goto (pc := 125) (tgt := 135) hx hb dX8_isStatement_125 (by decide) ?_
          exact J135 u12.1 ((-1 : Int32)) b_now u12.2.1 u12.2.2.1 u12.2.2.2 _ _ _ hf hw (lv_sub hl [1, 0] rfl)
    · replace hf := if_t q7 hf
      refine lv_aload_n (pc := 33) hx hb dX8_isStatement_33 rfl (lv_at hl 0 rfl) ?_
      refine lv_iconst (pc := 34) (v := 0) hx hb dX8_isStatement_34 (by decide) ?_
      refine lv_iconst (pc := 35) (v := 5) hx hb dX8_isStatement_35 (by decide) ?_
      obtain ⟨u15, u15e, hf⟩ := bd hf
      refine zk_cV (pc := 36) (ci := 8) (q0 := 0) (rest := []) (st1 := [.int u15.1]) (w' := [xM M b_isKept b_size u15.2.1 u15.2.2.1 u15.2.2.2 b_fled b_flights b_firstFlight b_bestHarms b_bestRage b_harmed b_raged, xI cy ((M 2)) 39 b_now, xI cy ((M 5)) 250 b_tape, xC cy ((M 6)) 42 b_words]) (mk := [some (xM M b_isKept b_size u15.2.1 u15.2.2.1 u15.2.2.2 b_fled b_flights b_firstFlight b_bestHarms b_bestRage b_harmed b_raged), none, none, none]) C hw (c_X8_number l G cy tt M b_isKept b_fled b_flights b_firstFlight b_bestHarms b_bestRage b_harmed b_raged (((0 : Int32))) (((5 : Int32))) b_tape b_size b_at b_from b_sort _ u15e) zy_X8_number zm_X8_139 rfl rfl rfl [0, 2] rfl rfl rfl rfl rfl rfl rfl rfl hl.1 ⟨rfl, rfl⟩ ⟨Nat.le_of_ble_eq_true rfl, Nat.le_of_ble_eq_true rfl⟩ rfl (Nat.le_of_ble_eq_true rfl) ⟨Nat.zero_le _, Nat.zero_le _⟩ dX8_isStatement_36 (fun H locs hw => ?_)
      refine lv_istore_n (pc := 39) (lv' := [(2, .int u15.1), (0, .ref ((M 0))), (1, .int v1)]) hx hb dX8_isStatement_39 rfl hl (by decide) rfl (fun ls hl => ?_)
      refine lv_iload_n (pc := 40) hx hb dX8_isStatement_40 rfl (lv_at hl 0 rfl) ?_
      refine lv_iconst (pc := 41) (v := -1) hx hb dX8_isStatement_41 (by decide) ?_
      refine lv_icmp_ne (pc := 42) (tgt := 49) hx hb dX8_isStatement_42 (by decide) (fun q16 => ?_) (fun q16 => ?_)
      · replace hf := if_f q16 hf
        refine lv_aload_n (pc := 49) hx hb dX8_isStatement_49 rfl (lv_at hl 1 rfl) ?_
        refine lv_iconst (pc := 50) (v := 0) hx hb dX8_isStatement_50 (by decide) ?_
        refine lv_bipush (pc := 51) (v := 9) hx hb dX8_isStatement_51 (by decide) ?_
        obtain ⟨u17, u17e, hf⟩ := bd hf
        refine zk_cV (pc := 53) (ci := 8) (q0 := 0) (rest := []) (st1 := [.int u17.1]) (w' := [xM M b_isKept b_size u17.2.1 u17.2.2.1 u17.2.2.2 b_fled b_flights b_firstFlight b_bestHarms b_bestRage b_harmed b_raged, xI cy ((M 2)) 39 b_now, xI cy ((M 5)) 250 b_tape, xC cy ((M 6)) 42 b_words]) (mk := [some (xM M b_isKept b_size u17.2.1 u17.2.2.1 u17.2.2.2 b_fled b_flights b_firstFlight b_bestHarms b_bestRage b_harmed b_raged), none, none, none]) C hw (c_X8_number l G cy tt M b_isKept b_fled b_flights b_firstFlight b_bestHarms b_bestRage b_harmed b_raged (((0 : Int32))) (((9 : Int32))) b_tape b_size u15.2.1 u15.2.2.1 u15.2.2.2 _ u17e) zy_X8_number zm_X8_139 rfl rfl rfl [0, 2] rfl rfl rfl rfl rfl rfl rfl rfl hl.1 ⟨rfl, rfl⟩ ⟨Nat.le_of_ble_eq_true rfl, Nat.le_of_ble_eq_true rfl⟩ rfl (Nat.le_of_ble_eq_true rfl) ⟨Nat.zero_le _, Nat.zero_le _⟩ dX8_isStatement_53 (fun H locs hw => ?_)
        exact J56 u15.1 u17.1 b_now u17.2.1 u17.2.2.1 u17.2.2.2 _ _ _ hf hw (lv_sub hl [1, 0] rfl)
      · replace hf := if_t q16 hf
        refine lv_iconst (pc := 45) (v := -1) hx hb dX8_isStatement_45 (by decide) ?_
        refine lv_goto (pc := 46) (tgt := 56) hx hb dX8_isStatement_46 (by decide) ?_
        exact J56 u15.1 ((-1 : Int32)) b_now u15.2.1 u15.2.2.1 u15.2.2.2 _ _ _ hf hw (lv_sub hl [1, 0] rfl)
  rw [zf_X8_isStatement] at hf
  refine lv_aload_n (pc := 0) hx hb dX8_isStatement_0 rfl (lv_at hl 0 rfl) ?_
  obtain ⟨u1, u1e, hf⟩ := bd hf
  refine zk_cV (pc := 1) (ci := 8) (q0 := 0) (rest := []) (st1 := []) (w' := [xM M b_isKept b_size u1.1 u1.2.1 u1.2.2 b_fled b_flights b_firstFlight b_bestHarms b_bestRage b_harmed b_raged, xI cy ((M 2)) 39 b_now, xI cy ((M 5)) 250 b_tape, xC cy ((M 6)) 42 b_words]) (mk := [some (xM M b_isKept b_size u1.1 u1.2.1 u1.2.2 b_fled b_flights b_firstFlight b_bestHarms b_bestRage b_harmed b_raged), none, none, none]) C hw (c_X8_next l G cy tt M b_isKept b_fled b_flights b_firstFlight b_bestHarms b_bestRage b_harmed b_raged b_tape b_size b_at b_from b_sort _ u1e) zy_X8_next zm_X8_133 rfl rfl rfl [0, 2] rfl rfl rfl rfl rfl rfl rfl rfl hl.1 ⟨rfl, rfl⟩ ⟨Nat.le_of_ble_eq_true rfl, Nat.le_of_ble_eq_true rfl⟩ rfl (Nat.le_of_ble_eq_true rfl) ⟨Nat.zero_le _, Nat.zero_le _⟩ dX8_isStatement_1 (fun H locs hw => ?_)
  refine lv_aload_n (pc := 4) hx hb dX8_isStatement_4 rfl (lv_at hl 0 rfl) ?_
  obtain ⟨u2, u2e, hf⟩ := bd hf
  refine zk_cV (pc := 5) (ci := 8) (q0 := 0) (rest := []) (st1 := [.int u2]) (w' := [xM M b_isKept b_size u1.1 u1.2.1 u1.2.2 b_fled b_flights b_firstFlight b_bestHarms b_bestRage b_harmed b_raged, xI cy ((M 2)) 39 b_now, xI cy ((M 5)) 250 b_tape, xC cy ((M 6)) 42 b_words]) (mk := [none, none, none, none]) C hw (c_X8_word l G cy tt M b_isKept b_size b_fled b_flights b_firstFlight b_bestHarms b_bestRage b_harmed b_raged b_tape u1.1 u1.2.1 u1.2.2 b_words _ u2e) zy_X8_word zm_X8_136 rfl rfl rfl [0, 2, 3] rfl rfl rfl rfl rfl rfl rfl rfl hl.1 ⟨rfl, rfl⟩ ⟨Nat.le_of_ble_eq_true rfl, Nat.le_of_ble_eq_true rfl⟩ rfl (Nat.le_of_ble_eq_true rfl) ⟨Nat.zero_le _, Nat.zero_le _⟩ dX8_isStatement_5 (fun H locs hw => ?_)
  refine lv_istore_n (pc := 8) (lv' := [(1, .int u2), (0, .ref ((M 0)))]) hx hb dX8_isStatement_8 rfl hl (by decide) rfl (fun ls hl => ?_)
  refine lv_iload_n (pc := 9) hx hb dX8_isStatement_9 rfl (lv_at hl 0 rfl) ?_
  refine lv_iconst (pc := 10) (v := -1) hx hb dX8_isStatement_10 (by decide) ?_
  refine lv_icmp_eq (pc := 11) (tgt := 27) hx hb dX8_isStatement_11 (by decide) (fun q3 => ?_) (fun q3 => ?_)
  · replace hf := if_t q3 hf
    refine lv_iconst (pc := 27) (v := 0) hx hb dX8_isStatement_27 (by decide) ?_
    have hf := Option.some.inj hf
    subst hf
    exact zk_retz (pc := 28) (b := false) (ww := [xM M b_isKept b_size u1.1 u1.2.1 u1.2.2 b_fled b_flights b_firstFlight b_bestHarms b_bestRage b_harmed b_raged, xI cy ((M 2)) 39 b_now, xI cy ((M 5)) 250 b_tape, xC cy ((M 6)) 42 b_words]) C hw hr hQ dX8_isStatement_28
  · replace hf := if_f q3 hf
    refine lv_iload_n (pc := 14) hx hb dX8_isStatement_14 rfl (lv_at hl 0 rfl) ?_
    refine lv_if_ne (pc := 15) (tgt := 29) hx hb dX8_isStatement_15 (by decide) (fun q4 => ?_) (fun q4 => ?_)
    · replace hf := if_f q4 hf
      exact J29 u2 b_now u1.1 u1.2.1 u1.2.2 _ _ _ hf hw (lv_sub hl [1, 0] rfl)
    · replace hf := if_t q4 hf
      refine lv_aload_n (pc := 18) hx hb dX8_isStatement_18 rfl (lv_at hl 1 rfl) ?_
      obtain ⟨u5, u5e, hf⟩ := bd hf
      refine zk_cV (pc := 19) (ci := 8) (q0 := 0) (rest := []) (st1 := [.int u5]) (w' := [xM M b_isKept b_size u1.1 u1.2.1 u1.2.2 b_fled b_flights b_firstFlight b_bestHarms b_bestRage b_harmed b_raged, xI cy ((M 2)) 39 b_now, xI cy ((M 5)) 250 b_tape, xC cy ((M 6)) 42 b_words]) (mk := [none, none, none, none]) C hw (c_X8_many l G cy tt M b_isKept b_size u1.1 u1.2.1 u1.2.2 b_fled b_flights b_firstFlight b_bestHarms b_bestRage b_harmed b_raged b_now _ u5e) zy_X8_many zm_X8_80 rfl rfl rfl [0, 1] rfl rfl rfl rfl rfl rfl rfl rfl hl.1 ⟨rfl, rfl⟩ ⟨Nat.le_of_ble_eq_true rfl, Nat.le_of_ble_eq_true rfl⟩ rfl (Nat.le_of_ble_eq_true rfl) ⟨Nat.zero_le _, Nat.zero_le _⟩ dX8_isStatement_19 (fun H locs hw => ?_)
      refine lv_bipush (pc := 22) (v := 8) hx hb dX8_isStatement_22 (by decide) ?_
      refine lv_icmp_ne (pc := 24) (tgt := 29) hx hb dX8_isStatement_24 (by decide) (fun q6 => ?_) (fun q6 => ?_)
      · replace hf := if_f q6 hf
        exact J29 u2 b_now u1.1 u1.2.1 u1.2.2 _ _ _ hf hw (lv_sub hl [1, 0] rfl)
      · replace hf := if_t q6 hf
        refine lv_iconst (pc := 27) (v := 0) hx hb dX8_isStatement_27 (by decide) ?_
        have hf := Option.some.inj hf
        subst hf
        exact zk_retz (pc := 28) (b := false) (ww := [xM M b_isKept b_size u1.1 u1.2.1 u1.2.2 b_fled b_flights b_firstFlight b_bestHarms b_bestRage b_harmed b_raged, xI cy ((M 2)) 39 b_now, xI cy ((M 5)) 250 b_tape, xC cy ((M 6)) 42 b_words]) C hw hr hQ dX8_isStatement_28
def zf_X8_house_62 (b_tape : Nat → Int32) (b_words : Nat → Int32) (k17 : Int32 → Bool → (Nat → Int32) → (Nat → Int32) → (Nat → Int32) → Int32 → Int32 → Int32 → Int32 → Option (Int32 × (Nat → Int32) × (Nat → Int32) × (Nat → Int32) × Int32 × Int32 × Int32 × Int32)) (v1 : Int32) (t0 : Bool) (b_refused : Nat → Int32) (b_now : Nat → Int32) (b_minds : Nat → Int32) (b_size : Int32) (b_at : Int32) (b_from : Int32) (b_sort : Int32) : Option (Int32 × (Nat → Int32) × (Nat → Int32) × (Nat → Int32) × Int32 × Int32 × Int32 × Int32) := k17 v1 t0 b_refused b_now b_minds b_size b_at b_from b_sort
def zf_X8_house_61 (b_tape : Nat → Int32) (b_words : Nat → Int32) (k17 : Int32 → Bool → (Nat → Int32) → (Nat → Int32) → (Nat → Int32) → Int32 → Int32 → Int32 → Int32 → Option (Int32 × (Nat → Int32) × (Nat → Int32) × (Nat → Int32) × Int32 × Int32 × Int32 × Int32)) (v1 : Int32) (b_refused : Nat → Int32) (b_now : Nat → Int32) (b_minds : Nat → Int32) (b_size : Int32) (b_at : Int32) (b_from : Int32) (b_sort : Int32) : Option (Int32 × (Nat → Int32) × (Nat → Int32) × (Nat → Int32) × Int32 × Int32 × Int32 × Int32) := zf_X8_house_62 b_tape b_words k17 v1 false b_refused b_now b_minds b_size b_at b_from b_sort
def zf_X8_house_17 (b_tape : Nat → Int32) (b_words : Nat → Int32) : Nat → Int32 → Bool → (Nat → Int32) → (Nat → Int32) → (Nat → Int32) → Int32 → Int32 → Int32 → Int32 → Option (Int32 × (Nat → Int32) × (Nat → Int32) × (Nat → Int32) × Int32 × Int32 × Int32 × Int32)
  | 0, _, _, _, _, _, _, _, _, _ => none
  | n + 1, v1, v2, b_refused, b_now, b_minds, b_size, b_at, b_from, b_sort => (if v2 then (Option.bind (zf_X8_next b_tape b_size b_at b_from b_sort) (fun u6 => (if u6.2.2 = 0 then some ((v1 + 1), b_refused, b_now, b_minds, (0 : Int32), u6.1, u6.2.1, u6.2.2) else (if u6.2.2 = (3 : Int32) then (Option.bind (zf_X8_isStatement b_now b_tape b_size u6.1 u6.2.1 u6.2.2 b_words) (fun u9 => (if u9.1 then zf_X8_house_62 b_tape b_words (zf_X8_house_17 b_tape b_words n) ((v1 + 1)) true b_refused u9.2.1 b_minds b_size u9.2.2.1 u9.2.2.2.1 u9.2.2.2.2 else zf_X8_house_61 b_tape b_words (zf_X8_house_17 b_tape b_words n) ((v1 + 1)) b_refused u9.2.1 b_minds b_size u9.2.2.1 u9.2.2.2.1 u9.2.2.2.2))) else zf_X8_house_61 b_tape b_words (zf_X8_house_17 b_tape b_words n) ((v1 + 1)) b_refused b_now b_minds b_size u6.1 u6.2.1 u6.2.2)))) else (Option.bind (zf_X8_lay (((0 : Int32))) b_now b_minds) (fun u4 => (Option.bind (zf_X8_refuse (((-2 : Int32))) b_refused) (fun u5 => some (((-20 : Int32) - b_from), u5.2, u4, b_minds, (0 : Int32), b_at, b_from, b_sort))))))
def zf_X8_house  (b_refused : Nat → Int32) (b_now : Nat → Int32) (b_minds : Nat → Int32) (b_tape : Nat → Int32) (b_size : Int32) (b_at : Int32) (b_from : Int32) (b_sort : Int32) (b_words : Nat → Int32) : Option (Int32 × (Nat → Int32) × (Nat → Int32) × (Nat → Int32) × Int32 × Int32 × Int32 × Int32) := (Option.bind (zf_X8_keep (((0 : Int32))) b_now b_minds) (fun u1 => (Option.bind (zf_X8_isStatement b_now b_tape b_size ((0 : Int32)) b_from b_sort b_words) (fun u2 => zf_X8_house_17 b_tape b_words FU ((0 : Int32)) u2.1 b_refused u2.2.1 u1 b_size u2.2.2.1 u2.2.2.2.1 u2.2.2.2.2))))
abbrev zr_X8_house : Room := { frames := 5, cells := 0, slots := 0, locals := 114 }
set_option maxHeartbeats 4000000 in
set_option maxRecDepth 100000 in
theorem c_X8_house (l : Launch) (G : va_G) (cy : Nat → ClassId) (tt : Nat → Nat) (M : Nat → Nat) (b_isKept : Bool) (b_fled : Bool) (b_flights : Int32) (b_firstFlight : Int32) (b_bestHarms : Int32) (b_bestRage : Int32) (b_harmed : Int64) (b_raged : Int64)  (b_refused : Nat → Int32) (b_now : Nat → Int32) (b_minds : Nat → Int32) (b_tape : Nat → Int32) (b_size : Int32) (b_at : Int32) (b_from : Int32) (b_sort : Int32) (b_words : Nat → Int32) (res : Int32 × (Nat → Int32) × (Nat → Int32) × (Nat → Int32) × Int32 × Int32 × Int32 × Int32) (hf : zf_X8_house b_refused b_now b_minds b_tape b_size b_at b_from b_sort b_words = some res) : zCT l yX8_house cX8_house 3 (some .int) zr_X8_house G cy tt [.ref ((M 0))] [xM M b_isKept b_size b_at b_from b_sort b_fled b_flights b_firstFlight b_bestHarms b_bestRage b_harmed b_raged, xI cy ((M 1)) 7 b_refused, xI cy ((M 2)) 39 b_now, xI cy ((M 4)) 273 b_minds, xI cy ((M 5)) 250 b_tape, xC cy ((M 6)) 42 b_words] (some (.int res.1)) [xM M b_isKept res.2.2.2.2.1 res.2.2.2.2.2.1 res.2.2.2.2.2.2.1 res.2.2.2.2.2.2.2 b_fled b_flights b_firstFlight b_bestHarms b_bestRage b_harmed b_raged, xI cy ((M 1)) 7 res.2.1, xI cy ((M 2)) 39 res.2.2.1, xI cy ((M 4)) 273 res.2.2.2.1, xI cy ((M 5)) 250 b_tape, xC cy ((M 6)) 42 b_words] := by
  refine zk_start zn_X8 (Nat.le_of_ble_eq_true rfl) ?_
  intro p e s m args below meth c A ls Q C hr hQ hw hl
  have C : zCx p m c s args meth cX8_house 3 RX8 G cy tt A := C
  have hx := C.1.1
  have hb := C.1.2.1
  have hl : lv_has ls 3 [(0, .ref ((M 0)))] := hl
  have J62 : ∀ (k17 : Int32 → Bool → (Nat → Int32) → (Nat → Int32) → (Nat → Int32) → Int32 → Int32 → Int32 → Int32 → Option (Int32 × (Nat → Int32) × (Nat → Int32) × (Nat → Int32) × Int32 × Int32 × Int32 × Int32)) (K17 : ∀ (v1 : Int32) (v2 : Bool) (b_refused : Nat → Int32) (b_now : Nat → Int32) (b_minds : Nat → Int32) (b_size : Int32) (b_at : Int32) (b_from : Int32) (b_sort : Int32) (H : Heap) (locs : List Loc) (ls : Array Slot), k17 v1 v2 b_refused b_now b_minds b_size b_at b_from b_sort = some res → zWd G A s.heap H locs [xM M b_isKept b_size b_at b_from b_sort b_fled b_flights b_firstFlight b_bestHarms b_bestRage b_harmed b_raged, xI cy ((M 1)) 7 b_refused, xI cy ((M 2)) 39 b_now, xI cy ((M 4)) 273 b_minds, xI cy ((M 5)) 250 b_tape, xC cy ((M 6)) 42 b_words] → lv_has ls 3 [(0, .ref ((M 0))), (1, .int v1), (2, .int (bI v2))] → W p l e zr_X8_house s m args below meth c H locs 0 0 Q (F0 m 17 ls [])), ∀ (v1 : Int32) (t0 : Bool) (b_refused : Nat → Int32) (b_now : Nat → Int32) (b_minds : Nat → Int32) (b_size : Int32) (b_at : Int32) (b_from : Int32) (b_sort : Int32) (H : Heap) (locs : List Loc) (ls : Array Slot), zf_X8_house_62 b_tape b_words k17 v1 t0 b_refused b_now b_minds b_size b_at b_from b_sort = some res → zWd G A s.heap H locs [xM M b_isKept b_size b_at b_from b_sort b_fled b_flights b_firstFlight b_bestHarms b_bestRage b_harmed b_raged, xI cy ((M 1)) 7 b_refused, xI cy ((M 2)) 39 b_now, xI cy ((M 4)) 273 b_minds, xI cy ((M 5)) 250 b_tape, xC cy ((M 6)) 42 b_words] → lv_has ls 3 [(0, .ref ((M 0))), (1, .int v1)] → W p l e zr_X8_house s m args below meth c H locs 0 0 Q (F0 m 62 ls [.int (bI t0)]) := by
    intro k17 K17 v1 t0 b_refused b_now b_minds b_size b_at b_from b_sort H locs ls hf hw hl
    rw [zf_X8_house_62] at hf
    refine lv_istore_n (pc := 62) (lv' := [(2, .int (bI t0)), (0, .ref ((M 0))), (1, .int v1)]) hx hb dX8_house_62 rfl hl (by decide) rfl (fun ls hl => ?_)
    refine lv_goto (pc := 63) (tgt := 17) hx hb dX8_house_63 (by decide) ?_
    exact K17 v1 t0 b_refused b_now b_minds b_size b_at b_from b_sort _ _ _ hf hw (lv_sub hl [1, 2, 0] rfl)
  have J61 : ∀ (k17 : Int32 → Bool → (Nat → Int32) → (Nat → Int32) → (Nat → Int32) → Int32 → Int32 → Int32 → Int32 → Option (Int32 × (Nat → Int32) × (Nat → Int32) × (Nat → Int32) × Int32 × Int32 × Int32 × Int32)) (K17 : ∀ (v1 : Int32) (v2 : Bool) (b_refused : Nat → Int32) (b_now : Nat → Int32) (b_minds : Nat → Int32) (b_size : Int32) (b_at : Int32) (b_from : Int32) (b_sort : Int32) (H : Heap) (locs : List Loc) (ls : Array Slot), k17 v1 v2 b_refused b_now b_minds b_size b_at b_from b_sort = some res → zWd G A s.heap H locs [xM M b_isKept b_size b_at b_from b_sort b_fled b_flights b_firstFlight b_bestHarms b_bestRage b_harmed b_raged, xI cy ((M 1)) 7 b_refused, xI cy ((M 2)) 39 b_now, xI cy ((M 4)) 273 b_minds, xI cy ((M 5)) 250 b_tape, xC cy ((M 6)) 42 b_words] → lv_has ls 3 [(0, .ref ((M 0))), (1, .int v1), (2, .int (bI v2))] → W p l e zr_X8_house s m args below meth c H locs 0 0 Q (F0 m 17 ls [])), ∀ (v1 : Int32) (b_refused : Nat → Int32) (b_now : Nat → Int32) (b_minds : Nat → Int32) (b_size : Int32) (b_at : Int32) (b_from : Int32) (b_sort : Int32) (H : Heap) (locs : List Loc) (ls : Array Slot), zf_X8_house_61 b_tape b_words k17 v1 b_refused b_now b_minds b_size b_at b_from b_sort = some res → zWd G A s.heap H locs [xM M b_isKept b_size b_at b_from b_sort b_fled b_flights b_firstFlight b_bestHarms b_bestRage b_harmed b_raged, xI cy ((M 1)) 7 b_refused, xI cy ((M 2)) 39 b_now, xI cy ((M 4)) 273 b_minds, xI cy ((M 5)) 250 b_tape, xC cy ((M 6)) 42 b_words] → lv_has ls 3 [(0, .ref ((M 0))), (1, .int v1)] → W p l e zr_X8_house s m args below meth c H locs 0 0 Q (F0 m 61 ls []) := by
    intro k17 K17 v1 b_refused b_now b_minds b_size b_at b_from b_sort H locs ls hf hw hl
    rw [zf_X8_house_61] at hf
    refine lv_iconst (pc := 61) (v := 0) hx hb dX8_house_61 (by decide) ?_
    exact J62 k17 K17 v1 false b_refused b_now b_minds b_size b_at b_from b_sort _ _ _ hf hw (lv_sub hl [0, 1] rfl)
  have J17 : ∀ (n : Nat), ∀ (v1 : Int32) (v2 : Bool) (b_refused : Nat → Int32) (b_now : Nat → Int32) (b_minds : Nat → Int32) (b_size : Int32) (b_at : Int32) (b_from : Int32) (b_sort : Int32) (H : Heap) (locs : List Loc) (ls : Array Slot), zf_X8_house_17 b_tape b_words n v1 v2 b_refused b_now b_minds b_size b_at b_from b_sort = some res → zWd G A s.heap H locs [xM M b_isKept b_size b_at b_from b_sort b_fled b_flights b_firstFlight b_bestHarms b_bestRage b_harmed b_raged, xI cy ((M 1)) 7 b_refused, xI cy ((M 2)) 39 b_now, xI cy ((M 4)) 273 b_minds, xI cy ((M 5)) 250 b_tape, xC cy ((M 6)) 42 b_words] → lv_has ls 3 [(0, .ref ((M 0))), (1, .int v1), (2, .int (bI v2))] → W p l e zr_X8_house s m args below meth c H locs 0 0 Q (F0 m 17 ls []) := by
    intro n
    induction n with
    | zero =>
      intro v1 v2 b_refused b_now b_minds b_size b_at b_from b_sort H locs ls hf hw hl
      rw [zf_X8_house_17] at hf
      cases hf
    | succ n ih =>
      intro v1 v2 b_refused b_now b_minds b_size b_at b_from b_sort H locs ls hf hw hl
      rw [zf_X8_house_17] at hf
      refine lv_iload_n (pc := 17) hx hb dX8_house_17 rfl (lv_at hl 2 rfl) ?_
      refine zk_ifz (pc := 18) (tgt := 66) hx hb dX8_house_18 (by decide) (fun q3 => ?_) (fun q3 => ?_)
      · replace hf := if_f q3 hf
        refine lv_aload_n (pc := 66) hx hb dX8_house_66 rfl (lv_at hl 0 rfl) ?_
        refine lv_iconst (pc := 67) (v := 0) hx hb dX8_house_67 (by decide) ?_
        obtain ⟨u4, u4e, hf⟩ := bd hf
        refine zk_cV (pc := 68) (ci := 8) (q0 := 0) (rest := []) (st1 := []) (w' := [xM M b_isKept b_size b_at b_from b_sort b_fled b_flights b_firstFlight b_bestHarms b_bestRage b_harmed b_raged, xI cy ((M 1)) 7 b_refused, xI cy ((M 2)) 39 u4, xI cy ((M 4)) 273 b_minds, xI cy ((M 5)) 250 b_tape, xC cy ((M 6)) 42 b_words]) (mk := [none, none, some (xI cy ((M 2)) 39 u4), none, none, none]) C hw (c_X8_lay l G cy tt M b_isKept b_size b_at b_from b_sort b_fled b_flights b_firstFlight b_bestHarms b_bestRage b_harmed b_raged (((0 : Int32))) b_now b_minds _ u4e) zy_X8_lay zm_X8_150 rfl rfl rfl [0, 2, 3] rfl rfl rfl rfl rfl rfl rfl rfl hl.1 ⟨rfl, rfl⟩ ⟨Nat.le_of_ble_eq_true rfl, Nat.le_of_ble_eq_true rfl⟩ rfl (Nat.le_of_ble_eq_true rfl) ⟨Nat.zero_le _, Nat.zero_le _⟩ dX8_house_68 (fun H locs hw => ?_)
        refine lv_aload_n (pc := 71) hx hb dX8_house_71 rfl (lv_at hl 0 rfl) ?_
        refine lv_iconst (pc := 72) (v := 0) hx hb dX8_house_72 (by decide) ?_
        refine zk_put (pc := 73) (w' := [xM M b_isKept ((0 : Int32)) b_at b_from b_sort b_fled b_flights b_firstFlight b_bestHarms b_bestRage b_harmed b_raged, xI cy ((M 1)) 7 b_refused, xI cy ((M 2)) 39 u4, xI cy ((M 4)) 273 b_minds, xI cy ((M 5)) 250 b_tape, xC cy ((M 6)) 42 b_words]) C hw zp_X8_109 0 rfl rfl rfl (Nat.le_of_ble_eq_true rfl) rfl dX8_house_73 (fun H locs hw => ?_)
        refine lv_aload_n (pc := 76) hx hb dX8_house_76 rfl (lv_at hl 0 rfl) ?_
        refine lv_bipush (pc := 77) (v := -2) hx hb dX8_house_77 (by decide) ?_
        obtain ⟨u5, u5e, hf⟩ := bd hf
        refine zk_cV (pc := 79) (ci := 8) (q0 := 0) (rest := []) (st1 := [.int u5.1]) (w' := [xM M b_isKept ((0 : Int32)) b_at b_from b_sort b_fled b_flights b_firstFlight b_bestHarms b_bestRage b_harmed b_raged, xI cy ((M 1)) 7 u5.2, xI cy ((M 2)) 39 u4, xI cy ((M 4)) 273 b_minds, xI cy ((M 5)) 250 b_tape, xC cy ((M 6)) 42 b_words]) (mk := [none, some (xI cy ((M 1)) 7 u5.2), none, none, none, none]) C hw (c_X8_refuse l G cy tt M b_isKept ((0 : Int32)) b_at b_from b_sort b_fled b_flights b_firstFlight b_bestHarms b_bestRage b_harmed b_raged (((-2 : Int32))) b_refused _ u5e) zy_X8_refuse zm_X8_90 rfl rfl rfl [0, 1] rfl rfl rfl rfl rfl rfl rfl rfl hl.1 ⟨rfl, rfl⟩ ⟨Nat.le_of_ble_eq_true rfl, Nat.le_of_ble_eq_true rfl⟩ rfl (Nat.le_of_ble_eq_true rfl) ⟨Nat.zero_le _, Nat.zero_le _⟩ dX8_house_79 (fun H locs hw => ?_)
        refine lv_pop (pc := 82) hx hb dX8_house_82 rfl ?_
        refine lv_bipush (pc := 83) (v := -20) hx hb dX8_house_83 (by decide) ?_
        refine lv_aload_n (pc := 85) hx hb dX8_house_85 rfl (lv_at hl 0 rfl) ?_
        refine zk_gt (pc := 86) C hw zl_X8_124 0 rfl rfl dX8_house_86 ?_
        refine lv_isub (pc := 89) hx hb dX8_house_89 ?_
        have hf := Option.some.inj hf
        subst hf
        exact zk_reti (pc := 90) (ww := [xM M b_isKept ((0 : Int32)) b_at b_from b_sort b_fled b_flights b_firstFlight b_bestHarms b_bestRage b_harmed b_raged, xI cy ((M 1)) 7 u5.2, xI cy ((M 2)) 39 u4, xI cy ((M 4)) 273 b_minds, xI cy ((M 5)) 250 b_tape, xC cy ((M 6)) 42 b_words]) C hw hr hQ dX8_house_90
      · replace hf := if_t q3 hf
        refine lv_iinc (pc := 21) (v := (v1 + 1)) (lv' := [(1, .int ((v1 + 1))), (0, .ref ((M 0))), (2, .int (bI v2))]) hx hb dX8_house_21 hl (k := 1) rfl rfl (by decide) rfl (fun ls hl => ?_)
        refine lv_aload_n (pc := 24) hx hb dX8_house_24 rfl (lv_at hl 1 rfl) ?_
        obtain ⟨u6, u6e, hf⟩ := bd hf
        refine zk_cV (pc := 25) (ci := 8) (q0 := 0) (rest := []) (st1 := []) (w' := [xM M b_isKept b_size u6.1 u6.2.1 u6.2.2 b_fled b_flights b_firstFlight b_bestHarms b_bestRage b_harmed b_raged, xI cy ((M 1)) 7 b_refused, xI cy ((M 2)) 39 b_now, xI cy ((M 4)) 273 b_minds, xI cy ((M 5)) 250 b_tape, xC cy ((M 6)) 42 b_words]) (mk := [some (xM M b_isKept b_size u6.1 u6.2.1 u6.2.2 b_fled b_flights b_firstFlight b_bestHarms b_bestRage b_harmed b_raged), none, none, none, none, none]) C hw (c_X8_next l G cy tt M b_isKept b_fled b_flights b_firstFlight b_bestHarms b_bestRage b_harmed b_raged b_tape b_size b_at b_from b_sort _ u6e) zy_X8_next zm_X8_133 rfl rfl rfl [0, 4] rfl rfl rfl rfl rfl rfl rfl rfl hl.1 ⟨rfl, rfl⟩ ⟨Nat.le_of_ble_eq_true rfl, Nat.le_of_ble_eq_true rfl⟩ rfl (Nat.le_of_ble_eq_true rfl) ⟨Nat.zero_le _, Nat.zero_le _⟩ dX8_house_25 (fun H locs hw => ?_)
        refine lv_aload_n (pc := 28) hx hb dX8_house_28 rfl (lv_at hl 1 rfl) ?_
        refine zk_gt (pc := 29) C hw zl_X8_130 0 rfl rfl dX8_house_29 ?_
        refine lv_if_ne (pc := 32) (tgt := 42) hx hb dX8_house_32 (by decide) (fun q7 => ?_) (fun q7 => ?_)
        · replace hf := if_f q7 hf
          refine lv_aload_n (pc := 42) hx hb dX8_house_42 rfl (lv_at hl 1 rfl) ?_
          refine zk_gt (pc := 43) C hw zl_X8_130 0 rfl rfl dX8_house_43 ?_
          refine lv_iconst (pc := 46) (v := 3) hx hb dX8_house_46 (by decide) ?_
          refine lv_icmp_ne (pc := 47) (tgt := 61) hx hb dX8_house_47 (by decide) (fun q8 => ?_) (fun q8 => ?_)
          · replace hf := if_f q8 hf
            exact J61 (zf_X8_house_17 b_tape b_words n) ih ((v1 + 1)) b_refused b_now b_minds b_size u6.1 u6.2.1 u6.2.2 _ _ _ hf hw (lv_sub hl [1, 0] rfl)
          · replace hf := if_t q8 hf
            refine lv_aload_n (pc := 50) hx hb dX8_house_50 rfl (lv_at hl 1 rfl) ?_
            obtain ⟨u9, u9e, hf⟩ := bd hf
            refine zk_cV (pc := 51) (ci := 8) (q0 := 0) (rest := []) (st1 := [.int (bI u9.1)]) (w' := [xM M b_isKept b_size u9.2.2.1 u9.2.2.2.1 u9.2.2.2.2 b_fled b_flights b_firstFlight b_bestHarms b_bestRage b_harmed b_raged, xI cy ((M 1)) 7 b_refused, xI cy ((M 2)) 39 u9.2.1, xI cy ((M 4)) 273 b_minds, xI cy ((M 5)) 250 b_tape, xC cy ((M 6)) 42 b_words]) (mk := [some (xM M b_isKept b_size u9.2.2.1 u9.2.2.2.1 u9.2.2.2.2 b_fled b_flights b_firstFlight b_bestHarms b_bestRage b_harmed b_raged), none, some (xI cy ((M 2)) 39 u9.2.1), none, none, none]) C hw (c_X8_isStatement l G cy tt M b_isKept b_fled b_flights b_firstFlight b_bestHarms b_bestRage b_harmed b_raged b_now b_tape b_size u6.1 u6.2.1 u6.2.2 b_words _ u9e) zy_X8_isStatement zm_X8_146 rfl rfl rfl [0, 2, 4, 5] rfl rfl rfl rfl rfl rfl rfl rfl hl.1 ⟨rfl, rfl⟩ ⟨Nat.le_of_ble_eq_true rfl, Nat.le_of_ble_eq_true rfl⟩ rfl (Nat.le_of_ble_eq_true rfl) ⟨Nat.zero_le _, Nat.zero_le _⟩ dX8_house_51 (fun H locs hw => ?_)
            refine zk_ifz (pc := 54) (tgt := 61) hx hb dX8_house_54 (by decide) (fun q10 => ?_) (fun q10 => ?_)
            · replace hf := if_f q10 hf
              exact J61 (zf_X8_house_17 b_tape b_words n) ih ((v1 + 1)) b_refused u9.2.1 b_minds b_size u9.2.2.1 u9.2.2.2.1 u9.2.2.2.2 _ _ _ hf hw (lv_sub hl [1, 0] rfl)
            · replace hf := if_t q10 hf
              refine lv_iconst (pc := 57) (v := 1) hx hb dX8_house_57 (by decide) ?_
              refine lv_goto (pc := 58) (tgt := 62) hx hb dX8_house_58 (by decide) ?_
              exact J62 (zf_X8_house_17 b_tape b_words n) ih ((v1 + 1)) true b_refused u9.2.1 b_minds b_size u9.2.2.1 u9.2.2.2.1 u9.2.2.2.2 _ _ _ hf hw (lv_sub hl [1, 0] rfl)
        · replace hf := if_t q7 hf
          refine lv_aload_n (pc := 35) hx hb dX8_house_35 rfl (lv_at hl 1 rfl) ?_
          refine lv_iconst (pc := 36) (v := 0) hx hb dX8_house_36 (by decide) ?_
          refine zk_put (pc := 37) (w' := [xM M b_isKept ((0 : Int32)) u6.1 u6.2.1 u6.2.2 b_fled b_flights b_firstFlight b_bestHarms b_bestRage b_harmed b_raged, xI cy ((M 1)) 7 b_refused, xI cy ((M 2)) 39 b_now, xI cy ((M 4)) 273 b_minds, xI cy ((M 5)) 250 b_tape, xC cy ((M 6)) 42 b_words]) C hw zp_X8_109 0 rfl rfl rfl (Nat.le_of_ble_eq_true rfl) rfl dX8_house_37 (fun H locs hw => ?_)
          refine lv_iload_n (pc := 40) hx hb dX8_house_40 rfl (lv_at hl 0 rfl) ?_
          have hf := Option.some.inj hf
          subst hf
          exact zk_reti (pc := 41) (ww := [xM M b_isKept ((0 : Int32)) u6.1 u6.2.1 u6.2.2 b_fled b_flights b_firstFlight b_bestHarms b_bestRage b_harmed b_raged, xI cy ((M 1)) 7 b_refused, xI cy ((M 2)) 39 b_now, xI cy ((M 4)) 273 b_minds, xI cy ((M 5)) 250 b_tape, xC cy ((M 6)) 42 b_words]) C hw hr hQ dX8_house_41
  rw [zf_X8_house] at hf
  refine lv_aload_n (pc := 0) hx hb dX8_house_0 rfl (lv_at hl 0 rfl) ?_
  refine lv_iconst (pc := 1) (v := 0) hx hb dX8_house_1 (by decide) ?_
  obtain ⟨u1, u1e, hf⟩ := bd hf
  refine zk_cV (pc := 2) (ci := 8) (q0 := 0) (rest := []) (st1 := []) (w' := [xM M b_isKept b_size b_at b_from b_sort b_fled b_flights b_firstFlight b_bestHarms b_bestRage b_harmed b_raged, xI cy ((M 1)) 7 b_refused, xI cy ((M 2)) 39 b_now, xI cy ((M 4)) 273 u1, xI cy ((M 5)) 250 b_tape, xC cy ((M 6)) 42 b_words]) (mk := [none, none, none, some (xI cy ((M 4)) 273 u1), none, none]) C hw (c_X8_keep l G cy tt M b_isKept b_size b_at b_from b_sort b_fled b_flights b_firstFlight b_bestHarms b_bestRage b_harmed b_raged (((0 : Int32))) b_now b_minds _ u1e) zy_X8_keep zm_X8_142 rfl rfl rfl [0, 2, 3] rfl rfl rfl rfl rfl rfl rfl rfl hl.1 ⟨rfl, rfl⟩ ⟨Nat.le_of_ble_eq_true rfl, Nat.le_of_ble_eq_true rfl⟩ rfl (Nat.le_of_ble_eq_true rfl) ⟨Nat.zero_le _, Nat.zero_le _⟩ dX8_house_2 (fun H locs hw => ?_)
  refine lv_aload_n (pc := 5) hx hb dX8_house_5 rfl (lv_at hl 0 rfl) ?_
  refine lv_iconst (pc := 6) (v := 0) hx hb dX8_house_6 (by decide) ?_
  refine zk_put (pc := 7) (w' := [xM M b_isKept b_size ((0 : Int32)) b_from b_sort b_fled b_flights b_firstFlight b_bestHarms b_bestRage b_harmed b_raged, xI cy ((M 1)) 7 b_refused, xI cy ((M 2)) 39 b_now, xI cy ((M 4)) 273 u1, xI cy ((M 5)) 250 b_tape, xC cy ((M 6)) 42 b_words]) C hw zp_X8_121 0 rfl rfl rfl (Nat.le_of_ble_eq_true rfl) rfl dX8_house_7 (fun H locs hw => ?_)
  refine lv_iconst (pc := 10) (v := 0) hx hb dX8_house_10 (by decide) ?_
  refine lv_istore_n (pc := 11) (lv' := [(1, .int ((0 : Int32))), (0, .ref ((M 0)))]) hx hb dX8_house_11 rfl hl (by decide) rfl (fun ls hl => ?_)
  refine lv_aload_n (pc := 12) hx hb dX8_house_12 rfl (lv_at hl 1 rfl) ?_
  obtain ⟨u2, u2e, hf⟩ := bd hf
  refine zk_cV (pc := 13) (ci := 8) (q0 := 0) (rest := []) (st1 := [.int (bI u2.1)]) (w' := [xM M b_isKept b_size u2.2.2.1 u2.2.2.2.1 u2.2.2.2.2 b_fled b_flights b_firstFlight b_bestHarms b_bestRage b_harmed b_raged, xI cy ((M 1)) 7 b_refused, xI cy ((M 2)) 39 u2.2.1, xI cy ((M 4)) 273 u1, xI cy ((M 5)) 250 b_tape, xC cy ((M 6)) 42 b_words]) (mk := [some (xM M b_isKept b_size u2.2.2.1 u2.2.2.2.1 u2.2.2.2.2 b_fled b_flights b_firstFlight b_bestHarms b_bestRage b_harmed b_raged), none, some (xI cy ((M 2)) 39 u2.2.1), none, none, none]) C hw (c_X8_isStatement l G cy tt M b_isKept b_fled b_flights b_firstFlight b_bestHarms b_bestRage b_harmed b_raged b_now b_tape b_size ((0 : Int32)) b_from b_sort b_words _ u2e) zy_X8_isStatement zm_X8_146 rfl rfl rfl [0, 2, 4, 5] rfl rfl rfl rfl rfl rfl rfl rfl hl.1 ⟨rfl, rfl⟩ ⟨Nat.le_of_ble_eq_true rfl, Nat.le_of_ble_eq_true rfl⟩ rfl (Nat.le_of_ble_eq_true rfl) ⟨Nat.zero_le _, Nat.zero_le _⟩ dX8_house_13 (fun H locs hw => ?_)
  refine lv_istore_n (pc := 16) (lv' := [(2, .int (bI u2.1)), (1, .int ((0 : Int32))), (0, .ref ((M 0)))]) hx hb dX8_house_16 rfl hl (by decide) rfl (fun ls hl => ?_)
  exact J17 FU ((0 : Int32)) u2.1 b_refused u2.2.1 u1 b_size u2.2.2.1 u2.2.2.2.1 u2.2.2.2.2 _ _ _ hf hw (lv_sub hl [2, 1, 0] rfl)
def zf_X8_fright  (b_now : Nat → Int32) : Option (Int32) := some ((((b_now 33) / (3 : Int32)) + (b_now 35)))
abbrev zr_X8_fright : Room := { frames := 0, cells := 0, slots := 0, locals := 0 }
set_option maxHeartbeats 4000000 in
set_option maxRecDepth 100000 in
theorem c_X8_fright (l : Launch) (G : va_G) (cy : Nat → ClassId) (tt : Nat → Nat) (M : Nat → Nat) (b_isKept : Bool) (b_size : Int32) (b_at : Int32) (b_from : Int32) (b_sort : Int32) (b_fled : Bool) (b_flights : Int32) (b_firstFlight : Int32) (b_bestHarms : Int32) (b_bestRage : Int32) (b_harmed : Int64) (b_raged : Int64)  (b_now : Nat → Int32) (res : Int32) (hf : zf_X8_fright b_now = some res) : zCT l yX8_fright cX8_fright 1 (some .int) zr_X8_fright G cy tt [.ref ((M 0))] [xM M b_isKept b_size b_at b_from b_sort b_fled b_flights b_firstFlight b_bestHarms b_bestRage b_harmed b_raged, xI cy ((M 2)) 39 b_now] (some (.int res)) [xM M b_isKept b_size b_at b_from b_sort b_fled b_flights b_firstFlight b_bestHarms b_bestRage b_harmed b_raged, xI cy ((M 2)) 39 b_now] := by
  refine zk_start zn_X8 (Nat.le_of_ble_eq_true rfl) ?_
  intro p e s m args below meth c A ls Q C hr hQ hw hl
  have C : zCx p m c s args meth cX8_fright 1 RX8 G cy tt A := C
  have hx := C.1.1
  have hb := C.1.2.1
  have hl : lv_has ls 1 [(0, .ref ((M 0)))] := hl
  rw [zf_X8_fright] at hf
  refine lv_aload_n (pc := 0) hx hb dX8_fright_0 rfl (lv_at hl 0 rfl) ?_
  refine zk_gt (pc := 1) C hw zl_X8_17 0 rfl rfl dX8_fright_1 ?_
  refine lv_bipush (pc := 4) (v := 33) hx hb dX8_fright_4 (by decide) ?_
  refine zk_ialdK (pc := 6) 33 (by decide) C hw 1 rfl (by decide) dX8_fright_6 ?_
  refine lv_iconst (pc := 7) (v := 3) hx hb dX8_fright_7 (by decide) ?_
  refine lv_idiv (pc := 8) hx hb dX8_fright_8 (by decide) ?_
  refine lv_aload_n (pc := 9) hx hb dX8_fright_9 rfl (lv_at hl 0 rfl) ?_
  refine zk_gt (pc := 10) C hw zl_X8_17 0 rfl rfl dX8_fright_10 ?_
  refine lv_bipush (pc := 13) (v := 35) hx hb dX8_fright_13 (by decide) ?_
  refine zk_ialdK (pc := 15) 35 (by decide) C hw 1 rfl (by decide) dX8_fright_15 ?_
  refine lv_iadd (pc := 16) hx hb dX8_fright_16 ?_
  have hf := Option.some.inj hf
  subst hf
  exact zk_reti (pc := 17) (ww := [xM M b_isKept b_size b_at b_from b_sort b_fled b_flights b_firstFlight b_bestHarms b_bestRage b_harmed b_raged, xI cy ((M 2)) 39 b_now]) C hw hr hQ dX8_fright_17
def zf_X8_isStaying_113 (b_now : Nat → Int32) (v2 : Int32) : Option (Bool) := (Option.bind (zf_X8_fright b_now) (fun u16 => (if v2 < u16 then some (false) else some (true))))
def zf_X8_isStaying (x1 : Int32) (b_now : Nat → Int32) : Option (Bool) := (Option.bind (zf_X8_nerveOf x1 b_now) (fun u1 => (Option.bind (zf_X8_kind x1 b_now) (fun u2 => (if u2 = 1 then (Option.bind (zf_X8_a x1 b_now) (fun u4 => (Option.bind (zf_X8_fright b_now) (fun u5 => (if (u1 + u4) < u5 then some (false) else some (true)))))) else (if u2 = 2 then zf_X8_isStaying_113 b_now u1 else (if u2 = 3 then some (true) else (if u2 = 4 then (Option.bind (zf_X8_fright b_now) (fun u10 => (if ((2 : Int32) * u1) < u10 then some (false) else some (true)))) else (if u2 = 5 then (Option.bind (zf_X8_fright b_now) (fun u13 => (if u1 < u13 then some (false) else (if (b_now 36) ≤ (b_now 33) then some (false) else some (true))))) else zf_X8_isStaying_113 b_now u1)))))))))
abbrev zr_X8_isStaying : Room := { frames := 1, cells := 0, slots := 0, locals := 21 }
set_option maxHeartbeats 4000000 in
set_option maxRecDepth 100000 in
theorem c_X8_isStaying (l : Launch) (G : va_G) (cy : Nat → ClassId) (tt : Nat → Nat) (M : Nat → Nat) (b_isKept : Bool) (b_size : Int32) (b_at : Int32) (b_from : Int32) (b_sort : Int32) (b_fled : Bool) (b_flights : Int32) (b_firstFlight : Int32) (b_bestHarms : Int32) (b_bestRage : Int32) (b_harmed : Int64) (b_raged : Int64) (x1 : Int32) (b_now : Nat → Int32) (res : Bool) (hf : zf_X8_isStaying x1 b_now = some res) : zCT l yX8_isStaying cX8_isStaying 3 (some .boolean) zr_X8_isStaying G cy tt [.ref ((M 0)), .int x1] [xM M b_isKept b_size b_at b_from b_sort b_fled b_flights b_firstFlight b_bestHarms b_bestRage b_harmed b_raged, xI cy ((M 2)) 39 b_now] (some (.int (bI res))) [xM M b_isKept b_size b_at b_from b_sort b_fled b_flights b_firstFlight b_bestHarms b_bestRage b_harmed b_raged, xI cy ((M 2)) 39 b_now] := by
  refine zk_start zn_X8 (Nat.le_of_ble_eq_true rfl) ?_
  intro p e s m args below meth c A ls Q C hr hQ hw hl
  have C : zCx p m c s args meth cX8_isStaying 3 RX8 G cy tt A := C
  have hx := C.1.1
  have hb := C.1.2.1
  have hl : lv_has ls 3 [(0, .ref ((M 0))), (1, .int x1)] := hl
  have J113 : ∀ (v2 : Int32) (H : Heap) (locs : List Loc) (ls : Array Slot), zf_X8_isStaying_113 b_now v2 = some res → zWd G A s.heap H locs [xM M b_isKept b_size b_at b_from b_sort b_fled b_flights b_firstFlight b_bestHarms b_bestRage b_harmed b_raged, xI cy ((M 2)) 39 b_now] → lv_has ls 3 [(0, .ref ((M 0))), (2, .int v2)] → W p l e zr_X8_isStaying s m args below meth c H locs 0 0 Q (F0 m 113 ls []) := by
    intro v2 H locs ls hf hw hl
    rw [zf_X8_isStaying_113] at hf
    refine lv_iload_n (pc := 113) hx hb dX8_isStaying_113 rfl (lv_at hl 1 rfl) ?_
    refine lv_aload_n (pc := 114) hx hb dX8_isStaying_114 rfl (lv_at hl 0 rfl) ?_
    obtain ⟨u16, u16e, hf⟩ := bd hf
    refine zk_cV (pc := 115) (ci := 8) (q0 := 0) (rest := [.int v2]) (st1 := [.int u16, .int v2]) (w' := [xM M b_isKept b_size b_at b_from b_sort b_fled b_flights b_firstFlight b_bestHarms b_bestRage b_harmed b_raged, xI cy ((M 2)) 39 b_now]) (mk := [none, none]) C hw (c_X8_fright l G cy tt M b_isKept b_size b_at b_from b_sort b_fled b_flights b_firstFlight b_bestHarms b_bestRage b_harmed b_raged b_now _ u16e) zy_X8_fright zm_X8_159 rfl rfl rfl [0, 1] rfl rfl rfl rfl rfl rfl rfl rfl hl.1 ⟨rfl, rfl⟩ ⟨Nat.le_of_ble_eq_true rfl, Nat.le_of_ble_eq_true rfl⟩ rfl (Nat.le_of_ble_eq_true rfl) ⟨Nat.zero_le _, Nat.zero_le _⟩ dX8_isStaying_115 (fun H locs hw => ?_)
    refine lv_icmp_lt (pc := 118) (tgt := 125) hx hb dX8_isStaying_118 (by decide) (fun q17 => ?_) (fun q17 => ?_)
    · replace hf := if_t q17 hf
      refine lv_iconst (pc := 125) (v := 0) hx hb dX8_isStaying_125 (by decide) ?_
      have hf := Option.some.inj hf
      subst hf
      exact zk_retz (pc := 126) (b := false) (ww := [xM M b_isKept b_size b_at b_from b_sort b_fled b_flights b_firstFlight b_bestHarms b_bestRage b_harmed b_raged, xI cy ((M 2)) 39 b_now]) C hw hr hQ dX8_isStaying_126
    · replace hf := if_f q17 hf
      refine lv_iconst (pc := 121) (v := 1) hx hb dX8_isStaying_121 (by decide) ?_
      refine lv_goto (pc := 122) (tgt := 126) hx hb dX8_isStaying_122 (by decide) ?_
      have hf := Option.some.inj hf
      subst hf
      exact zk_retz (pc := 126) (b := true) (ww := [xM M b_isKept b_size b_at b_from b_sort b_fled b_flights b_firstFlight b_bestHarms b_bestRage b_harmed b_raged, xI cy ((M 2)) 39 b_now]) C hw hr hQ dX8_isStaying_126
  rw [zf_X8_isStaying] at hf
  refine lv_aload_n (pc := 0) hx hb dX8_isStaying_0 rfl (lv_at hl 0 rfl) ?_
  refine lv_iload_n (pc := 1) hx hb dX8_isStaying_1 rfl (lv_at hl 1 rfl) ?_
  obtain ⟨u1, u1e, hf⟩ := bd hf
  refine zk_cV (pc := 2) (ci := 8) (q0 := 0) (rest := []) (st1 := [.int u1]) (w' := [xM M b_isKept b_size b_at b_from b_sort b_fled b_flights b_firstFlight b_bestHarms b_bestRage b_harmed b_raged, xI cy ((M 2)) 39 b_now]) (mk := [none, none]) C hw (c_X8_nerveOf l G cy tt M b_isKept b_size b_at b_from b_sort b_fled b_flights b_firstFlight b_bestHarms b_bestRage b_harmed b_raged x1 b_now _ u1e) zy_X8_nerveOf zm_X8_98 rfl rfl rfl [0, 1] rfl rfl rfl rfl rfl rfl rfl rfl hl.1 ⟨rfl, rfl⟩ ⟨Nat.le_of_ble_eq_true rfl, Nat.le_of_ble_eq_true rfl⟩ rfl (Nat.le_of_ble_eq_true rfl) ⟨Nat.zero_le _, Nat.zero_le _⟩ dX8_isStaying_2 (fun H locs hw => ?_)
  refine lv_istore_n (pc := 5) (lv' := [(2, .int u1), (0, .ref ((M 0))), (1, .int x1)]) hx hb dX8_isStaying_5 rfl hl (by decide) rfl (fun ls hl => ?_)
  refine lv_aload_n (pc := 6) hx hb dX8_isStaying_6 rfl (lv_at hl 1 rfl) ?_
  refine lv_iload_n (pc := 7) hx hb dX8_isStaying_7 rfl (lv_at hl 2 rfl) ?_
  obtain ⟨u2, u2e, hf⟩ := bd hf
  refine zk_cV (pc := 8) (ci := 8) (q0 := 0) (rest := []) (st1 := [.int u2]) (w' := [xM M b_isKept b_size b_at b_from b_sort b_fled b_flights b_firstFlight b_bestHarms b_bestRage b_harmed b_raged, xI cy ((M 2)) 39 b_now]) (mk := [none, none]) C hw (c_X8_kind l G cy tt M b_isKept b_size b_at b_from b_sort b_fled b_flights b_firstFlight b_bestHarms b_bestRage b_harmed b_raged x1 b_now _ u2e) zy_X8_kind zm_X8_153 rfl rfl rfl [0, 1] rfl rfl rfl rfl rfl rfl rfl rfl hl.1 ⟨rfl, rfl⟩ ⟨Nat.le_of_ble_eq_true rfl, Nat.le_of_ble_eq_true rfl⟩ rfl (Nat.le_of_ble_eq_true rfl) ⟨Nat.zero_le _, Nat.zero_le _⟩ dX8_isStaying_8 (fun H locs hw => ?_)
  by_cases q3 : u2 = (1 : Int32)
  · replace hf := if_t q3 hf
    refine zk_tabIn (pc := 11) (off := 33) (tgt := 44) q3 C dX8_isStaying_11 (by decide) (by decide) (by decide +kernel) (by decide) ?_
    refine lv_iload_n (pc := 44) hx hb dX8_isStaying_44 rfl (lv_at hl 0 rfl) ?_
    refine lv_aload_n (pc := 45) hx hb dX8_isStaying_45 rfl (lv_at hl 1 rfl) ?_
    refine lv_iload_n (pc := 46) hx hb dX8_isStaying_46 rfl (lv_at hl 2 rfl) ?_
    obtain ⟨u4, u4e, hf⟩ := bd hf
    refine zk_cV (pc := 47) (ci := 8) (q0 := 0) (rest := [.int u1]) (st1 := [.int u4, .int u1]) (w' := [xM M b_isKept b_size b_at b_from b_sort b_fled b_flights b_firstFlight b_bestHarms b_bestRage b_harmed b_raged, xI cy ((M 2)) 39 b_now]) (mk := [none, none]) C hw (c_X8_a l G cy tt M b_isKept b_size b_at b_from b_sort b_fled b_flights b_firstFlight b_bestHarms b_bestRage b_harmed b_raged x1 b_now _ u4e) zy_X8_a zm_X8_156 rfl rfl rfl [0, 1] rfl rfl rfl rfl rfl rfl rfl rfl hl.1 ⟨rfl, rfl⟩ ⟨Nat.le_of_ble_eq_true rfl, Nat.le_of_ble_eq_true rfl⟩ rfl (Nat.le_of_ble_eq_true rfl) ⟨Nat.zero_le _, Nat.zero_le _⟩ dX8_isStaying_47 (fun H locs hw => ?_)
    refine lv_iadd (pc := 50) hx hb dX8_isStaying_50 ?_
    refine lv_aload_n (pc := 51) hx hb dX8_isStaying_51 rfl (lv_at hl 1 rfl) ?_
    obtain ⟨u5, u5e, hf⟩ := bd hf
    refine zk_cV (pc := 52) (ci := 8) (q0 := 0) (rest := [.int ((u1 + u4))]) (st1 := [.int u5, .int ((u1 + u4))]) (w' := [xM M b_isKept b_size b_at b_from b_sort b_fled b_flights b_firstFlight b_bestHarms b_bestRage b_harmed b_raged, xI cy ((M 2)) 39 b_now]) (mk := [none, none]) C hw (c_X8_fright l G cy tt M b_isKept b_size b_at b_from b_sort b_fled b_flights b_firstFlight b_bestHarms b_bestRage b_harmed b_raged b_now _ u5e) zy_X8_fright zm_X8_159 rfl rfl rfl [0, 1] rfl rfl rfl rfl rfl rfl rfl rfl hl.1 ⟨rfl, rfl⟩ ⟨Nat.le_of_ble_eq_true rfl, Nat.le_of_ble_eq_true rfl⟩ rfl (Nat.le_of_ble_eq_true rfl) ⟨Nat.zero_le _, Nat.zero_le _⟩ dX8_isStaying_52 (fun H locs hw => ?_)
    refine lv_icmp_lt (pc := 55) (tgt := 62) hx hb dX8_isStaying_55 (by decide) (fun q6 => ?_) (fun q6 => ?_)
    · replace hf := if_t q6 hf
      refine lv_iconst (pc := 62) (v := 0) hx hb dX8_isStaying_62 (by decide) ?_
      have hf := Option.some.inj hf
      subst hf
      exact zk_retz (pc := 63) (b := false) (ww := [xM M b_isKept b_size b_at b_from b_sort b_fled b_flights b_firstFlight b_bestHarms b_bestRage b_harmed b_raged, xI cy ((M 2)) 39 b_now]) C hw hr hQ dX8_isStaying_63
    · replace hf := if_f q6 hf
      refine lv_iconst (pc := 58) (v := 1) hx hb dX8_isStaying_58 (by decide) ?_
      refine lv_goto (pc := 59) (tgt := 63) hx hb dX8_isStaying_59 (by decide) ?_
      have hf := Option.some.inj hf
      subst hf
      exact zk_retz (pc := 63) (b := true) (ww := [xM M b_isKept b_size b_at b_from b_sort b_fled b_flights b_firstFlight b_bestHarms b_bestRage b_harmed b_raged, xI cy ((M 2)) 39 b_now]) C hw hr hQ dX8_isStaying_63
  · replace hf := if_f q3 hf
    by_cases q7 : u2 = (2 : Int32)
    · replace hf := if_t q7 hf
      refine zk_tabIn (pc := 11) (off := 102) (tgt := 113) q7 C dX8_isStaying_11 (by decide) (by decide) (by decide +kernel) (by decide) ?_
      exact J113 u1 _ _ _ hf hw (lv_sub hl [1, 0] rfl)
    · replace hf := if_f q7 hf
      by_cases q8 : u2 = (3 : Int32)
      · replace hf := if_t q8 hf
        refine zk_tabIn (pc := 11) (off := 53) (tgt := 64) q8 C dX8_isStaying_11 (by decide) (by decide) (by decide +kernel) (by decide) ?_
        refine lv_iconst (pc := 64) (v := 1) hx hb dX8_isStaying_64 (by decide) ?_
        have hf := Option.some.inj hf
        subst hf
        exact zk_retz (pc := 65) (b := true) (ww := [xM M b_isKept b_size b_at b_from b_sort b_fled b_flights b_firstFlight b_bestHarms b_bestRage b_harmed b_raged, xI cy ((M 2)) 39 b_now]) C hw hr hQ dX8_isStaying_65
      · replace hf := if_f q8 hf
        by_cases q9 : u2 = (4 : Int32)
        · replace hf := if_t q9 hf
          refine zk_tabIn (pc := 11) (off := 55) (tgt := 66) q9 C dX8_isStaying_11 (by decide) (by decide) (by decide +kernel) (by decide) ?_
          refine lv_iconst (pc := 66) (v := 2) hx hb dX8_isStaying_66 (by decide) ?_
          refine lv_iload_n (pc := 67) hx hb dX8_isStaying_67 rfl (lv_at hl 0 rfl) ?_
          refine lv_imul (pc := 68) hx hb dX8_isStaying_68 ?_
          refine lv_aload_n (pc := 69) hx hb dX8_isStaying_69 rfl (lv_at hl 1 rfl) ?_
          obtain ⟨u10, u10e, hf⟩ := bd hf
          refine zk_cV (pc := 70) (ci := 8) (q0 := 0) (rest := [.int (((2 : Int32) * u1))]) (st1 := [.int u10, .int (((2 : Int32) * u1))]) (w' := [xM M b_isKept b_size b_at b_from b_sort b_fled b_flights b_firstFlight b_bestHarms b_bestRage b_harmed b_raged, xI cy ((M 2)) 39 b_now]) (mk := [none, none]) C hw (c_X8_fright l G cy tt M b_isKept b_size b_at b_from b_sort b_fled b_flights b_firstFlight b_bestHarms b_bestRage b_harmed b_raged b_now _ u10e) zy_X8_fright zm_X8_159 rfl rfl rfl [0, 1] rfl rfl rfl rfl rfl rfl rfl rfl hl.1 ⟨rfl, rfl⟩ ⟨Nat.le_of_ble_eq_true rfl, Nat.le_of_ble_eq_true rfl⟩ rfl (Nat.le_of_ble_eq_true rfl) ⟨Nat.zero_le _, Nat.zero_le _⟩ dX8_isStaying_70 (fun H locs hw => ?_)
          refine lv_icmp_lt (pc := 73) (tgt := 80) hx hb dX8_isStaying_73 (by decide) (fun q11 => ?_) (fun q11 => ?_)
          · replace hf := if_t q11 hf
            refine lv_iconst (pc := 80) (v := 0) hx hb dX8_isStaying_80 (by decide) ?_
            have hf := Option.some.inj hf
            subst hf
            exact zk_retz (pc := 81) (b := false) (ww := [xM M b_isKept b_size b_at b_from b_sort b_fled b_flights b_firstFlight b_bestHarms b_bestRage b_harmed b_raged, xI cy ((M 2)) 39 b_now]) C hw hr hQ dX8_isStaying_81
          · replace hf := if_f q11 hf
            refine lv_iconst (pc := 76) (v := 1) hx hb dX8_isStaying_76 (by decide) ?_
            refine lv_goto (pc := 77) (tgt := 81) hx hb dX8_isStaying_77 (by decide) ?_
            have hf := Option.some.inj hf
            subst hf
            exact zk_retz (pc := 81) (b := true) (ww := [xM M b_isKept b_size b_at b_from b_sort b_fled b_flights b_firstFlight b_bestHarms b_bestRage b_harmed b_raged, xI cy ((M 2)) 39 b_now]) C hw hr hQ dX8_isStaying_81
        · replace hf := if_f q9 hf
          by_cases q12 : u2 = (5 : Int32)
          · replace hf := if_t q12 hf
            refine zk_tabIn (pc := 11) (off := 71) (tgt := 82) q12 C dX8_isStaying_11 (by decide) (by decide) (by decide +kernel) (by decide) ?_
            refine lv_iload_n (pc := 82) hx hb dX8_isStaying_82 rfl (lv_at hl 0 rfl) ?_
            refine lv_aload_n (pc := 83) hx hb dX8_isStaying_83 rfl (lv_at hl 1 rfl) ?_
            obtain ⟨u13, u13e, hf⟩ := bd hf
            refine zk_cV (pc := 84) (ci := 8) (q0 := 0) (rest := [.int u1]) (st1 := [.int u13, .int u1]) (w' := [xM M b_isKept b_size b_at b_from b_sort b_fled b_flights b_firstFlight b_bestHarms b_bestRage b_harmed b_raged, xI cy ((M 2)) 39 b_now]) (mk := [none, none]) C hw (c_X8_fright l G cy tt M b_isKept b_size b_at b_from b_sort b_fled b_flights b_firstFlight b_bestHarms b_bestRage b_harmed b_raged b_now _ u13e) zy_X8_fright zm_X8_159 rfl rfl rfl [0, 1] rfl rfl rfl rfl rfl rfl rfl rfl hl.1 ⟨rfl, rfl⟩ ⟨Nat.le_of_ble_eq_true rfl, Nat.le_of_ble_eq_true rfl⟩ rfl (Nat.le_of_ble_eq_true rfl) ⟨Nat.zero_le _, Nat.zero_le _⟩ dX8_isStaying_84 (fun H locs hw => ?_)
            refine lv_icmp_lt (pc := 87) (tgt := 111) hx hb dX8_isStaying_87 (by decide) (fun q14 => ?_) (fun q14 => ?_)
            · replace hf := if_t q14 hf
              refine lv_iconst (pc := 111) (v := 0) hx hb dX8_isStaying_111 (by decide) ?_
              have hf := Option.some.inj hf
              subst hf
              exact zk_retz (pc := 112) (b := false) (ww := [xM M b_isKept b_size b_at b_from b_sort b_fled b_flights b_firstFlight b_bestHarms b_bestRage b_harmed b_raged, xI cy ((M 2)) 39 b_now]) C hw hr hQ dX8_isStaying_112
            · replace hf := if_f q14 hf
              refine lv_aload_n (pc := 90) hx hb dX8_isStaying_90 rfl (lv_at hl 1 rfl) ?_
              refine zk_gt (pc := 91) C hw zl_X8_17 0 rfl rfl dX8_isStaying_91 ?_
              refine lv_bipush (pc := 94) (v := 33) hx hb dX8_isStaying_94 (by decide) ?_
              refine zk_ialdK (pc := 96) 33 (by decide) C hw 1 rfl (by decide) dX8_isStaying_96 ?_
              refine lv_aload_n (pc := 97) hx hb dX8_isStaying_97 rfl (lv_at hl 1 rfl) ?_
              refine zk_gt (pc := 98) C hw zl_X8_17 0 rfl rfl dX8_isStaying_98 ?_
              refine lv_bipush (pc := 101) (v := 36) hx hb dX8_isStaying_101 (by decide) ?_
              refine zk_ialdK (pc := 103) 36 (by decide) C hw 1 rfl (by decide) dX8_isStaying_103 ?_
              refine lv_icmp_ge (pc := 104) (tgt := 111) hx hb dX8_isStaying_104 (by decide) (fun q15 => ?_) (fun q15 => ?_)
              · replace hf := if_t q15 hf
                refine lv_iconst (pc := 111) (v := 0) hx hb dX8_isStaying_111 (by decide) ?_
                have hf := Option.some.inj hf
                subst hf
                exact zk_retz (pc := 112) (b := false) (ww := [xM M b_isKept b_size b_at b_from b_sort b_fled b_flights b_firstFlight b_bestHarms b_bestRage b_harmed b_raged, xI cy ((M 2)) 39 b_now]) C hw hr hQ dX8_isStaying_112
              · replace hf := if_f q15 hf
                refine lv_iconst (pc := 107) (v := 1) hx hb dX8_isStaying_107 (by decide) ?_
                refine lv_goto (pc := 108) (tgt := 112) hx hb dX8_isStaying_108 (by decide) ?_
                have hf := Option.some.inj hf
                subst hf
                exact zk_retz (pc := 112) (b := true) (ww := [xM M b_isKept b_size b_at b_from b_sort b_fled b_flights b_firstFlight b_bestHarms b_bestRage b_harmed b_raged, xI cy ((M 2)) 39 b_now]) C hw hr hQ dX8_isStaying_112
          · replace hf := if_f q12 hf
            have eq3 := i32_ne (n := 1) (by decide) q3
            have eq7 := i32_ne (n := 2) (by decide) q7
            have eq8 := i32_ne (n := 3) (by decide) q8
            have eq9 := i32_ne (n := 4) (by decide) q9
            have eq12 := i32_ne (n := 5) (by decide) q12
            refine lv_tableOut (pc := 11) (tgt := 113) hx hb dX8_isStaying_11 (by omega) (by decide) ?_
            exact J113 u1 _ _ _ hf hw (lv_sub hl [1, 0] rfl)
def zf_X8_soothes_22 (b_now : Nat → Int32) (v1 : Int32) (t0 : Int32) (t1 : Int32) : Option (Int32) := (Option.bind (zf_X8_kind v1 b_now) (fun u3 => (if u3 = 1 then some ((t1 + t0)) else (if u3 = 2 then some (((b_now 33) / (4 : Int32))) else (if u3 = 3 then some (((t1 + t0) + (b_now 35))) else (if u3 = 4 then (Option.bind (zf_X8_a v1 b_now) (fun u8 => some ((((b_now 33) / (4 : Int32)) + u8)))) else (if u3 = 5 then (Option.bind (zf_X8_a v1 b_now) (fun u10 => some ((-u10)))) else (Option.bind (zf_X8_a v1 b_now) (fun u11 => some (u11))))))))))
def zf_X8_soothes (x1 : Int32) (b_now : Nat → Int32) : Option (Int32) := (Option.bind (zf_X8_a x1 b_now) (fun u1 => (if ((b_now 33) - (b_now 33) / (2 : Int32) * (2 : Int32)) = 0 then zf_X8_soothes_22 b_now x1 ((3 : Int32)) u1 else zf_X8_soothes_22 b_now x1 ((0 : Int32)) u1)))
abbrev zr_X8_soothes : Room := { frames := 1, cells := 0, slots := 0, locals := 21 }
set_option maxHeartbeats 4000000 in
set_option maxRecDepth 100000 in
theorem c_X8_soothes (l : Launch) (G : va_G) (cy : Nat → ClassId) (tt : Nat → Nat) (M : Nat → Nat) (b_isKept : Bool) (b_size : Int32) (b_at : Int32) (b_from : Int32) (b_sort : Int32) (b_fled : Bool) (b_flights : Int32) (b_firstFlight : Int32) (b_bestHarms : Int32) (b_bestRage : Int32) (b_harmed : Int64) (b_raged : Int64) (x1 : Int32) (b_now : Nat → Int32) (res : Int32) (hf : zf_X8_soothes x1 b_now = some res) : zCT l yX8_soothes cX8_soothes 3 (some .int) zr_X8_soothes G cy tt [.ref ((M 0)), .int x1] [xM M b_isKept b_size b_at b_from b_sort b_fled b_flights b_firstFlight b_bestHarms b_bestRage b_harmed b_raged, xI cy ((M 2)) 39 b_now] (some (.int res)) [xM M b_isKept b_size b_at b_from b_sort b_fled b_flights b_firstFlight b_bestHarms b_bestRage b_harmed b_raged, xI cy ((M 2)) 39 b_now] := by
  refine zk_start zn_X8 (Nat.le_of_ble_eq_true rfl) ?_
  intro p e s m args below meth c A ls Q C hr hQ hw hl
  have C : zCx p m c s args meth cX8_soothes 3 RX8 G cy tt A := C
  have hx := C.1.1
  have hb := C.1.2.1
  have hl : lv_has ls 3 [(0, .ref ((M 0))), (1, .int x1)] := hl
  have J22 : ∀ (v1 : Int32) (t0 : Int32) (t1 : Int32) (H : Heap) (locs : List Loc) (ls : Array Slot), zf_X8_soothes_22 b_now v1 t0 t1 = some res → zWd G A s.heap H locs [xM M b_isKept b_size b_at b_from b_sort b_fled b_flights b_firstFlight b_bestHarms b_bestRage b_harmed b_raged, xI cy ((M 2)) 39 b_now] → lv_has ls 3 [(0, .ref ((M 0))), (1, .int v1)] → W p l e zr_X8_soothes s m args below meth c H locs 0 0 Q (F0 m 22 ls [.int t0, .int t1]) := by
    intro v1 t0 t1 H locs ls hf hw hl
    rw [zf_X8_soothes_22] at hf
    refine lv_iadd (pc := 22) hx hb dX8_soothes_22 ?_
    refine lv_istore_n (pc := 23) (lv' := [(2, .int ((t1 + t0))), (0, .ref ((M 0))), (1, .int v1)]) hx hb dX8_soothes_23 rfl hl (by decide) rfl (fun ls hl => ?_)
    refine lv_aload_n (pc := 24) hx hb dX8_soothes_24 rfl (lv_at hl 1 rfl) ?_
    refine lv_iload_n (pc := 25) hx hb dX8_soothes_25 rfl (lv_at hl 2 rfl) ?_
    obtain ⟨u3, u3e, hf⟩ := bd hf
    refine zk_cV (pc := 26) (ci := 8) (q0 := 0) (rest := []) (st1 := [.int u3]) (w' := [xM M b_isKept b_size b_at b_from b_sort b_fled b_flights b_firstFlight b_bestHarms b_bestRage b_harmed b_raged, xI cy ((M 2)) 39 b_now]) (mk := [none, none]) C hw (c_X8_kind l G cy tt M b_isKept b_size b_at b_from b_sort b_fled b_flights b_firstFlight b_bestHarms b_bestRage b_harmed b_raged v1 b_now _ u3e) zy_X8_kind zm_X8_153 rfl rfl rfl [0, 1] rfl rfl rfl rfl rfl rfl rfl rfl hl.1 ⟨rfl, rfl⟩ ⟨Nat.le_of_ble_eq_true rfl, Nat.le_of_ble_eq_true rfl⟩ rfl (Nat.le_of_ble_eq_true rfl) ⟨Nat.zero_le _, Nat.zero_le _⟩ dX8_soothes_26 (fun H locs hw => ?_)
    by_cases q4 : u3 = (1 : Int32)
    · replace hf := if_t q4 hf
      refine zk_tabIn (pc := 29) (off := 35) (tgt := 64) q4 C dX8_soothes_29 (by decide) (by decide) (by decide +kernel) (by decide) ?_
      refine lv_iload_n (pc := 64) hx hb dX8_soothes_64 rfl (lv_at hl 0 rfl) ?_
      have hf := Option.some.inj hf
      subst hf
      exact zk_reti (pc := 65) (ww := [xM M b_isKept b_size b_at b_from b_sort b_fled b_flights b_firstFlight b_bestHarms b_bestRage b_harmed b_raged, xI cy ((M 2)) 39 b_now]) C hw hr hQ dX8_soothes_65
    · replace hf := if_f q4 hf
      by_cases q5 : u3 = (2 : Int32)
      · replace hf := if_t q5 hf
        refine zk_tabIn (pc := 29) (off := 37) (tgt := 66) q5 C dX8_soothes_29 (by decide) (by decide) (by decide +kernel) (by decide) ?_
        refine lv_aload_n (pc := 66) hx hb dX8_soothes_66 rfl (lv_at hl 1 rfl) ?_
        refine zk_gt (pc := 67) C hw zl_X8_17 0 rfl rfl dX8_soothes_67 ?_
        refine lv_bipush (pc := 70) (v := 33) hx hb dX8_soothes_70 (by decide) ?_
        refine zk_ialdK (pc := 72) 33 (by decide) C hw 1 rfl (by decide) dX8_soothes_72 ?_
        refine lv_iconst (pc := 73) (v := 4) hx hb dX8_soothes_73 (by decide) ?_
        refine lv_idiv (pc := 74) hx hb dX8_soothes_74 (by decide) ?_
        have hf := Option.some.inj hf
        subst hf
        exact zk_reti (pc := 75) (ww := [xM M b_isKept b_size b_at b_from b_sort b_fled b_flights b_firstFlight b_bestHarms b_bestRage b_harmed b_raged, xI cy ((M 2)) 39 b_now]) C hw hr hQ dX8_soothes_75
      · replace hf := if_f q5 hf
        by_cases q6 : u3 = (3 : Int32)
        · replace hf := if_t q6 hf
          refine zk_tabIn (pc := 29) (off := 47) (tgt := 76) q6 C dX8_soothes_29 (by decide) (by decide) (by decide +kernel) (by decide) ?_
          refine lv_iload_n (pc := 76) hx hb dX8_soothes_76 rfl (lv_at hl 0 rfl) ?_
          refine lv_aload_n (pc := 77) hx hb dX8_soothes_77 rfl (lv_at hl 1 rfl) ?_
          refine zk_gt (pc := 78) C hw zl_X8_17 0 rfl rfl dX8_soothes_78 ?_
          refine lv_bipush (pc := 81) (v := 35) hx hb dX8_soothes_81 (by decide) ?_
          refine zk_ialdK (pc := 83) 35 (by decide) C hw 1 rfl (by decide) dX8_soothes_83 ?_
          refine lv_iadd (pc := 84) hx hb dX8_soothes_84 ?_
          have hf := Option.some.inj hf
          subst hf
          exact zk_reti (pc := 85) (ww := [xM M b_isKept b_size b_at b_from b_sort b_fled b_flights b_firstFlight b_bestHarms b_bestRage b_harmed b_raged, xI cy ((M 2)) 39 b_now]) C hw hr hQ dX8_soothes_85
        · replace hf := if_f q6 hf
          by_cases q7 : u3 = (4 : Int32)
          · replace hf := if_t q7 hf
            refine zk_tabIn (pc := 29) (off := 57) (tgt := 86) q7 C dX8_soothes_29 (by decide) (by decide) (by decide +kernel) (by decide) ?_
            refine lv_aload_n (pc := 86) hx hb dX8_soothes_86 rfl (lv_at hl 1 rfl) ?_
            refine zk_gt (pc := 87) C hw zl_X8_17 0 rfl rfl dX8_soothes_87 ?_
            refine lv_bipush (pc := 90) (v := 33) hx hb dX8_soothes_90 (by decide) ?_
            refine zk_ialdK (pc := 92) 33 (by decide) C hw 1 rfl (by decide) dX8_soothes_92 ?_
            refine lv_iconst (pc := 93) (v := 4) hx hb dX8_soothes_93 (by decide) ?_
            refine lv_idiv (pc := 94) hx hb dX8_soothes_94 (by decide) ?_
            refine lv_aload_n (pc := 95) hx hb dX8_soothes_95 rfl (lv_at hl 1 rfl) ?_
            refine lv_iload_n (pc := 96) hx hb dX8_soothes_96 rfl (lv_at hl 2 rfl) ?_
            obtain ⟨u8, u8e, hf⟩ := bd hf
            refine zk_cV (pc := 97) (ci := 8) (q0 := 0) (rest := [.int (((b_now 33) / (4 : Int32)))]) (st1 := [.int u8, .int (((b_now 33) / (4 : Int32)))]) (w' := [xM M b_isKept b_size b_at b_from b_sort b_fled b_flights b_firstFlight b_bestHarms b_bestRage b_harmed b_raged, xI cy ((M 2)) 39 b_now]) (mk := [none, none]) C hw (c_X8_a l G cy tt M b_isKept b_size b_at b_from b_sort b_fled b_flights b_firstFlight b_bestHarms b_bestRage b_harmed b_raged v1 b_now _ u8e) zy_X8_a zm_X8_156 rfl rfl rfl [0, 1] rfl rfl rfl rfl rfl rfl rfl rfl hl.1 ⟨rfl, rfl⟩ ⟨Nat.le_of_ble_eq_true rfl, Nat.le_of_ble_eq_true rfl⟩ rfl (Nat.le_of_ble_eq_true rfl) ⟨Nat.zero_le _, Nat.zero_le _⟩ dX8_soothes_97 (fun H locs hw => ?_)
            refine lv_iadd (pc := 100) hx hb dX8_soothes_100 ?_
            have hf := Option.some.inj hf
            subst hf
            exact zk_reti (pc := 101) (ww := [xM M b_isKept b_size b_at b_from b_sort b_fled b_flights b_firstFlight b_bestHarms b_bestRage b_harmed b_raged, xI cy ((M 2)) 39 b_now]) C hw hr hQ dX8_soothes_101
          · replace hf := if_f q7 hf
            by_cases q9 : u3 = (5 : Int32)
            · replace hf := if_t q9 hf
              refine zk_tabIn (pc := 29) (off := 73) (tgt := 102) q9 C dX8_soothes_29 (by decide) (by decide) (by decide +kernel) (by decide) ?_
              refine lv_aload_n (pc := 102) hx hb dX8_soothes_102 rfl (lv_at hl 1 rfl) ?_
              refine lv_iload_n (pc := 103) hx hb dX8_soothes_103 rfl (lv_at hl 2 rfl) ?_
              obtain ⟨u10, u10e, hf⟩ := bd hf
              refine zk_cV (pc := 104) (ci := 8) (q0 := 0) (rest := []) (st1 := [.int u10]) (w' := [xM M b_isKept b_size b_at b_from b_sort b_fled b_flights b_firstFlight b_bestHarms b_bestRage b_harmed b_raged, xI cy ((M 2)) 39 b_now]) (mk := [none, none]) C hw (c_X8_a l G cy tt M b_isKept b_size b_at b_from b_sort b_fled b_flights b_firstFlight b_bestHarms b_bestRage b_harmed b_raged v1 b_now _ u10e) zy_X8_a zm_X8_156 rfl rfl rfl [0, 1] rfl rfl rfl rfl rfl rfl rfl rfl hl.1 ⟨rfl, rfl⟩ ⟨Nat.le_of_ble_eq_true rfl, Nat.le_of_ble_eq_true rfl⟩ rfl (Nat.le_of_ble_eq_true rfl) ⟨Nat.zero_le _, Nat.zero_le _⟩ dX8_soothes_104 (fun H locs hw => ?_)
              refine lv_ineg (pc := 107) hx hb dX8_soothes_107 ?_
              have hf := Option.some.inj hf
              subst hf
              exact zk_reti (pc := 108) (ww := [xM M b_isKept b_size b_at b_from b_sort b_fled b_flights b_firstFlight b_bestHarms b_bestRage b_harmed b_raged, xI cy ((M 2)) 39 b_now]) C hw hr hQ dX8_soothes_108
            · replace hf := if_f q9 hf
              have eq4 := i32_ne (n := 1) (by decide) q4
              have eq5 := i32_ne (n := 2) (by decide) q5
              have eq6 := i32_ne (n := 3) (by decide) q6
              have eq7 := i32_ne (n := 4) (by decide) q7
              have eq9 := i32_ne (n := 5) (by decide) q9
              refine lv_tableOut (pc := 29) (tgt := 109) hx hb dX8_soothes_29 (by omega) (by decide) ?_
              refine lv_aload_n (pc := 109) hx hb dX8_soothes_109 rfl (lv_at hl 1 rfl) ?_
              refine lv_iload_n (pc := 110) hx hb dX8_soothes_110 rfl (lv_at hl 2 rfl) ?_
              obtain ⟨u11, u11e, hf⟩ := bd hf
              refine zk_cV (pc := 111) (ci := 8) (q0 := 0) (rest := []) (st1 := [.int u11]) (w' := [xM M b_isKept b_size b_at b_from b_sort b_fled b_flights b_firstFlight b_bestHarms b_bestRage b_harmed b_raged, xI cy ((M 2)) 39 b_now]) (mk := [none, none]) C hw (c_X8_a l G cy tt M b_isKept b_size b_at b_from b_sort b_fled b_flights b_firstFlight b_bestHarms b_bestRage b_harmed b_raged v1 b_now _ u11e) zy_X8_a zm_X8_156 rfl rfl rfl [0, 1] rfl rfl rfl rfl rfl rfl rfl rfl hl.1 ⟨rfl, rfl⟩ ⟨Nat.le_of_ble_eq_true rfl, Nat.le_of_ble_eq_true rfl⟩ rfl (Nat.le_of_ble_eq_true rfl) ⟨Nat.zero_le _, Nat.zero_le _⟩ dX8_soothes_111 (fun H locs hw => ?_)
              have hf := Option.some.inj hf
              subst hf
              exact zk_reti (pc := 114) (ww := [xM M b_isKept b_size b_at b_from b_sort b_fled b_flights b_firstFlight b_bestHarms b_bestRage b_harmed b_raged, xI cy ((M 2)) 39 b_now]) C hw hr hQ dX8_soothes_114
  rw [zf_X8_soothes] at hf
  refine lv_aload_n (pc := 0) hx hb dX8_soothes_0 rfl (lv_at hl 0 rfl) ?_
  refine lv_iload_n (pc := 1) hx hb dX8_soothes_1 rfl (lv_at hl 1 rfl) ?_
  obtain ⟨u1, u1e, hf⟩ := bd hf
  refine zk_cV (pc := 2) (ci := 8) (q0 := 0) (rest := []) (st1 := [.int u1]) (w' := [xM M b_isKept b_size b_at b_from b_sort b_fled b_flights b_firstFlight b_bestHarms b_bestRage b_harmed b_raged, xI cy ((M 2)) 39 b_now]) (mk := [none, none]) C hw (c_X8_a l G cy tt M b_isKept b_size b_at b_from b_sort b_fled b_flights b_firstFlight b_bestHarms b_bestRage b_harmed b_raged x1 b_now _ u1e) zy_X8_a zm_X8_156 rfl rfl rfl [0, 1] rfl rfl rfl rfl rfl rfl rfl rfl hl.1 ⟨rfl, rfl⟩ ⟨Nat.le_of_ble_eq_true rfl, Nat.le_of_ble_eq_true rfl⟩ rfl (Nat.le_of_ble_eq_true rfl) ⟨Nat.zero_le _, Nat.zero_le _⟩ dX8_soothes_2 (fun H locs hw => ?_)
  refine lv_aload_n (pc := 5) hx hb dX8_soothes_5 rfl (lv_at hl 0 rfl) ?_
  refine zk_gt (pc := 6) C hw zl_X8_17 0 rfl rfl dX8_soothes_6 ?_
  refine lv_bipush (pc := 9) (v := 33) hx hb dX8_soothes_9 (by decide) ?_
  refine zk_ialdK (pc := 11) 33 (by decide) C hw 1 rfl (by decide) dX8_soothes_11 ?_
  refine lv_iconst (pc := 12) (v := 2) hx hb dX8_soothes_12 (by decide) ?_
  refine lv_irem (pc := 13) hx hb dX8_soothes_13 (by decide) ?_
  refine lv_if_ne (pc := 14) (tgt := 21) hx hb dX8_soothes_14 (by decide) (fun q2 => ?_) (fun q2 => ?_)
  · replace hf := if_f q2 hf
    refine lv_iconst (pc := 21) (v := 0) hx hb dX8_soothes_21 (by decide) ?_
    exact J22 x1 ((0 : Int32)) u1 _ _ _ hf hw (lv_sub hl [0, 1] rfl)
  · replace hf := if_t q2 hf
    refine lv_iconst (pc := 17) (v := 3) hx hb dX8_soothes_17 (by decide) ?_
    refine lv_goto (pc := 18) (tgt := 22) hx hb dX8_soothes_18 (by decide) ?_
    exact J22 x1 ((3 : Int32)) u1 _ _ _ hf hw (lv_sub hl [0, 1] rfl)
def zf_X8_grow_32 (t0 : Bool) (t1 : Int32) (b_now : Nat → Int32) : Option ((Nat → Int32)) := some ((upd b_now 35 ((if (t1 + (bI t0)) < (9 : Int32) then (t1 + (bI t0)) else (9 : Int32)))))
def zf_X8_grow (x1 : Int32) (b_now : Nat → Int32) : Option ((Nat → Int32)) := (if x1 = 0 then none else (if ((b_now 37) - (b_now 37) / x1 * x1) = 0 then zf_X8_grow_32 true ((b_now 35)) b_now else zf_X8_grow_32 false ((b_now 35)) b_now))
abbrev zr_X8_grow : Room := { frames := 1, cells := 0, slots := 0, locals := 21 }
set_option maxHeartbeats 4000000 in
set_option maxRecDepth 100000 in
theorem c_X8_grow (l : Launch) (G : va_G) (cy : Nat → ClassId) (tt : Nat → Nat) (M : Nat → Nat) (b_isKept : Bool) (b_size : Int32) (b_at : Int32) (b_from : Int32) (b_sort : Int32) (b_fled : Bool) (b_flights : Int32) (b_firstFlight : Int32) (b_bestHarms : Int32) (b_bestRage : Int32) (b_harmed : Int64) (b_raged : Int64) (x1 : Int32) (b_now : Nat → Int32) (res : (Nat → Int32)) (hf : zf_X8_grow x1 b_now = some res) : zCT l yX8_grow cX8_grow 2 none zr_X8_grow G cy tt [.ref ((M 0)), .int x1] [xM M b_isKept b_size b_at b_from b_sort b_fled b_flights b_firstFlight b_bestHarms b_bestRage b_harmed b_raged, xI cy ((M 2)) 39 b_now] none [xM M b_isKept b_size b_at b_from b_sort b_fled b_flights b_firstFlight b_bestHarms b_bestRage b_harmed b_raged, xI cy ((M 2)) 39 res] := by
  refine zk_start zn_X8 (Nat.le_of_ble_eq_true rfl) ?_
  intro p e s m args below meth c A ls Q C hr hQ hw hl
  have C : zCx p m c s args meth cX8_grow 2 RX8 G cy tt A := C
  have hx := C.1.1
  have hb := C.1.2.1
  have hl : lv_has ls 2 [(0, .ref ((M 0))), (1, .int x1)] := hl
  have J32 : ∀ (t0 : Bool) (t1 : Int32) (b_now : Nat → Int32) (H : Heap) (locs : List Loc) (ls : Array Slot), zf_X8_grow_32 t0 t1 b_now = some res → zWd G A s.heap H locs [xM M b_isKept b_size b_at b_from b_sort b_fled b_flights b_firstFlight b_bestHarms b_bestRage b_harmed b_raged, xI cy ((M 2)) 39 b_now] → lv_has ls 2 [] → W p l e zr_X8_grow s m args below meth c H locs 0 0 Q (F0 m 32 ls [.int (bI t0), .int t1, .int ((9 : Int32)), .int ((35 : Int32)), .ref ((M 2))]) := by
    intro t0 t1 b_now H locs ls hf hw hl
    rw [zf_X8_grow_32] at hf
    refine lv_iadd (pc := 32) hx hb dX8_grow_32 ?_
    refine zk_min (pc := 33) C hl.1 zm_X8_59 ⟨Nat.le_of_ble_eq_true rfl, Nat.le_of_ble_eq_true rfl⟩ ⟨Nat.zero_le _, Nat.zero_le _⟩ dX8_grow_33 ?_
    refine zk_iastK (pc := 36) (w' := [xM M b_isKept b_size b_at b_from b_sort b_fled b_flights b_firstFlight b_bestHarms b_bestRage b_harmed b_raged, xI cy ((M 2)) 39 ((upd b_now 35 ((if (t1 + (bI t0)) < (9 : Int32) then (t1 + (bI t0)) else (9 : Int32)))))]) 35 (by decide) C hw 1 rfl (by decide) rfl dX8_grow_36 (fun H locs hw => ?_)
    have hf := Option.some.inj hf
    subst hf
    exact zk_retv (pc := 37) (ww := [xM M b_isKept b_size b_at b_from b_sort b_fled b_flights b_firstFlight b_bestHarms b_bestRage b_harmed b_raged, xI cy ((M 2)) 39 ((upd b_now 35 ((if (t1 + (bI t0)) < (9 : Int32) then (t1 + (bI t0)) else (9 : Int32)))))]) C hw hr hQ dX8_grow_37
  rw [zf_X8_grow] at hf
  refine lv_aload_n (pc := 0) hx hb dX8_grow_0 rfl (lv_at hl 0 rfl) ?_
  refine zk_gt (pc := 1) C hw zl_X8_17 0 rfl rfl dX8_grow_1 ?_
  refine lv_bipush (pc := 4) (v := 35) hx hb dX8_grow_4 (by decide) ?_
  refine lv_bipush (pc := 6) (v := 9) hx hb dX8_grow_6 (by decide) ?_
  refine lv_aload_n (pc := 8) hx hb dX8_grow_8 rfl (lv_at hl 0 rfl) ?_
  refine zk_gt (pc := 9) C hw zl_X8_17 0 rfl rfl dX8_grow_9 ?_
  refine lv_bipush (pc := 12) (v := 35) hx hb dX8_grow_12 (by decide) ?_
  refine zk_ialdK (pc := 14) 35 (by decide) C hw 1 rfl (by decide) dX8_grow_14 ?_
  refine lv_aload_n (pc := 15) hx hb dX8_grow_15 rfl (lv_at hl 0 rfl) ?_
  refine zk_gt (pc := 16) C hw zl_X8_17 0 rfl rfl dX8_grow_16 ?_
  refine lv_bipush (pc := 19) (v := 37) hx hb dX8_grow_19 (by decide) ?_
  refine zk_ialdK (pc := 21) 37 (by decide) C hw 1 rfl (by decide) dX8_grow_21 ?_
  refine lv_iload_n (pc := 22) hx hb dX8_grow_22 rfl (lv_at hl 1 rfl) ?_
  obtain ⟨q1, hf⟩ := ck0 hf
  refine lv_irem (pc := 23) hx hb dX8_grow_23 q1 ?_
  refine lv_if_ne (pc := 24) (tgt := 31) hx hb dX8_grow_24 (by decide) (fun q2 => ?_) (fun q2 => ?_)
  · replace hf := if_f q2 hf
    refine lv_iconst (pc := 31) (v := 0) hx hb dX8_grow_31 (by decide) ?_
    exact J32 false ((b_now 35)) b_now _ _ _ hf hw (lv_sub hl [] rfl)
  · replace hf := if_t q2 hf
    refine lv_iconst (pc := 27) (v := 1) hx hb dX8_grow_27 (by decide) ?_
    refine lv_goto (pc := 28) (tgt := 32) hx hb dX8_grow_28 (by decide) ?_
    exact J32 true ((b_now 35)) b_now _ _ _ hf hw (lv_sub hl [] rfl)
def zf_X8_step_199 (t0 : Bool) (b_now : Nat → Int32) (b_fled : Bool) : Option (Int32 × (Nat → Int32) × Bool) := (Option.bind (zf_X8_bound ((((b_now 34) - (bI t0)))) (((99 : Int32)))) (fun u12 => (Option.bind (zf_X8_bound ((((((upd b_now 34 u12)) 37) + (1 : Int32)))) (((9999 : Int32)))) (fun u13 => some ((bI t0), (upd ((upd b_now 34 u12)) 37 u13), b_fled)))))
def zf_X8_step_177 (b_now : Nat → Int32) (b_fled : Bool) : Option (Int32 × (Nat → Int32) × Bool) := (if (b_now 33) < (b_now 36) then zf_X8_step_199 false b_now b_fled else zf_X8_step_199 true b_now b_fled)
def zf_X8_step_110 (b_now : Nat → Int32) (b_fled : Bool) : Option (Int32 × (Nat → Int32) × Bool) := (Option.bind (zf_X8_grow (((4 : Int32))) b_now) (fun u14 => zf_X8_step_177 u14 b_fled))
def zf_X8_step_142 (b_now : Nat → Int32) (b_fled : Bool) : Option (Int32 × (Nat → Int32) × Bool) := (Option.bind (zf_X8_bound ((((b_now 33) + ((2 : Int32) * (b_now 35))))) (((99 : Int32)))) (fun u18 => (Option.bind (zf_X8_grow (((12 : Int32))) ((upd b_now 33 u18))) (fun u19 => zf_X8_step_177 u19 b_fled))))
def zf_X8_step_118 (v1 : Int32) (b_now : Nat → Int32) (b_fled : Bool) : Option (Int32 × (Nat → Int32) × Bool) := (if v1 = (-1 : Int32) then zf_X8_step_142 b_now b_fled else (if ix ((((4 : Int32) * v1) + (3 : Int32))) 39 then (if ix ((((4 : Int32) * v1) + (3 : Int32))) 39 then zf_X8_step_142 ((upd b_now (((((4 : Int32) * v1) + (3 : Int32))).toNatClampNeg) (((b_now ((((4 : Int32) * v1) + (3 : Int32))).toNatClampNeg) + (1 : Int32))))) true else none) else none))
def zf_X8_step (x1 : Int32) (b_now : Nat → Int32) (b_fled : Bool) : Option (Int32 × (Nat → Int32) × Bool) := (if x1 = (10 : Int32) then zf_X8_step_177 ((upd ((upd b_now 33 (((b_now 33) - (((b_now 33) - (b_now 34)) / (4 : Int32)))))) 34 (((((upd b_now 33 (((b_now 33) - (((b_now 33) - (b_now 34)) / (4 : Int32)))))) 34) + (((b_now 33) - (b_now 34)) / (4 : Int32)))))) false else (if x1 = (-1 : Int32) then zf_X8_step_118 x1 b_now false else (Option.bind (zf_X8_isStaying x1 b_now) (fun u3 => (if u3 then (Option.bind (zf_X8_soothes x1 b_now) (fun u5 => (Option.bind (zf_X8_bound ((((b_now 33) - u5))) (((99 : Int32)))) (fun u6 => (Option.bind (zf_X8_kind x1 ((upd b_now 33 u6))) (fun u7 => (if u7 = (2 : Int32) then zf_X8_step_110 ((upd b_now 33 u6)) false else (Option.bind (zf_X8_kind x1 ((upd b_now 33 u6))) (fun u9 => (if u9 = (4 : Int32) then zf_X8_step_110 ((upd b_now 33 u6)) false else zf_X8_step_177 ((upd b_now 33 u6)) false)))))))))) else zf_X8_step_118 x1 b_now false)))))
abbrev zr_X8_step : Room := { frames := 2, cells := 0, slots := 0, locals := 43 }
set_option maxHeartbeats 4000000 in
set_option maxRecDepth 100000 in
theorem c_X8_step (l : Launch) (G : va_G) (cy : Nat → ClassId) (tt : Nat → Nat) (M : Nat → Nat) (b_isKept : Bool) (b_size : Int32) (b_at : Int32) (b_from : Int32) (b_sort : Int32) (b_flights : Int32) (b_firstFlight : Int32) (b_bestHarms : Int32) (b_bestRage : Int32) (b_harmed : Int64) (b_raged : Int64) (x1 : Int32) (b_now : Nat → Int32) (b_fled : Bool) (res : Int32 × (Nat → Int32) × Bool) (hf : zf_X8_step x1 b_now b_fled = some res) : zCT l yX8_step cX8_step 3 (some .int) zr_X8_step G cy tt [.ref ((M 0)), .int x1] [xM M b_isKept b_size b_at b_from b_sort b_fled b_flights b_firstFlight b_bestHarms b_bestRage b_harmed b_raged, xI cy ((M 2)) 39 b_now] (some (.int res.1)) [xM M b_isKept b_size b_at b_from b_sort res.2.2 b_flights b_firstFlight b_bestHarms b_bestRage b_harmed b_raged, xI cy ((M 2)) 39 res.2.1] := by
  refine zk_start zn_X8 (Nat.le_of_ble_eq_true rfl) ?_
  intro p e s m args below meth c A ls Q C hr hQ hw hl
  have C : zCx p m c s args meth cX8_step 3 RX8 G cy tt A := C
  have hx := C.1.1
  have hb := C.1.2.1
  have hl : lv_has ls 3 [(0, .ref ((M 0))), (1, .int x1)] := hl
  have J199 : ∀ (t0 : Bool) (b_now : Nat → Int32) (b_fled : Bool) (H : Heap) (locs : List Loc) (ls : Array Slot), zf_X8_step_199 t0 b_now b_fled = some res → zWd G A s.heap H locs [xM M b_isKept b_size b_at b_from b_sort b_fled b_flights b_firstFlight b_bestHarms b_bestRage b_harmed b_raged, xI cy ((M 2)) 39 b_now] → lv_has ls 3 [(0, .ref ((M 0)))] → W p l e zr_X8_step s m args below meth c H locs 0 0 Q (F0 m 199 ls [.int (bI t0)]) := by
    intro t0 b_now b_fled H locs ls hf hw hl
    rw [zf_X8_step_199] at hf
    refine lv_istore_n (pc := 199) (lv' := [(2, .int (bI t0)), (0, .ref ((M 0)))]) hx hb dX8_step_199 rfl hl (by decide) rfl (fun ls hl => ?_)
    refine lv_aload_n (pc := 200) hx hb dX8_step_200 rfl (lv_at hl 1 rfl) ?_
    refine zk_gt (pc := 201) C hw zl_X8_17 0 rfl rfl dX8_step_201 ?_
    refine lv_bipush (pc := 204) (v := 34) hx hb dX8_step_204 (by decide) ?_
    refine lv_aload_n (pc := 206) hx hb dX8_step_206 rfl (lv_at hl 1 rfl) ?_
    refine zk_gt (pc := 207) C hw zl_X8_17 0 rfl rfl dX8_step_207 ?_
    refine lv_bipush (pc := 210) (v := 34) hx hb dX8_step_210 (by decide) ?_
    refine zk_ialdK (pc := 212) 34 (by decide) C hw 1 rfl (by decide) dX8_step_212 ?_
    refine lv_iload_n (pc := 213) hx hb dX8_step_213 rfl (lv_at hl 0 rfl) ?_
    refine lv_isub (pc := 214) hx hb dX8_step_214 ?_
    refine lv_bipush (pc := 215) (v := 99) hx hb dX8_step_215 (by decide) ?_
    obtain ⟨u12, u12e, hf⟩ := bd hf
    refine zk_cS (pc := 217) (rest := [.int ((34 : Int32)), .ref ((M 2))]) (st1 := [.int u12, .int ((34 : Int32)), .ref ((M 2))]) (w' := [xM M b_isKept b_size b_at b_from b_sort b_fled b_flights b_firstFlight b_bestHarms b_bestRage b_harmed b_raged, xI cy ((M 2)) 39 b_now]) (mk := [none, none]) C hw (c_X8_bound l G cy tt ((((b_now 34) - (bI t0)))) (((99 : Int32))) _ u12e) zy_X8_bound zm_X8_173 [] rfl rfl rfl rfl rfl rfl rfl rfl hl.1 ⟨rfl, rfl⟩ ⟨Nat.le_of_ble_eq_true rfl, Nat.le_of_ble_eq_true rfl⟩ rfl (Nat.le_of_ble_eq_true rfl) ⟨Nat.zero_le _, Nat.zero_le _⟩ dX8_step_217 (fun H locs hw => ?_)
    refine zk_iastK (pc := 220) (w' := [xM M b_isKept b_size b_at b_from b_sort b_fled b_flights b_firstFlight b_bestHarms b_bestRage b_harmed b_raged, xI cy ((M 2)) 39 ((upd b_now 34 u12))]) 34 (by decide) C hw 1 rfl (by decide) rfl dX8_step_220 (fun H locs hw => ?_)
    refine lv_aload_n (pc := 221) hx hb dX8_step_221 rfl (lv_at hl 1 rfl) ?_
    refine zk_gt (pc := 222) C hw zl_X8_17 0 rfl rfl dX8_step_222 ?_
    refine lv_bipush (pc := 225) (v := 37) hx hb dX8_step_225 (by decide) ?_
    refine lv_aload_n (pc := 227) hx hb dX8_step_227 rfl (lv_at hl 1 rfl) ?_
    refine zk_gt (pc := 228) C hw zl_X8_17 0 rfl rfl dX8_step_228 ?_
    refine lv_bipush (pc := 231) (v := 37) hx hb dX8_step_231 (by decide) ?_
    refine zk_ialdK (pc := 233) 37 (by decide) C hw 1 rfl (by decide) dX8_step_233 ?_
    refine lv_iconst (pc := 234) (v := 1) hx hb dX8_step_234 (by decide) ?_
    refine lv_iadd (pc := 235) hx hb dX8_step_235 ?_
    refine lv_sipush (pc := 236) (v := 9999) hx hb dX8_step_236 (by decide) ?_
    obtain ⟨u13, u13e, hf⟩ := bd hf
    refine zk_cS (pc := 239) (rest := [.int ((37 : Int32)), .ref ((M 2))]) (st1 := [.int u13, .int ((37 : Int32)), .ref ((M 2))]) (w' := [xM M b_isKept b_size b_at b_from b_sort b_fled b_flights b_firstFlight b_bestHarms b_bestRage b_harmed b_raged, xI cy ((M 2)) 39 ((upd b_now 34 u12))]) (mk := [none, none]) C hw (c_X8_bound l G cy tt ((((((upd b_now 34 u12)) 37) + (1 : Int32)))) (((9999 : Int32))) _ u13e) zy_X8_bound zm_X8_173 [] rfl rfl rfl rfl rfl rfl rfl rfl hl.1 ⟨rfl, rfl⟩ ⟨Nat.le_of_ble_eq_true rfl, Nat.le_of_ble_eq_true rfl⟩ rfl (Nat.le_of_ble_eq_true rfl) ⟨Nat.zero_le _, Nat.zero_le _⟩ dX8_step_239 (fun H locs hw => ?_)
    refine zk_iastK (pc := 242) (w' := [xM M b_isKept b_size b_at b_from b_sort b_fled b_flights b_firstFlight b_bestHarms b_bestRage b_harmed b_raged, xI cy ((M 2)) 39 ((upd ((upd b_now 34 u12)) 37 u13))]) 37 (by decide) C hw 1 rfl (by decide) rfl dX8_step_242 (fun H locs hw => ?_)
    refine lv_iload_n (pc := 243) hx hb dX8_step_243 rfl (lv_at hl 0 rfl) ?_
    have hf := Option.some.inj hf
    subst hf
    exact zk_reti (pc := 244) (ww := [xM M b_isKept b_size b_at b_from b_sort b_fled b_flights b_firstFlight b_bestHarms b_bestRage b_harmed b_raged, xI cy ((M 2)) 39 ((upd ((upd b_now 34 u12)) 37 u13))]) C hw hr hQ dX8_step_244
  have J177 : ∀ (b_now : Nat → Int32) (b_fled : Bool) (H : Heap) (locs : List Loc) (ls : Array Slot), zf_X8_step_177 b_now b_fled = some res → zWd G A s.heap H locs [xM M b_isKept b_size b_at b_from b_sort b_fled b_flights b_firstFlight b_bestHarms b_bestRage b_harmed b_raged, xI cy ((M 2)) 39 b_now] → lv_has ls 3 [(0, .ref ((M 0)))] → W p l e zr_X8_step s m args below meth c H locs 0 0 Q (F0 m 177 ls []) := by
    intro b_now b_fled H locs ls hf hw hl
    rw [zf_X8_step_177] at hf
    refine lv_aload_n (pc := 177) hx hb dX8_step_177 rfl (lv_at hl 0 rfl) ?_
    refine zk_gt (pc := 178) C hw zl_X8_17 0 rfl rfl dX8_step_178 ?_
    refine lv_bipush (pc := 181) (v := 33) hx hb dX8_step_181 (by decide) ?_
    refine zk_ialdK (pc := 183) 33 (by decide) C hw 1 rfl (by decide) dX8_step_183 ?_
    refine lv_aload_n (pc := 184) hx hb dX8_step_184 rfl (lv_at hl 0 rfl) ?_
    refine zk_gt (pc := 185) C hw zl_X8_17 0 rfl rfl dX8_step_185 ?_
    refine lv_bipush (pc := 188) (v := 36) hx hb dX8_step_188 (by decide) ?_
    refine zk_ialdK (pc := 190) 36 (by decide) C hw 1 rfl (by decide) dX8_step_190 ?_
    refine lv_icmp_lt (pc := 191) (tgt := 198) hx hb dX8_step_191 (by decide) (fun q11 => ?_) (fun q11 => ?_)
    · replace hf := if_t q11 hf
      refine lv_iconst (pc := 198) (v := 0) hx hb dX8_step_198 (by decide) ?_
      exact J199 false b_now b_fled _ _ _ hf hw (lv_sub hl [0] rfl)
    · replace hf := if_f q11 hf
      refine lv_iconst (pc := 194) (v := 1) hx hb dX8_step_194 (by decide) ?_
      refine lv_goto (pc := 195) (tgt := 199) hx hb dX8_step_195 (by decide) ?_
      exact J199 true b_now b_fled _ _ _ hf hw (lv_sub hl [0] rfl)
  have J110 : ∀ (b_now : Nat → Int32) (b_fled : Bool) (H : Heap) (locs : List Loc) (ls : Array Slot), zf_X8_step_110 b_now b_fled = some res → zWd G A s.heap H locs [xM M b_isKept b_size b_at b_from b_sort b_fled b_flights b_firstFlight b_bestHarms b_bestRage b_harmed b_raged, xI cy ((M 2)) 39 b_now] → lv_has ls 3 [(0, .ref ((M 0)))] → W p l e zr_X8_step s m args below meth c H locs 0 0 Q (F0 m 110 ls []) := by
    intro b_now b_fled H locs ls hf hw hl
    rw [zf_X8_step_110] at hf
    refine lv_aload_n (pc := 110) hx hb dX8_step_110 rfl (lv_at hl 0 rfl) ?_
    refine lv_iconst (pc := 111) (v := 4) hx hb dX8_step_111 (by decide) ?_
    obtain ⟨u14, u14e, hf⟩ := bd hf
    refine zk_cV (pc := 112) (ci := 8) (q0 := 0) (rest := []) (st1 := []) (w' := [xM M b_isKept b_size b_at b_from b_sort b_fled b_flights b_firstFlight b_bestHarms b_bestRage b_harmed b_raged, xI cy ((M 2)) 39 u14]) (mk := [none, some (xI cy ((M 2)) 39 u14)]) C hw (c_X8_grow l G cy tt M b_isKept b_size b_at b_from b_sort b_fled b_flights b_firstFlight b_bestHarms b_bestRage b_harmed b_raged (((4 : Int32))) b_now _ u14e) zy_X8_grow zm_X8_176 rfl rfl rfl [0, 1] rfl rfl rfl rfl rfl rfl rfl rfl hl.1 ⟨rfl, rfl⟩ ⟨Nat.le_of_ble_eq_true rfl, Nat.le_of_ble_eq_true rfl⟩ rfl (Nat.le_of_ble_eq_true rfl) ⟨Nat.zero_le _, Nat.zero_le _⟩ dX8_step_112 (fun H locs hw => ?_)
    refine lv_goto (pc := 115) (tgt := 177) hx hb dX8_step_115 (by decide) ?_
    exact J177 u14 b_fled _ _ _ hf hw (lv_sub hl [0] rfl)
  have J142 : ∀ (b_now : Nat → Int32) (b_fled : Bool) (H : Heap) (locs : List Loc) (ls : Array Slot), zf_X8_step_142 b_now b_fled = some res → zWd G A s.heap H locs [xM M b_isKept b_size b_at b_from b_sort b_fled b_flights b_firstFlight b_bestHarms b_bestRage b_harmed b_raged, xI cy ((M 2)) 39 b_now] → lv_has ls 3 [(0, .ref ((M 0)))] → W p l e zr_X8_step s m args below meth c H locs 0 0 Q (F0 m 142 ls []) := by
    intro b_now b_fled H locs ls hf hw hl
    rw [zf_X8_step_142] at hf
    refine lv_aload_n (pc := 142) hx hb dX8_step_142 rfl (lv_at hl 0 rfl) ?_
    refine zk_gt (pc := 143) C hw zl_X8_17 0 rfl rfl dX8_step_143 ?_
    refine lv_bipush (pc := 146) (v := 33) hx hb dX8_step_146 (by decide) ?_
    refine lv_aload_n (pc := 148) hx hb dX8_step_148 rfl (lv_at hl 0 rfl) ?_
    refine zk_gt (pc := 149) C hw zl_X8_17 0 rfl rfl dX8_step_149 ?_
    refine lv_bipush (pc := 152) (v := 33) hx hb dX8_step_152 (by decide) ?_
    refine zk_ialdK (pc := 154) 33 (by decide) C hw 1 rfl (by decide) dX8_step_154 ?_
    refine lv_iconst (pc := 155) (v := 2) hx hb dX8_step_155 (by decide) ?_
    refine lv_aload_n (pc := 156) hx hb dX8_step_156 rfl (lv_at hl 0 rfl) ?_
    refine zk_gt (pc := 157) C hw zl_X8_17 0 rfl rfl dX8_step_157 ?_
    refine lv_bipush (pc := 160) (v := 35) hx hb dX8_step_160 (by decide) ?_
    refine zk_ialdK (pc := 162) 35 (by decide) C hw 1 rfl (by decide) dX8_step_162 ?_
    refine lv_imul (pc := 163) hx hb dX8_step_163 ?_
    refine lv_iadd (pc := 164) hx hb dX8_step_164 ?_
    refine lv_bipush (pc := 165) (v := 99) hx hb dX8_step_165 (by decide) ?_
    obtain ⟨u18, u18e, hf⟩ := bd hf
    refine zk_cS (pc := 167) (rest := [.int ((33 : Int32)), .ref ((M 2))]) (st1 := [.int u18, .int ((33 : Int32)), .ref ((M 2))]) (w' := [xM M b_isKept b_size b_at b_from b_sort b_fled b_flights b_firstFlight b_bestHarms b_bestRage b_harmed b_raged, xI cy ((M 2)) 39 b_now]) (mk := [none, none]) C hw (c_X8_bound l G cy tt ((((b_now 33) + ((2 : Int32) * (b_now 35))))) (((99 : Int32))) _ u18e) zy_X8_bound zm_X8_173 [] rfl rfl rfl rfl rfl rfl rfl rfl hl.1 ⟨rfl, rfl⟩ ⟨Nat.le_of_ble_eq_true rfl, Nat.le_of_ble_eq_true rfl⟩ rfl (Nat.le_of_ble_eq_true rfl) ⟨Nat.zero_le _, Nat.zero_le _⟩ dX8_step_167 (fun H locs hw => ?_)
    refine zk_iastK (pc := 170) (w' := [xM M b_isKept b_size b_at b_from b_sort b_fled b_flights b_firstFlight b_bestHarms b_bestRage b_harmed b_raged, xI cy ((M 2)) 39 ((upd b_now 33 u18))]) 33 (by decide) C hw 1 rfl (by decide) rfl dX8_step_170 (fun H locs hw => ?_)
    refine lv_aload_n (pc := 171) hx hb dX8_step_171 rfl (lv_at hl 0 rfl) ?_
    refine lv_bipush (pc := 172) (v := 12) hx hb dX8_step_172 (by decide) ?_
    obtain ⟨u19, u19e, hf⟩ := bd hf
    refine zk_cV (pc := 174) (ci := 8) (q0 := 0) (rest := []) (st1 := []) (w' := [xM M b_isKept b_size b_at b_from b_sort b_fled b_flights b_firstFlight b_bestHarms b_bestRage b_harmed b_raged, xI cy ((M 2)) 39 u19]) (mk := [none, some (xI cy ((M 2)) 39 u19)]) C hw (c_X8_grow l G cy tt M b_isKept b_size b_at b_from b_sort b_fled b_flights b_firstFlight b_bestHarms b_bestRage b_harmed b_raged (((12 : Int32))) ((upd b_now 33 u18)) _ u19e) zy_X8_grow zm_X8_176 rfl rfl rfl [0, 1] rfl rfl rfl rfl rfl rfl rfl rfl hl.1 ⟨rfl, rfl⟩ ⟨Nat.le_of_ble_eq_true rfl, Nat.le_of_ble_eq_true rfl⟩ rfl (Nat.le_of_ble_eq_true rfl) ⟨Nat.zero_le _, Nat.zero_le _⟩ dX8_step_174 (fun H locs hw => ?_)
    exact J177 u19 b_fled _ _ _ hf hw (lv_sub hl [0] rfl)
  have J118 : ∀ (v1 : Int32) (b_now : Nat → Int32) (b_fled : Bool) (H : Heap) (locs : List Loc) (ls : Array Slot), zf_X8_step_118 v1 b_now b_fled = some res → zWd G A s.heap H locs [xM M b_isKept b_size b_at b_from b_sort b_fled b_flights b_firstFlight b_bestHarms b_bestRage b_harmed b_raged, xI cy ((M 2)) 39 b_now] → lv_has ls 3 [(0, .ref ((M 0))), (1, .int v1)] → W p l e zr_X8_step s m args below meth c H locs 0 0 Q (F0 m 118 ls []) := by
    intro v1 b_now b_fled H locs ls hf hw hl
    rw [zf_X8_step_118] at hf
    refine lv_iload_n (pc := 118) hx hb dX8_step_118 rfl (lv_at hl 1 rfl) ?_
    refine lv_iconst (pc := 119) (v := -1) hx hb dX8_step_119 (by decide) ?_
    refine lv_icmp_eq (pc := 120) (tgt := 142) hx hb dX8_step_120 (by decide) (fun q15 => ?_) (fun q15 => ?_)
    · replace hf := if_t q15 hf
      exact J142 b_now b_fled _ _ _ hf hw (lv_sub hl [0] rfl)
    · replace hf := if_f q15 hf
      refine lv_aload_n (pc := 123) hx hb dX8_step_123 rfl (lv_at hl 0 rfl) ?_
      refine lv_iconst (pc := 124) (v := 1) hx hb dX8_step_124 (by decide) ?_
      refine zk_put (pc := 125) (v := .int (bI true)) (w' := [xM M b_isKept b_size b_at b_from b_sort true b_flights b_firstFlight b_bestHarms b_bestRage b_harmed b_raged, xI cy ((M 2)) 39 b_now]) C hw zp_X8_162 0 rfl (bI_nar _) (bI_fit _) (Nat.le_of_ble_eq_true rfl) rfl dX8_step_125 (fun H locs hw => ?_)
      refine lv_aload_n (pc := 128) hx hb dX8_step_128 rfl (lv_at hl 0 rfl) ?_
      refine zk_gt (pc := 129) C hw zl_X8_17 0 rfl rfl dX8_step_129 ?_
      refine lv_iconst (pc := 132) (v := 4) hx hb dX8_step_132 (by decide) ?_
      refine lv_iload_n (pc := 133) hx hb dX8_step_133 rfl (lv_at hl 1 rfl) ?_
      refine lv_imul (pc := 134) hx hb dX8_step_134 ?_
      refine lv_iconst (pc := 135) (v := 3) hx hb dX8_step_135 (by decide) ?_
      refine lv_iadd (pc := 136) hx hb dX8_step_136 ?_
      refine lv_dup2_11 (pc := 137) hx hb dX8_step_137 rfl rfl ?_
      obtain ⟨q16, hf⟩ := ck hf
      refine zk_iald (pc := 138) C hw 1 rfl q16 dX8_step_138 ?_
      refine lv_iconst (pc := 139) (v := 1) hx hb dX8_step_139 (by decide) ?_
      refine lv_iadd (pc := 140) hx hb dX8_step_140 ?_
      obtain ⟨q17, hf⟩ := ck hf
      refine zk_iast (pc := 141) (w' := [xM M b_isKept b_size b_at b_from b_sort true b_flights b_firstFlight b_bestHarms b_bestRage b_harmed b_raged, xI cy ((M 2)) 39 ((upd b_now (((((4 : Int32) * v1) + (3 : Int32))).toNatClampNeg) (((b_now ((((4 : Int32) * v1) + (3 : Int32))).toNatClampNeg) + (1 : Int32)))))]) C hw 1 rfl q17 rfl dX8_step_141 (fun H locs hw => ?_)
      exact J142 ((upd b_now (((((4 : Int32) * v1) + (3 : Int32))).toNatClampNeg) (((b_now ((((4 : Int32) * v1) + (3 : Int32))).toNatClampNeg) + (1 : Int32))))) true _ _ _ hf hw (lv_sub hl [0] rfl)
  rw [zf_X8_step] at hf
  refine lv_aload_n (pc := 0) hx hb dX8_step_0 rfl (lv_at hl 0 rfl) ?_
  refine lv_iconst (pc := 1) (v := 0) hx hb dX8_step_1 (by decide) ?_
  refine zk_put (pc := 2) (v := .int (bI false)) (w' := [xM M b_isKept b_size b_at b_from b_sort false b_flights b_firstFlight b_bestHarms b_bestRage b_harmed b_raged, xI cy ((M 2)) 39 b_now]) C hw zp_X8_162 0 rfl (bI_nar _) (bI_fit _) (Nat.le_of_ble_eq_true rfl) rfl dX8_step_2 (fun H locs hw => ?_)
  refine lv_iload_n (pc := 5) hx hb dX8_step_5 rfl (lv_at hl 1 rfl) ?_
  refine lv_bipush (pc := 6) (v := 10) hx hb dX8_step_6 (by decide) ?_
  refine lv_icmp_ne (pc := 8) (tgt := 54) hx hb dX8_step_8 (by decide) (fun q1 => ?_) (fun q1 => ?_)
  · replace hf := if_f q1 hf
    refine lv_iload_n (pc := 54) hx hb dX8_step_54 rfl (lv_at hl 1 rfl) ?_
    refine lv_iconst (pc := 55) (v := -1) hx hb dX8_step_55 (by decide) ?_
    refine lv_icmp_eq (pc := 56) (tgt := 118) hx hb dX8_step_56 (by decide) (fun q2 => ?_) (fun q2 => ?_)
    · replace hf := if_t q2 hf
      exact J118 x1 b_now false _ _ _ hf hw (lv_sub hl [0, 1] rfl)
    · replace hf := if_f q2 hf
      refine lv_aload_n (pc := 59) hx hb dX8_step_59 rfl (lv_at hl 0 rfl) ?_
      refine lv_iload_n (pc := 60) hx hb dX8_step_60 rfl (lv_at hl 1 rfl) ?_
      obtain ⟨u3, u3e, hf⟩ := bd hf
      refine zk_cV (pc := 61) (ci := 8) (q0 := 0) (rest := []) (st1 := [.int (bI u3)]) (w' := [xM M b_isKept b_size b_at b_from b_sort false b_flights b_firstFlight b_bestHarms b_bestRage b_harmed b_raged, xI cy ((M 2)) 39 b_now]) (mk := [none, none]) C hw (c_X8_isStaying l G cy tt M b_isKept b_size b_at b_from b_sort false b_flights b_firstFlight b_bestHarms b_bestRage b_harmed b_raged x1 b_now _ u3e) zy_X8_isStaying zm_X8_166 rfl rfl rfl [0, 1] rfl rfl rfl rfl rfl rfl rfl rfl hl.1 ⟨rfl, rfl⟩ ⟨Nat.le_of_ble_eq_true rfl, Nat.le_of_ble_eq_true rfl⟩ rfl (Nat.le_of_ble_eq_true rfl) ⟨Nat.zero_le _, Nat.zero_le _⟩ dX8_step_61 (fun H locs hw => ?_)
      refine zk_ifz (pc := 64) (tgt := 118) hx hb dX8_step_64 (by decide) (fun q4 => ?_) (fun q4 => ?_)
      · replace hf := if_f q4 hf
        exact J118 x1 b_now false _ _ _ hf hw (lv_sub hl [0, 1] rfl)
      · replace hf := if_t q4 hf
        refine lv_aload_n (pc := 67) hx hb dX8_step_67 rfl (lv_at hl 0 rfl) ?_
        refine zk_gt (pc := 68) C hw zl_X8_17 0 rfl rfl dX8_step_68 ?_
        refine lv_bipush (pc := 71) (v := 33) hx hb dX8_step_71 (by decide) ?_
        refine lv_aload_n (pc := 73) hx hb dX8_step_73 rfl (lv_at hl 0 rfl) ?_
        refine zk_gt (pc := 74) C hw zl_X8_17 0 rfl rfl dX8_step_74 ?_
        refine lv_bipush (pc := 77) (v := 33) hx hb dX8_step_77 (by decide) ?_
        refine zk_ialdK (pc := 79) 33 (by decide) C hw 1 rfl (by decide) dX8_step_79 ?_
        refine lv_aload_n (pc := 80) hx hb dX8_step_80 rfl (lv_at hl 0 rfl) ?_
        refine lv_iload_n (pc := 81) hx hb dX8_step_81 rfl (lv_at hl 1 rfl) ?_
        obtain ⟨u5, u5e, hf⟩ := bd hf
        refine zk_cV (pc := 82) (ci := 8) (q0 := 0) (rest := [.int ((b_now 33)), .int ((33 : Int32)), .ref ((M 2))]) (st1 := [.int u5, .int ((b_now 33)), .int ((33 : Int32)), .ref ((M 2))]) (w' := [xM M b_isKept b_size b_at b_from b_sort false b_flights b_firstFlight b_bestHarms b_bestRage b_harmed b_raged, xI cy ((M 2)) 39 b_now]) (mk := [none, none]) C hw (c_X8_soothes l G cy tt M b_isKept b_size b_at b_from b_sort false b_flights b_firstFlight b_bestHarms b_bestRage b_harmed b_raged x1 b_now _ u5e) zy_X8_soothes zm_X8_170 rfl rfl rfl [0, 1] rfl rfl rfl rfl rfl rfl rfl rfl hl.1 ⟨rfl, rfl⟩ ⟨Nat.le_of_ble_eq_true rfl, Nat.le_of_ble_eq_true rfl⟩ rfl (Nat.le_of_ble_eq_true rfl) ⟨Nat.zero_le _, Nat.zero_le _⟩ dX8_step_82 (fun H locs hw => ?_)
        refine lv_isub (pc := 85) hx hb dX8_step_85 ?_
        refine lv_bipush (pc := 86) (v := 99) hx hb dX8_step_86 (by decide) ?_
        obtain ⟨u6, u6e, hf⟩ := bd hf
        refine zk_cS (pc := 88) (rest := [.int ((33 : Int32)), .ref ((M 2))]) (st1 := [.int u6, .int ((33 : Int32)), .ref ((M 2))]) (w' := [xM M b_isKept b_size b_at b_from b_sort false b_flights b_firstFlight b_bestHarms b_bestRage b_harmed b_raged, xI cy ((M 2)) 39 b_now]) (mk := [none, none]) C hw (c_X8_bound l G cy tt ((((b_now 33) - u5))) (((99 : Int32))) _ u6e) zy_X8_bound zm_X8_173 [] rfl rfl rfl rfl rfl rfl rfl rfl hl.1 ⟨rfl, rfl⟩ ⟨Nat.le_of_ble_eq_true rfl, Nat.le_of_ble_eq_true rfl⟩ rfl (Nat.le_of_ble_eq_true rfl) ⟨Nat.zero_le _, Nat.zero_le _⟩ dX8_step_88 (fun H locs hw => ?_)
        refine zk_iastK (pc := 91) (w' := [xM M b_isKept b_size b_at b_from b_sort false b_flights b_firstFlight b_bestHarms b_bestRage b_harmed b_raged, xI cy ((M 2)) 39 ((upd b_now 33 u6))]) 33 (by decide) C hw 1 rfl (by decide) rfl dX8_step_91 (fun H locs hw => ?_)
        refine lv_aload_n (pc := 92) hx hb dX8_step_92 rfl (lv_at hl 0 rfl) ?_
        refine lv_iload_n (pc := 93) hx hb dX8_step_93 rfl (lv_at hl 1 rfl) ?_
        obtain ⟨u7, u7e, hf⟩ := bd hf
        refine zk_cV (pc := 94) (ci := 8) (q0 := 0) (rest := []) (st1 := [.int u7]) (w' := [xM M b_isKept b_size b_at b_from b_sort false b_flights b_firstFlight b_bestHarms b_bestRage b_harmed b_raged, xI cy ((M 2)) 39 ((upd b_now 33 u6))]) (mk := [none, none]) C hw (c_X8_kind l G cy tt M b_isKept b_size b_at b_from b_sort false b_flights b_firstFlight b_bestHarms b_bestRage b_harmed b_raged x1 ((upd b_now 33 u6)) _ u7e) zy_X8_kind zm_X8_153 rfl rfl rfl [0, 1] rfl rfl rfl rfl rfl rfl rfl rfl hl.1 ⟨rfl, rfl⟩ ⟨Nat.le_of_ble_eq_true rfl, Nat.le_of_ble_eq_true rfl⟩ rfl (Nat.le_of_ble_eq_true rfl) ⟨Nat.zero_le _, Nat.zero_le _⟩ dX8_step_94 (fun H locs hw => ?_)
        refine lv_iconst (pc := 97) (v := 2) hx hb dX8_step_97 (by decide) ?_
        refine lv_icmp_eq (pc := 98) (tgt := 110) hx hb dX8_step_98 (by decide) (fun q8 => ?_) (fun q8 => ?_)
        · replace hf := if_t q8 hf
          exact J110 ((upd b_now 33 u6)) false _ _ _ hf hw (lv_sub hl [0] rfl)
        · replace hf := if_f q8 hf
          refine lv_aload_n (pc := 101) hx hb dX8_step_101 rfl (lv_at hl 0 rfl) ?_
          refine lv_iload_n (pc := 102) hx hb dX8_step_102 rfl (lv_at hl 1 rfl) ?_
          obtain ⟨u9, u9e, hf⟩ := bd hf
          refine zk_cV (pc := 103) (ci := 8) (q0 := 0) (rest := []) (st1 := [.int u9]) (w' := [xM M b_isKept b_size b_at b_from b_sort false b_flights b_firstFlight b_bestHarms b_bestRage b_harmed b_raged, xI cy ((M 2)) 39 ((upd b_now 33 u6))]) (mk := [none, none]) C hw (c_X8_kind l G cy tt M b_isKept b_size b_at b_from b_sort false b_flights b_firstFlight b_bestHarms b_bestRage b_harmed b_raged x1 ((upd b_now 33 u6)) _ u9e) zy_X8_kind zm_X8_153 rfl rfl rfl [0, 1] rfl rfl rfl rfl rfl rfl rfl rfl hl.1 ⟨rfl, rfl⟩ ⟨Nat.le_of_ble_eq_true rfl, Nat.le_of_ble_eq_true rfl⟩ rfl (Nat.le_of_ble_eq_true rfl) ⟨Nat.zero_le _, Nat.zero_le _⟩ dX8_step_103 (fun H locs hw => ?_)
          refine lv_iconst (pc := 106) (v := 4) hx hb dX8_step_106 (by decide) ?_
          refine lv_icmp_ne (pc := 107) (tgt := 177) hx hb dX8_step_107 (by decide) (fun q10 => ?_) (fun q10 => ?_)
          · replace hf := if_f q10 hf
            exact J177 ((upd b_now 33 u6)) false _ _ _ hf hw (lv_sub hl [0] rfl)
          · replace hf := if_t q10 hf
            exact J110 ((upd b_now 33 u6)) false _ _ _ hf hw (lv_sub hl [0] rfl)
  · replace hf := if_t q1 hf
    refine lv_aload_n (pc := 11) hx hb dX8_step_11 rfl (lv_at hl 0 rfl) ?_
    refine zk_gt (pc := 12) C hw zl_X8_17 0 rfl rfl dX8_step_12 ?_
    refine lv_bipush (pc := 15) (v := 33) hx hb dX8_step_15 (by decide) ?_
    refine zk_ialdK (pc := 17) 33 (by decide) C hw 1 rfl (by decide) dX8_step_17 ?_
    refine lv_aload_n (pc := 18) hx hb dX8_step_18 rfl (lv_at hl 0 rfl) ?_
    refine zk_gt (pc := 19) C hw zl_X8_17 0 rfl rfl dX8_step_19 ?_
    refine lv_bipush (pc := 22) (v := 34) hx hb dX8_step_22 (by decide) ?_
    refine zk_ialdK (pc := 24) 34 (by decide) C hw 1 rfl (by decide) dX8_step_24 ?_
    refine lv_isub (pc := 25) hx hb dX8_step_25 ?_
    refine lv_iconst (pc := 26) (v := 4) hx hb dX8_step_26 (by decide) ?_
    refine lv_idiv (pc := 27) hx hb dX8_step_27 (by decide) ?_
    refine lv_istore_n (pc := 28) (lv' := [(2, .int ((((b_now 33) - (b_now 34)) / (4 : Int32)))), (0, .ref ((M 0))), (1, .int x1)]) hx hb dX8_step_28 rfl hl (by decide) rfl (fun ls hl => ?_)
    refine lv_aload_n (pc := 29) hx hb dX8_step_29 rfl (lv_at hl 1 rfl) ?_
    refine zk_gt (pc := 30) C hw zl_X8_17 0 rfl rfl dX8_step_30 ?_
    refine lv_bipush (pc := 33) (v := 33) hx hb dX8_step_33 (by decide) ?_
    refine lv_dup2_11 (pc := 35) hx hb dX8_step_35 rfl rfl ?_
    refine zk_ialdK (pc := 36) 33 (by decide) C hw 1 rfl (by decide) dX8_step_36 ?_
    refine lv_iload_n (pc := 37) hx hb dX8_step_37 rfl (lv_at hl 0 rfl) ?_
    refine lv_isub (pc := 38) hx hb dX8_step_38 ?_
    refine zk_iastK (pc := 39) (w' := [xM M b_isKept b_size b_at b_from b_sort false b_flights b_firstFlight b_bestHarms b_bestRage b_harmed b_raged, xI cy ((M 2)) 39 ((upd b_now 33 (((b_now 33) - (((b_now 33) - (b_now 34)) / (4 : Int32))))))]) 33 (by decide) C hw 1 rfl (by decide) rfl dX8_step_39 (fun H locs hw => ?_)
    refine lv_aload_n (pc := 40) hx hb dX8_step_40 rfl (lv_at hl 1 rfl) ?_
    refine zk_gt (pc := 41) C hw zl_X8_17 0 rfl rfl dX8_step_41 ?_
    refine lv_bipush (pc := 44) (v := 34) hx hb dX8_step_44 (by decide) ?_
    refine lv_dup2_11 (pc := 46) hx hb dX8_step_46 rfl rfl ?_
    refine zk_ialdK (pc := 47) 34 (by decide) C hw 1 rfl (by decide) dX8_step_47 ?_
    refine lv_iload_n (pc := 48) hx hb dX8_step_48 rfl (lv_at hl 0 rfl) ?_
    refine lv_iadd (pc := 49) hx hb dX8_step_49 ?_
    refine zk_iastK (pc := 50) (w' := [xM M b_isKept b_size b_at b_from b_sort false b_flights b_firstFlight b_bestHarms b_bestRage b_harmed b_raged, xI cy ((M 2)) 39 ((upd ((upd b_now 33 (((b_now 33) - (((b_now 33) - (b_now 34)) / (4 : Int32)))))) 34 (((((upd b_now 33 (((b_now 33) - (((b_now 33) - (b_now 34)) / (4 : Int32)))))) 34) + (((b_now 33) - (b_now 34)) / (4 : Int32))))))]) 34 (by decide) C hw 1 rfl (by decide) rfl dX8_step_50 (fun H locs hw => ?_)
    refine lv_goto (pc := 51) (tgt := 177) hx hb dX8_step_51 (by decide) ?_
    exact J177 ((upd ((upd b_now 33 (((b_now 33) - (((b_now 33) - (b_now 34)) / (4 : Int32)))))) 34 (((((upd b_now 33 (((b_now 33) - (((b_now 33) - (b_now 34)) / (4 : Int32)))))) 34) + (((b_now 33) - (b_now 34)) / (4 : Int32)))))) false _ _ _ hf hw (lv_sub hl [1] rfl)
def zf_X8_keeperOf_34 (b_now : Nat → Int32) (b_refused : Nat → Int32) : Option (Int32 × (Nat → Int32)) := (Option.bind (zf_X8_refuse (((-2 : Int32))) b_refused) (fun u6 => some (u6.1, u6.2)))
def zf_X8_keeperOf (x1 : Int32) (x2 : Int32) (b_refused : Nat → Int32) (b_now : Nat → Int32) : Option (Int32 × (Nat → Int32)) := (Option.bind (zf_X8_isKeeper x1.toInt64 b_now) (fun u1 => (if u1 then (Option.bind (zf_X8_isIn x2.toInt64 (((0 : Int64))) (((3 : Int64)))) (fun u3 => (if u3 then (if ix ((((4 : Int32) * x1) + x2)) 39 then some ((b_now ((((4 : Int32) * x1) + x2)).toNatClampNeg), b_refused) else none) else zf_X8_keeperOf_34 b_now b_refused))) else zf_X8_keeperOf_34 b_now b_refused)))
abbrev zr_X8_keeperOf : Room := { frames := 2, cells := 0, slots := 0, locals := 47 }
set_option maxHeartbeats 4000000 in
set_option maxRecDepth 100000 in
theorem c_X8_keeperOf (l : Launch) (G : va_G) (cy : Nat → ClassId) (tt : Nat → Nat) (M : Nat → Nat) (b_isKept : Bool) (b_size : Int32) (b_at : Int32) (b_from : Int32) (b_sort : Int32) (b_fled : Bool) (b_flights : Int32) (b_firstFlight : Int32) (b_bestHarms : Int32) (b_bestRage : Int32) (b_harmed : Int64) (b_raged : Int64) (x1 : Int32) (x2 : Int32) (b_refused : Nat → Int32) (b_now : Nat → Int32) (res : Int32 × (Nat → Int32)) (hf : zf_X8_keeperOf x1 x2 b_refused b_now = some res) : zCT l yX8_keeperOf cX8_keeperOf 3 (some .int) zr_X8_keeperOf G cy tt [.ref ((M 0)), .int x1, .int x2] [xM M b_isKept b_size b_at b_from b_sort b_fled b_flights b_firstFlight b_bestHarms b_bestRage b_harmed b_raged, xI cy ((M 1)) 7 b_refused, xI cy ((M 2)) 39 b_now] (some (.int res.1)) [xM M b_isKept b_size b_at b_from b_sort b_fled b_flights b_firstFlight b_bestHarms b_bestRage b_harmed b_raged, xI cy ((M 1)) 7 res.2, xI cy ((M 2)) 39 b_now] := by
  refine zk_start zn_X8 (Nat.le_of_ble_eq_true rfl) ?_
  intro p e s m args below meth c A ls Q C hr hQ hw hl
  have C : zCx p m c s args meth cX8_keeperOf 3 RX8 G cy tt A := C
  have hx := C.1.1
  have hb := C.1.2.1
  have hl : lv_has ls 3 [(0, .ref ((M 0))), (1, .int x1), (2, .int x2)] := hl
  have J34 : ∀ (b_refused : Nat → Int32) (H : Heap) (locs : List Loc) (ls : Array Slot), zf_X8_keeperOf_34 b_now b_refused = some res → zWd G A s.heap H locs [xM M b_isKept b_size b_at b_from b_sort b_fled b_flights b_firstFlight b_bestHarms b_bestRage b_harmed b_raged, xI cy ((M 1)) 7 b_refused, xI cy ((M 2)) 39 b_now] → lv_has ls 3 [(0, .ref ((M 0)))] → W p l e zr_X8_keeperOf s m args below meth c H locs 0 0 Q (F0 m 34 ls []) := by
    intro b_refused H locs ls hf hw hl
    rw [zf_X8_keeperOf_34] at hf
    refine lv_aload_n (pc := 34) hx hb dX8_keeperOf_34 rfl (lv_at hl 0 rfl) ?_
    refine lv_bipush (pc := 35) (v := -2) hx hb dX8_keeperOf_35 (by decide) ?_
    obtain ⟨u6, u6e, hf⟩ := bd hf
    refine zk_cV (pc := 37) (ci := 8) (q0 := 0) (rest := []) (st1 := [.int u6.1]) (w' := [xM M b_isKept b_size b_at b_from b_sort b_fled b_flights b_firstFlight b_bestHarms b_bestRage b_harmed b_raged, xI cy ((M 1)) 7 u6.2, xI cy ((M 2)) 39 b_now]) (mk := [none, some (xI cy ((M 1)) 7 u6.2), none]) C hw (c_X8_refuse l G cy tt M b_isKept b_size b_at b_from b_sort b_fled b_flights b_firstFlight b_bestHarms b_bestRage b_harmed b_raged (((-2 : Int32))) b_refused _ u6e) zy_X8_refuse zm_X8_90 rfl rfl rfl [0, 1] rfl rfl rfl rfl rfl rfl rfl rfl hl.1 ⟨rfl, rfl⟩ ⟨Nat.le_of_ble_eq_true rfl, Nat.le_of_ble_eq_true rfl⟩ rfl (Nat.le_of_ble_eq_true rfl) ⟨Nat.zero_le _, Nat.zero_le _⟩ dX8_keeperOf_37 (fun H locs hw => ?_)
    have hf := Option.some.inj hf
    subst hf
    exact zk_reti (pc := 40) (ww := [xM M b_isKept b_size b_at b_from b_sort b_fled b_flights b_firstFlight b_bestHarms b_bestRage b_harmed b_raged, xI cy ((M 1)) 7 u6.2, xI cy ((M 2)) 39 b_now]) C hw hr hQ dX8_keeperOf_40
  rw [zf_X8_keeperOf] at hf
  refine lv_aload_n (pc := 0) hx hb dX8_keeperOf_0 rfl (lv_at hl 0 rfl) ?_
  refine lv_iload_n (pc := 1) hx hb dX8_keeperOf_1 rfl (lv_at hl 1 rfl) ?_
  refine lv_i2l (pc := 2) (v := x1.toInt64) hx hb dX8_keeperOf_2 rfl ?_
  obtain ⟨u1, u1e, hf⟩ := bd hf
  refine zk_cV (pc := 3) (ci := 8) (q0 := 0) (rest := []) (st1 := [.int (bI u1)]) (w' := [xM M b_isKept b_size b_at b_from b_sort b_fled b_flights b_firstFlight b_bestHarms b_bestRage b_harmed b_raged, xI cy ((M 1)) 7 b_refused, xI cy ((M 2)) 39 b_now]) (mk := [none, none, none]) C hw (c_X8_isKeeper l G cy tt M b_isKept b_size b_at b_from b_sort b_fled b_flights b_firstFlight b_bestHarms b_bestRage b_harmed b_raged x1.toInt64 b_now _ u1e) zy_X8_isKeeper zm_X8_76 rfl rfl rfl [0, 2] rfl rfl rfl rfl rfl rfl rfl rfl hl.1 ⟨rfl, rfl⟩ ⟨Nat.le_of_ble_eq_true rfl, Nat.le_of_ble_eq_true rfl⟩ rfl (Nat.le_of_ble_eq_true rfl) ⟨Nat.zero_le _, Nat.zero_le _⟩ dX8_keeperOf_3 (fun H locs hw => ?_)
  refine zk_ifz (pc := 6) (tgt := 34) hx hb dX8_keeperOf_6 (by decide) (fun q2 => ?_) (fun q2 => ?_)
  · replace hf := if_f q2 hf
    exact J34 b_refused _ _ _ hf hw (lv_sub hl [0] rfl)
  · replace hf := if_t q2 hf
    refine lv_iload_n (pc := 9) hx hb dX8_keeperOf_9 rfl (lv_at hl 2 rfl) ?_
    refine lv_i2l (pc := 10) (v := x2.toInt64) hx hb dX8_keeperOf_10 rfl ?_
    refine lv_lconst (pc := 11) (v := 0) hx hb dX8_keeperOf_11 (by decide) ?_
    refine lv_ldc2 (pc := 12) (v := 3) hx hb C.1.2.2.2.1 (C.1.2.2.2.2 _ zc_X8_179) dX8_keeperOf_12 ?_
    obtain ⟨u3, u3e, hf⟩ := bd hf
    refine zk_cS (pc := 15) (rest := []) (st1 := [.int (bI u3)]) (w' := [xM M b_isKept b_size b_at b_from b_sort b_fled b_flights b_firstFlight b_bestHarms b_bestRage b_harmed b_raged, xI cy ((M 1)) 7 b_refused, xI cy ((M 2)) 39 b_now]) (mk := [none, none, none]) C hw (c_X8_isIn l G cy tt x2.toInt64 (((0 : Int64))) (((3 : Int64))) _ u3e) zy_X8_isIn zm_X8_68 [] rfl rfl rfl rfl rfl rfl rfl rfl hl.1 ⟨rfl, rfl⟩ ⟨Nat.le_of_ble_eq_true rfl, Nat.le_of_ble_eq_true rfl⟩ rfl (Nat.le_of_ble_eq_true rfl) ⟨Nat.zero_le _, Nat.zero_le _⟩ dX8_keeperOf_15 (fun H locs hw => ?_)
    refine zk_ifz (pc := 18) (tgt := 34) hx hb dX8_keeperOf_18 (by decide) (fun q4 => ?_) (fun q4 => ?_)
    · replace hf := if_f q4 hf
      exact J34 b_refused _ _ _ hf hw (lv_sub hl [0] rfl)
    · replace hf := if_t q4 hf
      refine lv_aload_n (pc := 21) hx hb dX8_keeperOf_21 rfl (lv_at hl 0 rfl) ?_
      refine zk_gt (pc := 22) C hw zl_X8_17 0 rfl rfl dX8_keeperOf_22 ?_
      refine lv_iconst (pc := 25) (v := 4) hx hb dX8_keeperOf_25 (by decide) ?_
      refine lv_iload_n (pc := 26) hx hb dX8_keeperOf_26 rfl (lv_at hl 1 rfl) ?_
      refine lv_imul (pc := 27) hx hb dX8_keeperOf_27 ?_
      refine lv_iload_n (pc := 28) hx hb dX8_keeperOf_28 rfl (lv_at hl 2 rfl) ?_
      refine lv_iadd (pc := 29) hx hb dX8_keeperOf_29 ?_
      obtain ⟨q5, hf⟩ := ck hf
      refine zk_iald (pc := 30) C hw 2 rfl q5 dX8_keeperOf_30 ?_
      refine lv_goto (pc := 31) (tgt := 40) hx hb dX8_keeperOf_31 (by decide) ?_
      have hf := Option.some.inj hf
      subst hf
      exact zk_reti (pc := 40) (ww := [xM M b_isKept b_size b_at b_from b_sort b_fled b_flights b_firstFlight b_bestHarms b_bestRage b_harmed b_raged, xI cy ((M 1)) 7 b_refused, xI cy ((M 2)) 39 b_now]) C hw hr hQ dX8_keeperOf_40
def zf_X8_stays (x1 : Int32) (b_refused : Nat → Int32) (b_now : Nat → Int32) : Option (Int32 × (Nat → Int32)) := (Option.bind (zf_X8_isKeeper x1.toInt64 b_now) (fun u1 => (if u1 then (Option.bind (zf_X8_isStaying x1 b_now) (fun u3 => (if u3 then some ((1 : Int32), b_refused) else some ((0 : Int32), b_refused)))) else (Option.bind (zf_X8_refuse (((-2 : Int32))) b_refused) (fun u5 => some (u5.1, u5.2))))))
abbrev zr_X8_stays : Room := { frames := 2, cells := 0, slots := 0, locals := 47 }
set_option maxHeartbeats 4000000 in
set_option maxRecDepth 100000 in
theorem c_X8_stays (l : Launch) (G : va_G) (cy : Nat → ClassId) (tt : Nat → Nat) (M : Nat → Nat) (b_isKept : Bool) (b_size : Int32) (b_at : Int32) (b_from : Int32) (b_sort : Int32) (b_fled : Bool) (b_flights : Int32) (b_firstFlight : Int32) (b_bestHarms : Int32) (b_bestRage : Int32) (b_harmed : Int64) (b_raged : Int64) (x1 : Int32) (b_refused : Nat → Int32) (b_now : Nat → Int32) (res : Int32 × (Nat → Int32)) (hf : zf_X8_stays x1 b_refused b_now = some res) : zCT l yX8_stays cX8_stays 2 (some .int) zr_X8_stays G cy tt [.ref ((M 0)), .int x1] [xM M b_isKept b_size b_at b_from b_sort b_fled b_flights b_firstFlight b_bestHarms b_bestRage b_harmed b_raged, xI cy ((M 1)) 7 b_refused, xI cy ((M 2)) 39 b_now] (some (.int res.1)) [xM M b_isKept b_size b_at b_from b_sort b_fled b_flights b_firstFlight b_bestHarms b_bestRage b_harmed b_raged, xI cy ((M 1)) 7 res.2, xI cy ((M 2)) 39 b_now] := by
  refine zk_start zn_X8 (Nat.le_of_ble_eq_true rfl) ?_
  intro p e s m args below meth c A ls Q C hr hQ hw hl
  have C : zCx p m c s args meth cX8_stays 2 RX8 G cy tt A := C
  have hx := C.1.1
  have hb := C.1.2.1
  have hl : lv_has ls 2 [(0, .ref ((M 0))), (1, .int x1)] := hl
  rw [zf_X8_stays] at hf
  refine lv_aload_n (pc := 0) hx hb dX8_stays_0 rfl (lv_at hl 0 rfl) ?_
  refine lv_iload_n (pc := 1) hx hb dX8_stays_1 rfl (lv_at hl 1 rfl) ?_
  refine lv_i2l (pc := 2) (v := x1.toInt64) hx hb dX8_stays_2 rfl ?_
  obtain ⟨u1, u1e, hf⟩ := bd hf
  refine zk_cV (pc := 3) (ci := 8) (q0 := 0) (rest := []) (st1 := [.int (bI u1)]) (w' := [xM M b_isKept b_size b_at b_from b_sort b_fled b_flights b_firstFlight b_bestHarms b_bestRage b_harmed b_raged, xI cy ((M 1)) 7 b_refused, xI cy ((M 2)) 39 b_now]) (mk := [none, none, none]) C hw (c_X8_isKeeper l G cy tt M b_isKept b_size b_at b_from b_sort b_fled b_flights b_firstFlight b_bestHarms b_bestRage b_harmed b_raged x1.toInt64 b_now _ u1e) zy_X8_isKeeper zm_X8_76 rfl rfl rfl [0, 2] rfl rfl rfl rfl rfl rfl rfl rfl hl.1 ⟨rfl, rfl⟩ ⟨Nat.le_of_ble_eq_true rfl, Nat.le_of_ble_eq_true rfl⟩ rfl (Nat.le_of_ble_eq_true rfl) ⟨Nat.zero_le _, Nat.zero_le _⟩ dX8_stays_3 (fun H locs hw => ?_)
  refine zk_ifnz (pc := 6) (tgt := 18) hx hb dX8_stays_6 (by decide) (fun q2 => ?_) (fun q2 => ?_)
  · replace hf := if_t q2 hf
    refine lv_aload_n (pc := 18) hx hb dX8_stays_18 rfl (lv_at hl 0 rfl) ?_
    refine lv_iload_n (pc := 19) hx hb dX8_stays_19 rfl (lv_at hl 1 rfl) ?_
    obtain ⟨u3, u3e, hf⟩ := bd hf
    refine zk_cV (pc := 20) (ci := 8) (q0 := 0) (rest := []) (st1 := [.int (bI u3)]) (w' := [xM M b_isKept b_size b_at b_from b_sort b_fled b_flights b_firstFlight b_bestHarms b_bestRage b_harmed b_raged, xI cy ((M 1)) 7 b_refused, xI cy ((M 2)) 39 b_now]) (mk := [none, none, none]) C hw (c_X8_isStaying l G cy tt M b_isKept b_size b_at b_from b_sort b_fled b_flights b_firstFlight b_bestHarms b_bestRage b_harmed b_raged x1 b_now _ u3e) zy_X8_isStaying zm_X8_166 rfl rfl rfl [0, 2] rfl rfl rfl rfl rfl rfl rfl rfl hl.1 ⟨rfl, rfl⟩ ⟨Nat.le_of_ble_eq_true rfl, Nat.le_of_ble_eq_true rfl⟩ rfl (Nat.le_of_ble_eq_true rfl) ⟨Nat.zero_le _, Nat.zero_le _⟩ dX8_stays_20 (fun H locs hw => ?_)
    refine zk_ifz (pc := 23) (tgt := 30) hx hb dX8_stays_23 (by decide) (fun q4 => ?_) (fun q4 => ?_)
    · replace hf := if_f q4 hf
      refine lv_iconst (pc := 30) (v := 0) hx hb dX8_stays_30 (by decide) ?_
      have hf := Option.some.inj hf
      subst hf
      exact zk_reti (pc := 31) (ww := [xM M b_isKept b_size b_at b_from b_sort b_fled b_flights b_firstFlight b_bestHarms b_bestRage b_harmed b_raged, xI cy ((M 1)) 7 b_refused, xI cy ((M 2)) 39 b_now]) C hw hr hQ dX8_stays_31
    · replace hf := if_t q4 hf
      refine lv_iconst (pc := 26) (v := 1) hx hb dX8_stays_26 (by decide) ?_
      refine lv_goto (pc := 27) (tgt := 31) hx hb dX8_stays_27 (by decide) ?_
      have hf := Option.some.inj hf
      subst hf
      exact zk_reti (pc := 31) (ww := [xM M b_isKept b_size b_at b_from b_sort b_fled b_flights b_firstFlight b_bestHarms b_bestRage b_harmed b_raged, xI cy ((M 1)) 7 b_refused, xI cy ((M 2)) 39 b_now]) C hw hr hQ dX8_stays_31
  · replace hf := if_f q2 hf
    refine lv_aload_n (pc := 9) hx hb dX8_stays_9 rfl (lv_at hl 0 rfl) ?_
    refine lv_bipush (pc := 10) (v := -2) hx hb dX8_stays_10 (by decide) ?_
    obtain ⟨u5, u5e, hf⟩ := bd hf
    refine zk_cV (pc := 12) (ci := 8) (q0 := 0) (rest := []) (st1 := [.int u5.1]) (w' := [xM M b_isKept b_size b_at b_from b_sort b_fled b_flights b_firstFlight b_bestHarms b_bestRage b_harmed b_raged, xI cy ((M 1)) 7 u5.2, xI cy ((M 2)) 39 b_now]) (mk := [none, some (xI cy ((M 1)) 7 u5.2), none]) C hw (c_X8_refuse l G cy tt M b_isKept b_size b_at b_from b_sort b_fled b_flights b_firstFlight b_bestHarms b_bestRage b_harmed b_raged (((-2 : Int32))) b_refused _ u5e) zy_X8_refuse zm_X8_90 rfl rfl rfl [0, 1] rfl rfl rfl rfl rfl rfl rfl rfl hl.1 ⟨rfl, rfl⟩ ⟨Nat.le_of_ble_eq_true rfl, Nat.le_of_ble_eq_true rfl⟩ rfl (Nat.le_of_ble_eq_true rfl) ⟨Nat.zero_le _, Nat.zero_le _⟩ dX8_stays_12 (fun H locs hw => ?_)
    refine lv_goto (pc := 15) (tgt := 31) hx hb dX8_stays_15 (by decide) ?_
    have hf := Option.some.inj hf
    subst hf
    exact zk_reti (pc := 31) (ww := [xM M b_isKept b_size b_at b_from b_sort b_fled b_flights b_firstFlight b_bestHarms b_bestRage b_harmed b_raged, xI cy ((M 1)) 7 u5.2, xI cy ((M 2)) 39 b_now]) C hw hr hQ dX8_stays_31
def zf_X8_staying_28 (b_now : Nat → Int32) (k4 : Int32 → Int32 → Option (Int32)) (v2 : Int32) (t0 : Int32) (t1 : Int32) : Option (Int32) := k4 ((t1 ||| t0)) ((v2 + 1))
def zf_X8_staying_4 (b_now : Nat → Int32) : Nat → Int32 → Int32 → Option (Int32)
  | 0, _, _ => none
  | n + 1, v1, v2 => (Option.bind (zf_X8_many b_now) (fun u1 => (if u1 ≤ v2 then some (v1) else (Option.bind (zf_X8_isStaying v2 b_now) (fun u3 => (if u3 then zf_X8_staying_28 b_now (zf_X8_staying_4 b_now n) v2 (((1 : Int32) <<< (v2 &&& 31))) v1 else zf_X8_staying_28 b_now (zf_X8_staying_4 b_now n) v2 ((0 : Int32)) v1))))))
def zf_X8_staying  (b_now : Nat → Int32) : Option (Int32) := zf_X8_staying_4 b_now FU ((0 : Int32)) ((0 : Int32))
abbrev zr_X8_staying : Room := { frames := 2, cells := 0, slots := 0, locals := 43 }
set_option maxHeartbeats 4000000 in
set_option maxRecDepth 100000 in
theorem c_X8_staying (l : Launch) (G : va_G) (cy : Nat → ClassId) (tt : Nat → Nat) (M : Nat → Nat) (b_isKept : Bool) (b_size : Int32) (b_at : Int32) (b_from : Int32) (b_sort : Int32) (b_fled : Bool) (b_flights : Int32) (b_firstFlight : Int32) (b_bestHarms : Int32) (b_bestRage : Int32) (b_harmed : Int64) (b_raged : Int64)  (b_now : Nat → Int32) (res : Int32) (hf : zf_X8_staying b_now = some res) : zCT l yX8_staying cX8_staying 3 (some .int) zr_X8_staying G cy tt [.ref ((M 0))] [xM M b_isKept b_size b_at b_from b_sort b_fled b_flights b_firstFlight b_bestHarms b_bestRage b_harmed b_raged, xI cy ((M 2)) 39 b_now] (some (.int res)) [xM M b_isKept b_size b_at b_from b_sort b_fled b_flights b_firstFlight b_bestHarms b_bestRage b_harmed b_raged, xI cy ((M 2)) 39 b_now] := by
  refine zk_start zn_X8 (Nat.le_of_ble_eq_true rfl) ?_
  intro p e s m args below meth c A ls Q C hr hQ hw hl
  have C : zCx p m c s args meth cX8_staying 3 RX8 G cy tt A := C
  have hx := C.1.1
  have hb := C.1.2.1
  have hl : lv_has ls 3 [(0, .ref ((M 0)))] := hl
  have J28 : ∀ (k4 : Int32 → Int32 → Option (Int32)) (K4 : ∀ (v1 : Int32) (v2 : Int32) (H : Heap) (locs : List Loc) (ls : Array Slot), k4 v1 v2 = some res → zWd G A s.heap H locs [xM M b_isKept b_size b_at b_from b_sort b_fled b_flights b_firstFlight b_bestHarms b_bestRage b_harmed b_raged, xI cy ((M 2)) 39 b_now] → lv_has ls 3 [(0, .ref ((M 0))), (1, .int v1), (2, .int v2)] → W p l e zr_X8_staying s m args below meth c H locs 0 0 Q (F0 m 4 ls [])), ∀ (v2 : Int32) (t0 : Int32) (t1 : Int32) (H : Heap) (locs : List Loc) (ls : Array Slot), zf_X8_staying_28 b_now k4 v2 t0 t1 = some res → zWd G A s.heap H locs [xM M b_isKept b_size b_at b_from b_sort b_fled b_flights b_firstFlight b_bestHarms b_bestRage b_harmed b_raged, xI cy ((M 2)) 39 b_now] → lv_has ls 3 [(0, .ref ((M 0))), (2, .int v2)] → W p l e zr_X8_staying s m args below meth c H locs 0 0 Q (F0 m 28 ls [.int t0, .int t1]) := by
    intro k4 K4 v2 t0 t1 H locs ls hf hw hl
    rw [zf_X8_staying_28] at hf
    refine lv_ior (pc := 28) hx hb dX8_staying_28 ?_
    refine lv_istore_n (pc := 29) (lv' := [(1, .int ((t1 ||| t0))), (0, .ref ((M 0))), (2, .int v2)]) hx hb dX8_staying_29 rfl hl (by decide) rfl (fun ls hl => ?_)
    refine lv_iinc (pc := 30) (v := (v2 + 1)) (lv' := [(2, .int ((v2 + 1))), (1, .int ((t1 ||| t0))), (0, .ref ((M 0)))]) hx hb dX8_staying_30 hl (k := 2) rfl rfl (by decide) rfl (fun ls hl => ?_)
    refine lv_goto (pc := 33) (tgt := 4) hx hb dX8_staying_33 (by decide) ?_
    exact K4 ((t1 ||| t0)) ((v2 + 1)) _ _ _ hf hw (lv_sub hl [2, 1, 0] rfl)
  have J4 : ∀ (n : Nat), ∀ (v1 : Int32) (v2 : Int32) (H : Heap) (locs : List Loc) (ls : Array Slot), zf_X8_staying_4 b_now n v1 v2 = some res → zWd G A s.heap H locs [xM M b_isKept b_size b_at b_from b_sort b_fled b_flights b_firstFlight b_bestHarms b_bestRage b_harmed b_raged, xI cy ((M 2)) 39 b_now] → lv_has ls 3 [(0, .ref ((M 0))), (1, .int v1), (2, .int v2)] → W p l e zr_X8_staying s m args below meth c H locs 0 0 Q (F0 m 4 ls []) := by
    intro n
    induction n with
    | zero =>
      intro v1 v2 H locs ls hf hw hl
      rw [zf_X8_staying_4] at hf
      cases hf
    | succ n ih =>
      intro v1 v2 H locs ls hf hw hl
      rw [zf_X8_staying_4] at hf
      refine lv_iload_n (pc := 4) hx hb dX8_staying_4 rfl (lv_at hl 2 rfl) ?_
      refine lv_aload_n (pc := 5) hx hb dX8_staying_5 rfl (lv_at hl 0 rfl) ?_
      obtain ⟨u1, u1e, hf⟩ := bd hf
      refine zk_cV (pc := 6) (ci := 8) (q0 := 0) (rest := [.int v2]) (st1 := [.int u1, .int v2]) (w' := [xM M b_isKept b_size b_at b_from b_sort b_fled b_flights b_firstFlight b_bestHarms b_bestRage b_harmed b_raged, xI cy ((M 2)) 39 b_now]) (mk := [none, none]) C hw (c_X8_many l G cy tt M b_isKept b_size b_at b_from b_sort b_fled b_flights b_firstFlight b_bestHarms b_bestRage b_harmed b_raged b_now _ u1e) zy_X8_many zm_X8_80 rfl rfl rfl [0, 1] rfl rfl rfl rfl rfl rfl rfl rfl hl.1 ⟨rfl, rfl⟩ ⟨Nat.le_of_ble_eq_true rfl, Nat.le_of_ble_eq_true rfl⟩ rfl (Nat.le_of_ble_eq_true rfl) ⟨Nat.zero_le _, Nat.zero_le _⟩ dX8_staying_6 (fun H locs hw => ?_)
      refine lv_icmp_ge (pc := 9) (tgt := 36) hx hb dX8_staying_9 (by decide) (fun q2 => ?_) (fun q2 => ?_)
      · replace hf := if_t q2 hf
        refine lv_iload_n (pc := 36) hx hb dX8_staying_36 rfl (lv_at hl 1 rfl) ?_
        have hf := Option.some.inj hf
        subst hf
        exact zk_reti (pc := 37) (ww := [xM M b_isKept b_size b_at b_from b_sort b_fled b_flights b_firstFlight b_bestHarms b_bestRage b_harmed b_raged, xI cy ((M 2)) 39 b_now]) C hw hr hQ dX8_staying_37
      · replace hf := if_f q2 hf
        refine lv_iload_n (pc := 12) hx hb dX8_staying_12 rfl (lv_at hl 1 rfl) ?_
        refine lv_aload_n (pc := 13) hx hb dX8_staying_13 rfl (lv_at hl 0 rfl) ?_
        refine lv_iload_n (pc := 14) hx hb dX8_staying_14 rfl (lv_at hl 2 rfl) ?_
        obtain ⟨u3, u3e, hf⟩ := bd hf
        refine zk_cV (pc := 15) (ci := 8) (q0 := 0) (rest := [.int v1]) (st1 := [.int (bI u3), .int v1]) (w' := [xM M b_isKept b_size b_at b_from b_sort b_fled b_flights b_firstFlight b_bestHarms b_bestRage b_harmed b_raged, xI cy ((M 2)) 39 b_now]) (mk := [none, none]) C hw (c_X8_isStaying l G cy tt M b_isKept b_size b_at b_from b_sort b_fled b_flights b_firstFlight b_bestHarms b_bestRage b_harmed b_raged v2 b_now _ u3e) zy_X8_isStaying zm_X8_166 rfl rfl rfl [0, 1] rfl rfl rfl rfl rfl rfl rfl rfl hl.1 ⟨rfl, rfl⟩ ⟨Nat.le_of_ble_eq_true rfl, Nat.le_of_ble_eq_true rfl⟩ rfl (Nat.le_of_ble_eq_true rfl) ⟨Nat.zero_le _, Nat.zero_le _⟩ dX8_staying_15 (fun H locs hw => ?_)
        refine zk_ifz (pc := 18) (tgt := 27) hx hb dX8_staying_18 (by decide) (fun q4 => ?_) (fun q4 => ?_)
        · replace hf := if_f q4 hf
          refine lv_iconst (pc := 27) (v := 0) hx hb dX8_staying_27 (by decide) ?_
          exact J28 (zf_X8_staying_4 b_now n) ih v2 ((0 : Int32)) v1 _ _ _ hf hw (lv_sub hl [0, 2] rfl)
        · replace hf := if_t q4 hf
          refine lv_iconst (pc := 21) (v := 1) hx hb dX8_staying_21 (by decide) ?_
          refine lv_iload_n (pc := 22) hx hb dX8_staying_22 rfl (lv_at hl 2 rfl) ?_
          refine lv_ishl (pc := 23) hx hb dX8_staying_23 ?_
          refine lv_goto (pc := 24) (tgt := 28) hx hb dX8_staying_24 (by decide) ?_
          exact J28 (zf_X8_staying_4 b_now n) ih v2 (((1 : Int32) <<< (v2 &&& 31))) v1 _ _ _ hf hw (lv_sub hl [0, 2] rfl)
  rw [zf_X8_staying] at hf
  refine lv_iconst (pc := 0) (v := 0) hx hb dX8_staying_0 (by decide) ?_
  refine lv_istore_n (pc := 1) (lv' := [(1, .int ((0 : Int32))), (0, .ref ((M 0)))]) hx hb dX8_staying_1 rfl hl (by decide) rfl (fun ls hl => ?_)
  refine lv_iconst (pc := 2) (v := 0) hx hb dX8_staying_2 (by decide) ?_
  refine lv_istore_n (pc := 3) (lv' := [(2, .int ((0 : Int32))), (1, .int ((0 : Int32))), (0, .ref ((M 0)))]) hx hb dX8_staying_3 rfl hl (by decide) rfl (fun ls hl => ?_)
  exact J4 FU ((0 : Int32)) ((0 : Int32)) _ _ _ hf hw (lv_sub hl [2, 1, 0] rfl)
def zf_X8_then_39 (t0 : Int32) (b_now : Nat → Int32) (b_minds : Nat → Int32) (b_fled : Bool) : Option (Int32 × (Nat → Int32) × (Nat → Int32) × Bool) := (Option.bind (zf_X8_lay (((0 : Int32))) b_now b_minds) (fun u5 => some (t0, u5, b_minds, b_fled)))
def zf_X8_then (x1 : Int32) (x2 : Int32) (x3 : Int32) (b_now : Nat → Int32) (b_minds : Nat → Int32) (b_fled : Bool) : Option (Int32 × (Nat → Int32) × (Nat → Int32) × Bool) := (Option.bind (zf_X8_keep (((0 : Int32))) b_now b_minds) (fun u1 => (Option.bind (zf_X8_step x1 ((upd b_now 33 x3)) b_fled) (fun u2 => (if x2 = (3 : Int32) then zf_X8_then_39 u2.1 u2.2.1 u1 u2.2.2 else (if ix (((33 : Int32) + x2)) 39 then zf_X8_then_39 ((u2.2.1 (((33 : Int32) + x2)).toNatClampNeg)) u2.2.1 u1 u2.2.2 else none))))))
abbrev zr_X8_then : Room := { frames := 3, cells := 0, slots := 0, locals := 65 }
set_option maxHeartbeats 4000000 in
set_option maxRecDepth 100000 in
theorem c_X8_then (l : Launch) (G : va_G) (cy : Nat → ClassId) (tt : Nat → Nat) (M : Nat → Nat) (b_isKept : Bool) (b_size : Int32) (b_at : Int32) (b_from : Int32) (b_sort : Int32) (b_flights : Int32) (b_firstFlight : Int32) (b_bestHarms : Int32) (b_bestRage : Int32) (b_harmed : Int64) (b_raged : Int64) (x1 : Int32) (x2 : Int32) (x3 : Int32) (b_now : Nat → Int32) (b_minds : Nat → Int32) (b_fled : Bool) (res : Int32 × (Nat → Int32) × (Nat → Int32) × Bool) (hf : zf_X8_then x1 x2 x3 b_now b_minds b_fled = some res) : zCT l yX8_then cX8_then 6 (some .int) zr_X8_then G cy tt [.ref ((M 0)), .int x1, .int x2, .int x3] [xM M b_isKept b_size b_at b_from b_sort b_fled b_flights b_firstFlight b_bestHarms b_bestRage b_harmed b_raged, xI cy ((M 2)) 39 b_now, xI cy ((M 4)) 273 b_minds] (some (.int res.1)) [xM M b_isKept b_size b_at b_from b_sort res.2.2.2 b_flights b_firstFlight b_bestHarms b_bestRage b_harmed b_raged, xI cy ((M 2)) 39 res.2.1, xI cy ((M 4)) 273 res.2.2.1] := by
  refine zk_start zn_X8 (Nat.le_of_ble_eq_true rfl) ?_
  intro p e s m args below meth c A ls Q C hr hQ hw hl
  have C : zCx p m c s args meth cX8_then 6 RX8 G cy tt A := C
  have hx := C.1.1
  have hb := C.1.2.1
  have hl : lv_has ls 6 [(0, .ref ((M 0))), (1, .int x1), (2, .int x2), (3, .int x3)] := hl
  have J39 : ∀ (t0 : Int32) (b_now : Nat → Int32) (b_minds : Nat → Int32) (b_fled : Bool) (H : Heap) (locs : List Loc) (ls : Array Slot), zf_X8_then_39 t0 b_now b_minds b_fled = some res → zWd G A s.heap H locs [xM M b_isKept b_size b_at b_from b_sort b_fled b_flights b_firstFlight b_bestHarms b_bestRage b_harmed b_raged, xI cy ((M 2)) 39 b_now, xI cy ((M 4)) 273 b_minds] → lv_has ls 6 [(0, .ref ((M 0)))] → W p l e zr_X8_then s m args below meth c H locs 0 0 Q (F0 m 39 ls [.int t0]) := by
    intro t0 b_now b_minds b_fled H locs ls hf hw hl
    rw [zf_X8_then_39] at hf
    refine lv_istore (pc := 39) (lv' := [(5, .int t0), (0, .ref ((M 0)))]) hx hb dX8_then_39 hl (by decide) rfl (fun ls hl => ?_)
    refine lv_aload_n (pc := 41) hx hb dX8_then_41 rfl (lv_at hl 1 rfl) ?_
    refine lv_iconst (pc := 42) (v := 0) hx hb dX8_then_42 (by decide) ?_
    obtain ⟨u5, u5e, hf⟩ := bd hf
    refine zk_cV (pc := 43) (ci := 8) (q0 := 0) (rest := []) (st1 := []) (w' := [xM M b_isKept b_size b_at b_from b_sort b_fled b_flights b_firstFlight b_bestHarms b_bestRage b_harmed b_raged, xI cy ((M 2)) 39 u5, xI cy ((M 4)) 273 b_minds]) (mk := [none, some (xI cy ((M 2)) 39 u5), none]) C hw (c_X8_lay l G cy tt M b_isKept b_size b_at b_from b_sort b_fled b_flights b_firstFlight b_bestHarms b_bestRage b_harmed b_raged (((0 : Int32))) b_now b_minds _ u5e) zy_X8_lay zm_X8_150 rfl rfl rfl [0, 1, 2] rfl rfl rfl rfl rfl rfl rfl rfl hl.1 ⟨rfl, rfl⟩ ⟨Nat.le_of_ble_eq_true rfl, Nat.le_of_ble_eq_true rfl⟩ rfl (Nat.le_of_ble_eq_true rfl) ⟨Nat.zero_le _, Nat.zero_le _⟩ dX8_then_43 (fun H locs hw => ?_)
    refine lv_iload (pc := 46) hx hb dX8_then_46 (lv_at hl 0 rfl) ?_
    have hf := Option.some.inj hf
    subst hf
    exact zk_reti (pc := 48) (ww := [xM M b_isKept b_size b_at b_from b_sort b_fled b_flights b_firstFlight b_bestHarms b_bestRage b_harmed b_raged, xI cy ((M 2)) 39 u5, xI cy ((M 4)) 273 b_minds]) C hw hr hQ dX8_then_48
  rw [zf_X8_then] at hf
  refine lv_aload_n (pc := 0) hx hb dX8_then_0 rfl (lv_at hl 0 rfl) ?_
  refine lv_iconst (pc := 1) (v := 0) hx hb dX8_then_1 (by decide) ?_
  obtain ⟨u1, u1e, hf⟩ := bd hf
  refine zk_cV (pc := 2) (ci := 8) (q0 := 0) (rest := []) (st1 := []) (w' := [xM M b_isKept b_size b_at b_from b_sort b_fled b_flights b_firstFlight b_bestHarms b_bestRage b_harmed b_raged, xI cy ((M 2)) 39 b_now, xI cy ((M 4)) 273 u1]) (mk := [none, none, some (xI cy ((M 4)) 273 u1)]) C hw (c_X8_keep l G cy tt M b_isKept b_size b_at b_from b_sort b_fled b_flights b_firstFlight b_bestHarms b_bestRage b_harmed b_raged (((0 : Int32))) b_now b_minds _ u1e) zy_X8_keep zm_X8_142 rfl rfl rfl [0, 1, 2] rfl rfl rfl rfl rfl rfl rfl rfl hl.1 ⟨rfl, rfl⟩ ⟨Nat.le_of_ble_eq_true rfl, Nat.le_of_ble_eq_true rfl⟩ rfl (Nat.le_of_ble_eq_true rfl) ⟨Nat.zero_le _, Nat.zero_le _⟩ dX8_then_2 (fun H locs hw => ?_)
  refine lv_aload_n (pc := 5) hx hb dX8_then_5 rfl (lv_at hl 0 rfl) ?_
  refine zk_gt (pc := 6) C hw zl_X8_17 0 rfl rfl dX8_then_6 ?_
  refine lv_bipush (pc := 9) (v := 33) hx hb dX8_then_9 (by decide) ?_
  refine lv_iload_n (pc := 11) hx hb dX8_then_11 rfl (lv_at hl 3 rfl) ?_
  refine zk_iastK (pc := 12) (w' := [xM M b_isKept b_size b_at b_from b_sort b_fled b_flights b_firstFlight b_bestHarms b_bestRage b_harmed b_raged, xI cy ((M 2)) 39 ((upd b_now 33 x3)), xI cy ((M 4)) 273 u1]) 33 (by decide) C hw 1 rfl (by decide) rfl dX8_then_12 (fun H locs hw => ?_)
  refine lv_aload_n (pc := 13) hx hb dX8_then_13 rfl (lv_at hl 0 rfl) ?_
  refine lv_iload_n (pc := 14) hx hb dX8_then_14 rfl (lv_at hl 1 rfl) ?_
  obtain ⟨u2, u2e, hf⟩ := bd hf
  refine zk_cV (pc := 15) (ci := 8) (q0 := 0) (rest := []) (st1 := [.int u2.1]) (w' := [xM M b_isKept b_size b_at b_from b_sort u2.2.2 b_flights b_firstFlight b_bestHarms b_bestRage b_harmed b_raged, xI cy ((M 2)) 39 u2.2.1, xI cy ((M 4)) 273 u1]) (mk := [some (xM M b_isKept b_size b_at b_from b_sort u2.2.2 b_flights b_firstFlight b_bestHarms b_bestRage b_harmed b_raged), some (xI cy ((M 2)) 39 u2.2.1), none]) C hw (c_X8_step l G cy tt M b_isKept b_size b_at b_from b_sort b_flights b_firstFlight b_bestHarms b_bestRage b_harmed b_raged x1 ((upd b_now 33 x3)) b_fled _ u2e) zy_X8_step zm_X8_181 rfl rfl rfl [0, 1] rfl rfl rfl rfl rfl rfl rfl rfl hl.1 ⟨rfl, rfl⟩ ⟨Nat.le_of_ble_eq_true rfl, Nat.le_of_ble_eq_true rfl⟩ rfl (Nat.le_of_ble_eq_true rfl) ⟨Nat.zero_le _, Nat.zero_le _⟩ dX8_then_15 (fun H locs hw => ?_)
  refine lv_istore (pc := 18) (lv' := [(4, .int u2.1), (0, .ref ((M 0))), (1, .int x1), (2, .int x2), (3, .int x3)]) hx hb dX8_then_18 hl (by decide) rfl (fun ls hl => ?_)
  refine lv_iload_n (pc := 20) hx hb dX8_then_20 rfl (lv_at hl 3 rfl) ?_
  refine lv_iconst (pc := 21) (v := 3) hx hb dX8_then_21 (by decide) ?_
  refine lv_icmp_ne (pc := 22) (tgt := 30) hx hb dX8_then_22 (by decide) (fun q3 => ?_) (fun q3 => ?_)
  · replace hf := if_f q3 hf
    refine lv_aload_n (pc := 30) hx hb dX8_then_30 rfl (lv_at hl 1 rfl) ?_
    refine zk_gt (pc := 31) C hw zl_X8_17 0 rfl rfl dX8_then_31 ?_
    refine lv_bipush (pc := 34) (v := 33) hx hb dX8_then_34 (by decide) ?_
    refine lv_iload_n (pc := 36) hx hb dX8_then_36 rfl (lv_at hl 3 rfl) ?_
    refine lv_iadd (pc := 37) hx hb dX8_then_37 ?_
    obtain ⟨q4, hf⟩ := ck hf
    refine zk_iald (pc := 38) C hw 1 rfl q4 dX8_then_38 ?_
    exact J39 ((u2.2.1 (((33 : Int32) + x2)).toNatClampNeg)) u2.2.1 u1 u2.2.2 _ _ _ hf hw (lv_sub hl [1] rfl)
  · replace hf := if_t q3 hf
    refine lv_iload (pc := 25) hx hb dX8_then_25 (lv_at hl 0 rfl) ?_
    refine lv_goto (pc := 27) (tgt := 39) hx hb dX8_then_27 (by decide) ?_
    exact J39 u2.1 u2.2.1 u1 u2.2.2 _ _ _ hf hw (lv_sub hl [1] rfl)
def zf_X8_after_37 (b_refused : Nat → Int32) (b_now : Nat → Int32) (b_minds : Nat → Int32) (b_fled : Bool) : Option (Int32 × (Nat → Int32) × (Nat → Int32) × (Nat → Int32) × Bool) := (Option.bind (zf_X8_refuse (((-2 : Int32))) b_refused) (fun u6 => some (u6.1, u6.2, b_now, b_minds, b_fled)))
def zf_X8_after (x1 : Int32) (x2 : Int32) (b_refused : Nat → Int32) (b_now : Nat → Int32) (b_minds : Nat → Int32) (b_fled : Bool) : Option (Int32 × (Nat → Int32) × (Nat → Int32) × (Nat → Int32) × Bool) := (Option.bind (zf_X8_isOrder x1.toInt64 b_now) (fun u1 => (if u1 then (Option.bind (zf_X8_isIn x2.toInt64 (((0 : Int64))) (((3 : Int64)))) (fun u3 => (if u3 then (Option.bind (zf_X8_then x1 x2 (((b_now 33))) b_now b_minds b_fled) (fun u5 => some (u5.1, b_refused, u5.2.1, u5.2.2.1, u5.2.2.2))) else zf_X8_after_37 b_refused b_now b_minds b_fled))) else zf_X8_after_37 b_refused b_now b_minds b_fled)))
abbrev zr_X8_after : Room := { frames := 4, cells := 0, slots := 0, locals := 90 }
set_option maxHeartbeats 4000000 in
set_option maxRecDepth 100000 in
theorem c_X8_after (l : Launch) (G : va_G) (cy : Nat → ClassId) (tt : Nat → Nat) (M : Nat → Nat) (b_isKept : Bool) (b_size : Int32) (b_at : Int32) (b_from : Int32) (b_sort : Int32) (b_flights : Int32) (b_firstFlight : Int32) (b_bestHarms : Int32) (b_bestRage : Int32) (b_harmed : Int64) (b_raged : Int64) (x1 : Int32) (x2 : Int32) (b_refused : Nat → Int32) (b_now : Nat → Int32) (b_minds : Nat → Int32) (b_fled : Bool) (res : Int32 × (Nat → Int32) × (Nat → Int32) × (Nat → Int32) × Bool) (hf : zf_X8_after x1 x2 b_refused b_now b_minds b_fled = some res) : zCT l yX8_after cX8_after 3 (some .int) zr_X8_after G cy tt [.ref ((M 0)), .int x1, .int x2] [xM M b_isKept b_size b_at b_from b_sort b_fled b_flights b_firstFlight b_bestHarms b_bestRage b_harmed b_raged, xI cy ((M 1)) 7 b_refused, xI cy ((M 2)) 39 b_now, xI cy ((M 4)) 273 b_minds] (some (.int res.1)) [xM M b_isKept b_size b_at b_from b_sort res.2.2.2.2 b_flights b_firstFlight b_bestHarms b_bestRage b_harmed b_raged, xI cy ((M 1)) 7 res.2.1, xI cy ((M 2)) 39 res.2.2.1, xI cy ((M 4)) 273 res.2.2.2.1] := by
  refine zk_start zn_X8 (Nat.le_of_ble_eq_true rfl) ?_
  intro p e s m args below meth c A ls Q C hr hQ hw hl
  have C : zCx p m c s args meth cX8_after 3 RX8 G cy tt A := C
  have hx := C.1.1
  have hb := C.1.2.1
  have hl : lv_has ls 3 [(0, .ref ((M 0))), (1, .int x1), (2, .int x2)] := hl
  have J37 : ∀ (b_refused : Nat → Int32) (b_now : Nat → Int32) (b_minds : Nat → Int32) (b_fled : Bool) (H : Heap) (locs : List Loc) (ls : Array Slot), zf_X8_after_37 b_refused b_now b_minds b_fled = some res → zWd G A s.heap H locs [xM M b_isKept b_size b_at b_from b_sort b_fled b_flights b_firstFlight b_bestHarms b_bestRage b_harmed b_raged, xI cy ((M 1)) 7 b_refused, xI cy ((M 2)) 39 b_now, xI cy ((M 4)) 273 b_minds] → lv_has ls 3 [(0, .ref ((M 0)))] → W p l e zr_X8_after s m args below meth c H locs 0 0 Q (F0 m 37 ls []) := by
    intro b_refused b_now b_minds b_fled H locs ls hf hw hl
    rw [zf_X8_after_37] at hf
    refine lv_aload_n (pc := 37) hx hb dX8_after_37 rfl (lv_at hl 0 rfl) ?_
    refine lv_bipush (pc := 38) (v := -2) hx hb dX8_after_38 (by decide) ?_
    obtain ⟨u6, u6e, hf⟩ := bd hf
    refine zk_cV (pc := 40) (ci := 8) (q0 := 0) (rest := []) (st1 := [.int u6.1]) (w' := [xM M b_isKept b_size b_at b_from b_sort b_fled b_flights b_firstFlight b_bestHarms b_bestRage b_harmed b_raged, xI cy ((M 1)) 7 u6.2, xI cy ((M 2)) 39 b_now, xI cy ((M 4)) 273 b_minds]) (mk := [none, some (xI cy ((M 1)) 7 u6.2), none, none]) C hw (c_X8_refuse l G cy tt M b_isKept b_size b_at b_from b_sort b_fled b_flights b_firstFlight b_bestHarms b_bestRage b_harmed b_raged (((-2 : Int32))) b_refused _ u6e) zy_X8_refuse zm_X8_90 rfl rfl rfl [0, 1] rfl rfl rfl rfl rfl rfl rfl rfl hl.1 ⟨rfl, rfl⟩ ⟨Nat.le_of_ble_eq_true rfl, Nat.le_of_ble_eq_true rfl⟩ rfl (Nat.le_of_ble_eq_true rfl) ⟨Nat.zero_le _, Nat.zero_le _⟩ dX8_after_40 (fun H locs hw => ?_)
    have hf := Option.some.inj hf
    subst hf
    exact zk_reti (pc := 43) (ww := [xM M b_isKept b_size b_at b_from b_sort b_fled b_flights b_firstFlight b_bestHarms b_bestRage b_harmed b_raged, xI cy ((M 1)) 7 u6.2, xI cy ((M 2)) 39 b_now, xI cy ((M 4)) 273 b_minds]) C hw hr hQ dX8_after_43
  rw [zf_X8_after] at hf
  refine lv_aload_n (pc := 0) hx hb dX8_after_0 rfl (lv_at hl 0 rfl) ?_
  refine lv_iload_n (pc := 1) hx hb dX8_after_1 rfl (lv_at hl 1 rfl) ?_
  refine lv_i2l (pc := 2) (v := x1.toInt64) hx hb dX8_after_2 rfl ?_
  obtain ⟨u1, u1e, hf⟩ := bd hf
  refine zk_cV (pc := 3) (ci := 8) (q0 := 0) (rest := []) (st1 := [.int (bI u1)]) (w' := [xM M b_isKept b_size b_at b_from b_sort b_fled b_flights b_firstFlight b_bestHarms b_bestRage b_harmed b_raged, xI cy ((M 1)) 7 b_refused, xI cy ((M 2)) 39 b_now, xI cy ((M 4)) 273 b_minds]) (mk := [none, none, none, none]) C hw (c_X8_isOrder l G cy tt M b_isKept b_size b_at b_from b_sort b_fled b_flights b_firstFlight b_bestHarms b_bestRage b_harmed b_raged x1.toInt64 b_now _ u1e) zy_X8_isOrder zm_X8_184 rfl rfl rfl [0, 2] rfl rfl rfl rfl rfl rfl rfl rfl hl.1 ⟨rfl, rfl⟩ ⟨Nat.le_of_ble_eq_true rfl, Nat.le_of_ble_eq_true rfl⟩ rfl (Nat.le_of_ble_eq_true rfl) ⟨Nat.zero_le _, Nat.zero_le _⟩ dX8_after_3 (fun H locs hw => ?_)
  refine zk_ifz (pc := 6) (tgt := 37) hx hb dX8_after_6 (by decide) (fun q2 => ?_) (fun q2 => ?_)
  · replace hf := if_f q2 hf
    exact J37 b_refused b_now b_minds b_fled _ _ _ hf hw (lv_sub hl [0] rfl)
  · replace hf := if_t q2 hf
    refine lv_iload_n (pc := 9) hx hb dX8_after_9 rfl (lv_at hl 2 rfl) ?_
    refine lv_i2l (pc := 10) (v := x2.toInt64) hx hb dX8_after_10 rfl ?_
    refine lv_lconst (pc := 11) (v := 0) hx hb dX8_after_11 (by decide) ?_
    refine lv_ldc2 (pc := 12) (v := 3) hx hb C.1.2.2.2.1 (C.1.2.2.2.2 _ zc_X8_179) dX8_after_12 ?_
    obtain ⟨u3, u3e, hf⟩ := bd hf
    refine zk_cS (pc := 15) (rest := []) (st1 := [.int (bI u3)]) (w' := [xM M b_isKept b_size b_at b_from b_sort b_fled b_flights b_firstFlight b_bestHarms b_bestRage b_harmed b_raged, xI cy ((M 1)) 7 b_refused, xI cy ((M 2)) 39 b_now, xI cy ((M 4)) 273 b_minds]) (mk := [none, none, none, none]) C hw (c_X8_isIn l G cy tt x2.toInt64 (((0 : Int64))) (((3 : Int64))) _ u3e) zy_X8_isIn zm_X8_68 [] rfl rfl rfl rfl rfl rfl rfl rfl hl.1 ⟨rfl, rfl⟩ ⟨Nat.le_of_ble_eq_true rfl, Nat.le_of_ble_eq_true rfl⟩ rfl (Nat.le_of_ble_eq_true rfl) ⟨Nat.zero_le _, Nat.zero_le _⟩ dX8_after_15 (fun H locs hw => ?_)
    refine zk_ifz (pc := 18) (tgt := 37) hx hb dX8_after_18 (by decide) (fun q4 => ?_) (fun q4 => ?_)
    · replace hf := if_f q4 hf
      exact J37 b_refused b_now b_minds b_fled _ _ _ hf hw (lv_sub hl [0] rfl)
    · replace hf := if_t q4 hf
      refine lv_aload_n (pc := 21) hx hb dX8_after_21 rfl (lv_at hl 0 rfl) ?_
      refine lv_iload_n (pc := 22) hx hb dX8_after_22 rfl (lv_at hl 1 rfl) ?_
      refine lv_iload_n (pc := 23) hx hb dX8_after_23 rfl (lv_at hl 2 rfl) ?_
      refine lv_aload_n (pc := 24) hx hb dX8_after_24 rfl (lv_at hl 0 rfl) ?_
      refine zk_gt (pc := 25) C hw zl_X8_17 0 rfl rfl dX8_after_25 ?_
      refine lv_bipush (pc := 28) (v := 33) hx hb dX8_after_28 (by decide) ?_
      refine zk_ialdK (pc := 30) 33 (by decide) C hw 2 rfl (by decide) dX8_after_30 ?_
      obtain ⟨u5, u5e, hf⟩ := bd hf
      refine zk_cV (pc := 31) (ci := 8) (q0 := 0) (rest := []) (st1 := [.int u5.1]) (w' := [xM M b_isKept b_size b_at b_from b_sort u5.2.2.2 b_flights b_firstFlight b_bestHarms b_bestRage b_harmed b_raged, xI cy ((M 1)) 7 b_refused, xI cy ((M 2)) 39 u5.2.1, xI cy ((M 4)) 273 u5.2.2.1]) (mk := [some (xM M b_isKept b_size b_at b_from b_sort u5.2.2.2 b_flights b_firstFlight b_bestHarms b_bestRage b_harmed b_raged), none, some (xI cy ((M 2)) 39 u5.2.1), some (xI cy ((M 4)) 273 u5.2.2.1)]) C hw (c_X8_then l G cy tt M b_isKept b_size b_at b_from b_sort b_flights b_firstFlight b_bestHarms b_bestRage b_harmed b_raged x1 x2 (((b_now 33))) b_now b_minds b_fled _ u5e) zy_X8_then zm_X8_187 rfl rfl rfl [0, 2, 3] rfl rfl rfl rfl rfl rfl rfl rfl hl.1 ⟨rfl, rfl⟩ ⟨Nat.le_of_ble_eq_true rfl, Nat.le_of_ble_eq_true rfl⟩ rfl (Nat.le_of_ble_eq_true rfl) ⟨Nat.zero_le _, Nat.zero_le _⟩ dX8_after_31 (fun H locs hw => ?_)
      refine lv_goto (pc := 34) (tgt := 43) hx hb dX8_after_34 (by decide) ?_
      have hf := Option.some.inj hf
      subst hf
      exact zk_reti (pc := 43) (ww := [xM M b_isKept b_size b_at b_from b_sort u5.2.2.2 b_flights b_firstFlight b_bestHarms b_bestRage b_harmed b_raged, xI cy ((M 1)) 7 b_refused, xI cy ((M 2)) 39 u5.2.1, xI cy ((M 4)) 273 u5.2.2.1]) C hw hr hQ dX8_after_43
def zf_X8_bestNow_89 (k27 : Int32 → Int32 → Int32 → Int32 → (Nat → Int32) → (Nat → Int32) → (Nat → Int32) → Bool → Option (Int32 × (Nat → Int32) × (Nat → Int32) × (Nat → Int32) × Bool)) (v1 : Int32) (v3 : Int32) (v4 : Int32) (v6 : Int32) (t0 : Int32) (b_refused : Nat → Int32) (b_now : Nat → Int32) (b_minds : Nat → Int32) (b_fled : Bool) : Option (Int32 × (Nat → Int32) × (Nat → Int32) × (Nat → Int32) × Bool) := k27 v1 t0 ((if v3 < v6 then v3 else v6)) ((v4 + 1)) b_refused b_now b_minds b_fled
def zf_X8_bestNow_71 (k27 : Int32 → Int32 → Int32 → Int32 → (Nat → Int32) → (Nat → Int32) → (Nat → Int32) → Bool → Option (Int32 × (Nat → Int32) × (Nat → Int32) × (Nat → Int32) × Bool)) (v1 : Int32) (v2 : Int32) (v3 : Int32) (v4 : Int32) (t0 : Int32) (b_refused : Nat → Int32) (b_now : Nat → Int32) (b_minds : Nat → Int32) (b_fled : Bool) : Option (Int32 × (Nat → Int32) × (Nat → Int32) × (Nat → Int32) × Bool) := (if v3 ≤ t0 then zf_X8_bestNow_89 k27 v1 v3 v4 t0 v2 b_refused b_now b_minds b_fled else (Option.bind (zf_X8_orderAt v4 b_now) (fun u10 => zf_X8_bestNow_89 k27 v1 v3 v4 t0 u10 b_refused b_now b_minds b_fled)))
def zf_X8_bestNow_27 : Nat → Int32 → Int32 → Int32 → Int32 → (Nat → Int32) → (Nat → Int32) → (Nat → Int32) → Bool → Option (Int32 × (Nat → Int32) × (Nat → Int32) × (Nat → Int32) × Bool)
  | 0, _, _, _, _, _, _, _, _ => none
  | n + 1, v1, v2, v3, v4, b_refused, b_now, b_minds, b_fled => (Option.bind (zf_X8_many b_now) (fun u4 => (if (u4 + (2 : Int32)) ≤ v4 then some (v2, b_refused, b_now, b_minds, b_fled) else (Option.bind (zf_X8_orderAt v4 b_now) (fun u6 => (Option.bind (zf_X8_then u6 v1 (((b_now 33))) b_now b_minds b_fled) (fun u7 => (if v1 = (1 : Int32) then zf_X8_bestNow_71 (zf_X8_bestNow_27 n) v1 v2 v3 v4 ((-u7.1)) b_refused u7.2.1 u7.2.2.1 u7.2.2.2 else zf_X8_bestNow_71 (zf_X8_bestNow_27 n) v1 v2 v3 v4 u7.1 b_refused u7.2.1 u7.2.2.1 u7.2.2.2))))))))
def zf_X8_bestNow (x1 : Int32) (b_refused : Nat → Int32) (b_now : Nat → Int32) (b_minds : Nat → Int32) (b_fled : Bool) : Option (Int32 × (Nat → Int32) × (Nat → Int32) × (Nat → Int32) × Bool) := (Option.bind (zf_X8_isIn x1.toInt64 (((0 : Int64))) (((2 : Int64)))) (fun u1 => (if u1 then zf_X8_bestNow_27 FU x1 ((-1 : Int32)) ((2147483647 : Int32)) ((0 : Int32)) b_refused b_now b_minds b_fled else (Option.bind (zf_X8_refuse (((-2 : Int32))) b_refused) (fun u3 => some (u3.1, u3.2, b_now, b_minds, b_fled))))))
abbrev zr_X8_bestNow : Room := { frames := 4, cells := 0, slots := 0, locals := 90 }
set_option maxHeartbeats 4000000 in
set_option maxRecDepth 100000 in
theorem c_X8_bestNow (l : Launch) (G : va_G) (cy : Nat → ClassId) (tt : Nat → Nat) (M : Nat → Nat) (b_isKept : Bool) (b_size : Int32) (b_at : Int32) (b_from : Int32) (b_sort : Int32) (b_flights : Int32) (b_firstFlight : Int32) (b_bestHarms : Int32) (b_bestRage : Int32) (b_harmed : Int64) (b_raged : Int64) (x1 : Int32) (b_refused : Nat → Int32) (b_now : Nat → Int32) (b_minds : Nat → Int32) (b_fled : Bool) (res : Int32 × (Nat → Int32) × (Nat → Int32) × (Nat → Int32) × Bool) (hf : zf_X8_bestNow x1 b_refused b_now b_minds b_fled = some res) : zCT l yX8_bestNow cX8_bestNow 7 (some .int) zr_X8_bestNow G cy tt [.ref ((M 0)), .int x1] [xM M b_isKept b_size b_at b_from b_sort b_fled b_flights b_firstFlight b_bestHarms b_bestRage b_harmed b_raged, xI cy ((M 1)) 7 b_refused, xI cy ((M 2)) 39 b_now, xI cy ((M 4)) 273 b_minds] (some (.int res.1)) [xM M b_isKept b_size b_at b_from b_sort res.2.2.2.2 b_flights b_firstFlight b_bestHarms b_bestRage b_harmed b_raged, xI cy ((M 1)) 7 res.2.1, xI cy ((M 2)) 39 res.2.2.1, xI cy ((M 4)) 273 res.2.2.2.1] := by
  refine zk_start zn_X8 (Nat.le_of_ble_eq_true rfl) ?_
  intro p e s m args below meth c A ls Q C hr hQ hw hl
  have C : zCx p m c s args meth cX8_bestNow 7 RX8 G cy tt A := C
  have hx := C.1.1
  have hb := C.1.2.1
  have hl : lv_has ls 7 [(0, .ref ((M 0))), (1, .int x1)] := hl
  have J89 : ∀ (k27 : Int32 → Int32 → Int32 → Int32 → (Nat → Int32) → (Nat → Int32) → (Nat → Int32) → Bool → Option (Int32 × (Nat → Int32) × (Nat → Int32) × (Nat → Int32) × Bool)) (K27 : ∀ (v1 : Int32) (v2 : Int32) (v3 : Int32) (v4 : Int32) (b_refused : Nat → Int32) (b_now : Nat → Int32) (b_minds : Nat → Int32) (b_fled : Bool) (H : Heap) (locs : List Loc) (ls : Array Slot), k27 v1 v2 v3 v4 b_refused b_now b_minds b_fled = some res → zWd G A s.heap H locs [xM M b_isKept b_size b_at b_from b_sort b_fled b_flights b_firstFlight b_bestHarms b_bestRage b_harmed b_raged, xI cy ((M 1)) 7 b_refused, xI cy ((M 2)) 39 b_now, xI cy ((M 4)) 273 b_minds] → lv_has ls 7 [(0, .ref ((M 0))), (1, .int v1), (2, .int v2), (3, .int v3), (4, .int v4)] → W p l e zr_X8_bestNow s m args below meth c H locs 0 0 Q (F0 m 27 ls [])), ∀ (v1 : Int32) (v3 : Int32) (v4 : Int32) (v6 : Int32) (t0 : Int32) (b_refused : Nat → Int32) (b_now : Nat → Int32) (b_minds : Nat → Int32) (b_fled : Bool) (H : Heap) (locs : List Loc) (ls : Array Slot), zf_X8_bestNow_89 k27 v1 v3 v4 v6 t0 b_refused b_now b_minds b_fled = some res → zWd G A s.heap H locs [xM M b_isKept b_size b_at b_from b_sort b_fled b_flights b_firstFlight b_bestHarms b_bestRage b_harmed b_raged, xI cy ((M 1)) 7 b_refused, xI cy ((M 2)) 39 b_now, xI cy ((M 4)) 273 b_minds] → lv_has ls 7 [(0, .ref ((M 0))), (1, .int v1), (3, .int v3), (4, .int v4), (6, .int v6)] → W p l e zr_X8_bestNow s m args below meth c H locs 0 0 Q (F0 m 89 ls [.int t0]) := by
    intro k27 K27 v1 v3 v4 v6 t0 b_refused b_now b_minds b_fled H locs ls hf hw hl
    rw [zf_X8_bestNow_89] at hf
    refine lv_istore_n (pc := 89) (lv' := [(2, .int t0), (0, .ref ((M 0))), (1, .int v1), (3, .int v3), (4, .int v4), (6, .int v6)]) hx hb dX8_bestNow_89 rfl hl (by decide) rfl (fun ls hl => ?_)
    refine lv_iload (pc := 90) hx hb dX8_bestNow_90 (lv_at hl 5 rfl) ?_
    refine lv_iload_n (pc := 92) hx hb dX8_bestNow_92 rfl (lv_at hl 3 rfl) ?_
    refine zk_min (pc := 93) C hl.1 zm_X8_59 ⟨Nat.le_of_ble_eq_true rfl, Nat.le_of_ble_eq_true rfl⟩ ⟨Nat.zero_le _, Nat.zero_le _⟩ dX8_bestNow_93 ?_
    refine lv_istore_n (pc := 96) (lv' := [(3, .int ((if v3 < v6 then v3 else v6))), (2, .int t0), (0, .ref ((M 0))), (1, .int v1), (4, .int v4), (6, .int v6)]) hx hb dX8_bestNow_96 rfl hl (by decide) rfl (fun ls hl => ?_)
    refine lv_iinc (pc := 97) (v := (v4 + 1)) (lv' := [(4, .int ((v4 + 1))), (3, .int ((if v3 < v6 then v3 else v6))), (2, .int t0), (0, .ref ((M 0))), (1, .int v1), (6, .int v6)]) hx hb dX8_bestNow_97 hl (k := 4) rfl rfl (by decide) rfl (fun ls hl => ?_)
    refine lv_goto (pc := 100) (tgt := 27) hx hb dX8_bestNow_100 (by decide) ?_
    exact K27 v1 t0 ((if v3 < v6 then v3 else v6)) ((v4 + 1)) b_refused b_now b_minds b_fled _ _ _ hf hw (lv_sub hl [3, 4, 2, 1, 0] rfl)
  have J71 : ∀ (k27 : Int32 → Int32 → Int32 → Int32 → (Nat → Int32) → (Nat → Int32) → (Nat → Int32) → Bool → Option (Int32 × (Nat → Int32) × (Nat → Int32) × (Nat → Int32) × Bool)) (K27 : ∀ (v1 : Int32) (v2 : Int32) (v3 : Int32) (v4 : Int32) (b_refused : Nat → Int32) (b_now : Nat → Int32) (b_minds : Nat → Int32) (b_fled : Bool) (H : Heap) (locs : List Loc) (ls : Array Slot), k27 v1 v2 v3 v4 b_refused b_now b_minds b_fled = some res → zWd G A s.heap H locs [xM M b_isKept b_size b_at b_from b_sort b_fled b_flights b_firstFlight b_bestHarms b_bestRage b_harmed b_raged, xI cy ((M 1)) 7 b_refused, xI cy ((M 2)) 39 b_now, xI cy ((M 4)) 273 b_minds] → lv_has ls 7 [(0, .ref ((M 0))), (1, .int v1), (2, .int v2), (3, .int v3), (4, .int v4)] → W p l e zr_X8_bestNow s m args below meth c H locs 0 0 Q (F0 m 27 ls [])), ∀ (v1 : Int32) (v2 : Int32) (v3 : Int32) (v4 : Int32) (t0 : Int32) (b_refused : Nat → Int32) (b_now : Nat → Int32) (b_minds : Nat → Int32) (b_fled : Bool) (H : Heap) (locs : List Loc) (ls : Array Slot), zf_X8_bestNow_71 k27 v1 v2 v3 v4 t0 b_refused b_now b_minds b_fled = some res → zWd G A s.heap H locs [xM M b_isKept b_size b_at b_from b_sort b_fled b_flights b_firstFlight b_bestHarms b_bestRage b_harmed b_raged, xI cy ((M 1)) 7 b_refused, xI cy ((M 2)) 39 b_now, xI cy ((M 4)) 273 b_minds] → lv_has ls 7 [(0, .ref ((M 0))), (1, .int v1), (2, .int v2), (3, .int v3), (4, .int v4)] → W p l e zr_X8_bestNow s m args below meth c H locs 0 0 Q (F0 m 71 ls [.int t0]) := by
    intro k27 K27 v1 v2 v3 v4 t0 b_refused b_now b_minds b_fled H locs ls hf hw hl
    rw [zf_X8_bestNow_71] at hf
    refine lv_istore (pc := 71) (lv' := [(6, .int t0), (0, .ref ((M 0))), (1, .int v1), (2, .int v2), (3, .int v3), (4, .int v4)]) hx hb dX8_bestNow_71 hl (by decide) rfl (fun ls hl => ?_)
    refine lv_iload (pc := 73) hx hb dX8_bestNow_73 (lv_at hl 0 rfl) ?_
    refine lv_iload_n (pc := 75) hx hb dX8_bestNow_75 rfl (lv_at hl 4 rfl) ?_
    refine lv_icmp_ge (pc := 76) (tgt := 88) hx hb dX8_bestNow_76 (by decide) (fun q9 => ?_) (fun q9 => ?_)
    · replace hf := if_t q9 hf
      refine lv_iload_n (pc := 88) hx hb dX8_bestNow_88 rfl (lv_at hl 3 rfl) ?_
      exact J89 k27 K27 v1 v3 v4 t0 v2 b_refused b_now b_minds b_fled _ _ _ hf hw (lv_sub hl [1, 2, 4, 5, 0] rfl)
    · replace hf := if_f q9 hf
      refine lv_aload_n (pc := 79) hx hb dX8_bestNow_79 rfl (lv_at hl 1 rfl) ?_
      refine lv_iload (pc := 80) hx hb dX8_bestNow_80 (lv_at hl 5 rfl) ?_
      obtain ⟨u10, u10e, hf⟩ := bd hf
      refine zk_cV (pc := 82) (ci := 8) (q0 := 0) (rest := []) (st1 := [.int u10]) (w' := [xM M b_isKept b_size b_at b_from b_sort b_fled b_flights b_firstFlight b_bestHarms b_bestRage b_harmed b_raged, xI cy ((M 1)) 7 b_refused, xI cy ((M 2)) 39 b_now, xI cy ((M 4)) 273 b_minds]) (mk := [none, none, none, none]) C hw (c_X8_orderAt l G cy tt M b_isKept b_size b_at b_from b_sort b_fled b_flights b_firstFlight b_bestHarms b_bestRage b_harmed b_raged v4 b_now _ u10e) zy_X8_orderAt zm_X8_195 rfl rfl rfl [0, 2] rfl rfl rfl rfl rfl rfl rfl rfl hl.1 ⟨rfl, rfl⟩ ⟨Nat.le_of_ble_eq_true rfl, Nat.le_of_ble_eq_true rfl⟩ rfl (Nat.le_of_ble_eq_true rfl) ⟨Nat.zero_le _, Nat.zero_le _⟩ dX8_bestNow_82 (fun H locs hw => ?_)
      refine lv_goto (pc := 85) (tgt := 89) hx hb dX8_bestNow_85 (by decide) ?_
      exact J89 k27 K27 v1 v3 v4 t0 u10 b_refused b_now b_minds b_fled _ _ _ hf hw (lv_sub hl [1, 2, 4, 5, 0] rfl)
  have J27 : ∀ (n : Nat), ∀ (v1 : Int32) (v2 : Int32) (v3 : Int32) (v4 : Int32) (b_refused : Nat → Int32) (b_now : Nat → Int32) (b_minds : Nat → Int32) (b_fled : Bool) (H : Heap) (locs : List Loc) (ls : Array Slot), zf_X8_bestNow_27 n v1 v2 v3 v4 b_refused b_now b_minds b_fled = some res → zWd G A s.heap H locs [xM M b_isKept b_size b_at b_from b_sort b_fled b_flights b_firstFlight b_bestHarms b_bestRage b_harmed b_raged, xI cy ((M 1)) 7 b_refused, xI cy ((M 2)) 39 b_now, xI cy ((M 4)) 273 b_minds] → lv_has ls 7 [(0, .ref ((M 0))), (1, .int v1), (2, .int v2), (3, .int v3), (4, .int v4)] → W p l e zr_X8_bestNow s m args below meth c H locs 0 0 Q (F0 m 27 ls []) := by
    intro n
    induction n with
    | zero =>
      intro v1 v2 v3 v4 b_refused b_now b_minds b_fled H locs ls hf hw hl
      rw [zf_X8_bestNow_27] at hf
      cases hf
    | succ n ih =>
      intro v1 v2 v3 v4 b_refused b_now b_minds b_fled H locs ls hf hw hl
      rw [zf_X8_bestNow_27] at hf
      refine lv_iload (pc := 27) hx hb dX8_bestNow_27 (lv_at hl 4 rfl) ?_
      refine lv_aload_n (pc := 29) hx hb dX8_bestNow_29 rfl (lv_at hl 0 rfl) ?_
      obtain ⟨u4, u4e, hf⟩ := bd hf
      refine zk_cV (pc := 30) (ci := 8) (q0 := 0) (rest := [.int v4]) (st1 := [.int u4, .int v4]) (w' := [xM M b_isKept b_size b_at b_from b_sort b_fled b_flights b_firstFlight b_bestHarms b_bestRage b_harmed b_raged, xI cy ((M 1)) 7 b_refused, xI cy ((M 2)) 39 b_now, xI cy ((M 4)) 273 b_minds]) (mk := [none, none, none, none]) C hw (c_X8_many l G cy tt M b_isKept b_size b_at b_from b_sort b_fled b_flights b_firstFlight b_bestHarms b_bestRage b_harmed b_raged b_now _ u4e) zy_X8_many zm_X8_80 rfl rfl rfl [0, 2] rfl rfl rfl rfl rfl rfl rfl rfl hl.1 ⟨rfl, rfl⟩ ⟨Nat.le_of_ble_eq_true rfl, Nat.le_of_ble_eq_true rfl⟩ rfl (Nat.le_of_ble_eq_true rfl) ⟨Nat.zero_le _, Nat.zero_le _⟩ dX8_bestNow_30 (fun H locs hw => ?_)
      refine lv_iconst (pc := 33) (v := 2) hx hb dX8_bestNow_33 (by decide) ?_
      refine lv_iadd (pc := 34) hx hb dX8_bestNow_34 ?_
      refine lv_icmp_ge (pc := 35) (tgt := 103) hx hb dX8_bestNow_35 (by decide) (fun q5 => ?_) (fun q5 => ?_)
      · replace hf := if_t q5 hf
        refine lv_iload_n (pc := 103) hx hb dX8_bestNow_103 rfl (lv_at hl 2 rfl) ?_
        have hf := Option.some.inj hf
        subst hf
        exact zk_reti (pc := 104) (ww := [xM M b_isKept b_size b_at b_from b_sort b_fled b_flights b_firstFlight b_bestHarms b_bestRage b_harmed b_raged, xI cy ((M 1)) 7 b_refused, xI cy ((M 2)) 39 b_now, xI cy ((M 4)) 273 b_minds]) C hw hr hQ dX8_bestNow_104
      · replace hf := if_f q5 hf
        refine lv_aload_n (pc := 38) hx hb dX8_bestNow_38 rfl (lv_at hl 0 rfl) ?_
        refine lv_aload_n (pc := 39) hx hb dX8_bestNow_39 rfl (lv_at hl 0 rfl) ?_
        refine lv_iload (pc := 40) hx hb dX8_bestNow_40 (lv_at hl 4 rfl) ?_
        obtain ⟨u6, u6e, hf⟩ := bd hf
        refine zk_cV (pc := 42) (ci := 8) (q0 := 0) (rest := [.ref ((M 0))]) (st1 := [.int u6, .ref ((M 0))]) (w' := [xM M b_isKept b_size b_at b_from b_sort b_fled b_flights b_firstFlight b_bestHarms b_bestRage b_harmed b_raged, xI cy ((M 1)) 7 b_refused, xI cy ((M 2)) 39 b_now, xI cy ((M 4)) 273 b_minds]) (mk := [none, none, none, none]) C hw (c_X8_orderAt l G cy tt M b_isKept b_size b_at b_from b_sort b_fled b_flights b_firstFlight b_bestHarms b_bestRage b_harmed b_raged v4 b_now _ u6e) zy_X8_orderAt zm_X8_195 rfl rfl rfl [0, 2] rfl rfl rfl rfl rfl rfl rfl rfl hl.1 ⟨rfl, rfl⟩ ⟨Nat.le_of_ble_eq_true rfl, Nat.le_of_ble_eq_true rfl⟩ rfl (Nat.le_of_ble_eq_true rfl) ⟨Nat.zero_le _, Nat.zero_le _⟩ dX8_bestNow_42 (fun H locs hw => ?_)
        refine lv_iload_n (pc := 45) hx hb dX8_bestNow_45 rfl (lv_at hl 1 rfl) ?_
        refine lv_aload_n (pc := 46) hx hb dX8_bestNow_46 rfl (lv_at hl 0 rfl) ?_
        refine zk_gt (pc := 47) C hw zl_X8_17 0 rfl rfl dX8_bestNow_47 ?_
        refine lv_bipush (pc := 50) (v := 33) hx hb dX8_bestNow_50 (by decide) ?_
        refine zk_ialdK (pc := 52) 33 (by decide) C hw 2 rfl (by decide) dX8_bestNow_52 ?_
        obtain ⟨u7, u7e, hf⟩ := bd hf
        refine zk_cV (pc := 53) (ci := 8) (q0 := 0) (rest := []) (st1 := [.int u7.1]) (w' := [xM M b_isKept b_size b_at b_from b_sort u7.2.2.2 b_flights b_firstFlight b_bestHarms b_bestRage b_harmed b_raged, xI cy ((M 1)) 7 b_refused, xI cy ((M 2)) 39 u7.2.1, xI cy ((M 4)) 273 u7.2.2.1]) (mk := [some (xM M b_isKept b_size b_at b_from b_sort u7.2.2.2 b_flights b_firstFlight b_bestHarms b_bestRage b_harmed b_raged), none, some (xI cy ((M 2)) 39 u7.2.1), some (xI cy ((M 4)) 273 u7.2.2.1)]) C hw (c_X8_then l G cy tt M b_isKept b_size b_at b_from b_sort b_flights b_firstFlight b_bestHarms b_bestRage b_harmed b_raged u6 v1 (((b_now 33))) b_now b_minds b_fled _ u7e) zy_X8_then zm_X8_187 rfl rfl rfl [0, 2, 3] rfl rfl rfl rfl rfl rfl rfl rfl hl.1 ⟨rfl, rfl⟩ ⟨Nat.le_of_ble_eq_true rfl, Nat.le_of_ble_eq_true rfl⟩ rfl (Nat.le_of_ble_eq_true rfl) ⟨Nat.zero_le _, Nat.zero_le _⟩ dX8_bestNow_53 (fun H locs hw => ?_)
        refine lv_istore (pc := 56) (lv' := [(5, .int u7.1), (0, .ref ((M 0))), (1, .int v1), (2, .int v2), (3, .int v3), (4, .int v4)]) hx hb dX8_bestNow_56 hl (by decide) rfl (fun ls hl => ?_)
        refine lv_iload_n (pc := 58) hx hb dX8_bestNow_58 rfl (lv_at hl 2 rfl) ?_
        refine lv_iconst (pc := 59) (v := 1) hx hb dX8_bestNow_59 (by decide) ?_
        refine lv_icmp_ne (pc := 60) (tgt := 69) hx hb dX8_bestNow_60 (by decide) (fun q8 => ?_) (fun q8 => ?_)
        · replace hf := if_f q8 hf
          refine lv_iload (pc := 69) hx hb dX8_bestNow_69 (lv_at hl 0 rfl) ?_
          exact J71 (zf_X8_bestNow_27 n) ih v1 v2 v3 v4 u7.1 b_refused u7.2.1 u7.2.2.1 u7.2.2.2 _ _ _ hf hw (lv_sub hl [1, 2, 3, 4, 5] rfl)
        · replace hf := if_t q8 hf
          refine lv_iload (pc := 63) hx hb dX8_bestNow_63 (lv_at hl 0 rfl) ?_
          refine lv_ineg (pc := 65) hx hb dX8_bestNow_65 ?_
          refine lv_goto (pc := 66) (tgt := 71) hx hb dX8_bestNow_66 (by decide) ?_
          exact J71 (zf_X8_bestNow_27 n) ih v1 v2 v3 v4 ((-u7.1)) b_refused u7.2.1 u7.2.2.1 u7.2.2.2 _ _ _ hf hw (lv_sub hl [1, 2, 3, 4, 5] rfl)
  rw [zf_X8_bestNow] at hf
  refine lv_iload_n (pc := 0) hx hb dX8_bestNow_0 rfl (lv_at hl 1 rfl) ?_
  refine lv_i2l (pc := 1) (v := x1.toInt64) hx hb dX8_bestNow_1 rfl ?_
  refine lv_lconst (pc := 2) (v := 0) hx hb dX8_bestNow_2 (by decide) ?_
  refine lv_ldc2 (pc := 3) (v := 2) hx hb C.1.2.2.2.1 (C.1.2.2.2.2 _ zc_X8_190) dX8_bestNow_3 ?_
  obtain ⟨u1, u1e, hf⟩ := bd hf
  refine zk_cS (pc := 6) (rest := []) (st1 := [.int (bI u1)]) (w' := [xM M b_isKept b_size b_at b_from b_sort b_fled b_flights b_firstFlight b_bestHarms b_bestRage b_harmed b_raged, xI cy ((M 1)) 7 b_refused, xI cy ((M 2)) 39 b_now, xI cy ((M 4)) 273 b_minds]) (mk := [none, none, none, none]) C hw (c_X8_isIn l G cy tt x1.toInt64 (((0 : Int64))) (((2 : Int64))) _ u1e) zy_X8_isIn zm_X8_68 [] rfl rfl rfl rfl rfl rfl rfl rfl hl.1 ⟨rfl, rfl⟩ ⟨Nat.le_of_ble_eq_true rfl, Nat.le_of_ble_eq_true rfl⟩ rfl (Nat.le_of_ble_eq_true rfl) ⟨Nat.zero_le _, Nat.zero_le _⟩ dX8_bestNow_6 (fun H locs hw => ?_)
  refine zk_ifnz (pc := 9) (tgt := 19) hx hb dX8_bestNow_9 (by decide) (fun q2 => ?_) (fun q2 => ?_)
  · replace hf := if_t q2 hf
    refine lv_iconst (pc := 19) (v := -1) hx hb dX8_bestNow_19 (by decide) ?_
    refine lv_istore_n (pc := 20) (lv' := [(2, .int ((-1 : Int32))), (0, .ref ((M 0))), (1, .int x1)]) hx hb dX8_bestNow_20 rfl hl (by decide) rfl (fun ls hl => ?_)
    refine lv_ldc (pc := 21) (v := 2147483647) hx hb C.1.2.2.2.1 (C.1.2.2.2.2 _ zc_X8_194) dX8_bestNow_21 ?_
    refine lv_istore_n (pc := 23) (lv' := [(3, .int ((2147483647 : Int32))), (2, .int ((-1 : Int32))), (0, .ref ((M 0))), (1, .int x1)]) hx hb dX8_bestNow_23 rfl hl (by decide) rfl (fun ls hl => ?_)
    refine lv_iconst (pc := 24) (v := 0) hx hb dX8_bestNow_24 (by decide) ?_
    refine lv_istore (pc := 25) (lv' := [(4, .int ((0 : Int32))), (3, .int ((2147483647 : Int32))), (2, .int ((-1 : Int32))), (0, .ref ((M 0))), (1, .int x1)]) hx hb dX8_bestNow_25 hl (by decide) rfl (fun ls hl => ?_)
    exact J27 FU x1 ((-1 : Int32)) ((2147483647 : Int32)) ((0 : Int32)) b_refused b_now b_minds b_fled _ _ _ hf hw (lv_sub hl [3, 4, 2, 1, 0] rfl)
  · replace hf := if_f q2 hf
    refine lv_aload_n (pc := 12) hx hb dX8_bestNow_12 rfl (lv_at hl 0 rfl) ?_
    refine lv_bipush (pc := 13) (v := -2) hx hb dX8_bestNow_13 (by decide) ?_
    obtain ⟨u3, u3e, hf⟩ := bd hf
    refine zk_cV (pc := 15) (ci := 8) (q0 := 0) (rest := []) (st1 := [.int u3.1]) (w' := [xM M b_isKept b_size b_at b_from b_sort b_fled b_flights b_firstFlight b_bestHarms b_bestRage b_harmed b_raged, xI cy ((M 1)) 7 u3.2, xI cy ((M 2)) 39 b_now, xI cy ((M 4)) 273 b_minds]) (mk := [none, some (xI cy ((M 1)) 7 u3.2), none, none]) C hw (c_X8_refuse l G cy tt M b_isKept b_size b_at b_from b_sort b_fled b_flights b_firstFlight b_bestHarms b_bestRage b_harmed b_raged (((-2 : Int32))) b_refused _ u3e) zy_X8_refuse zm_X8_90 rfl rfl rfl [0, 1] rfl rfl rfl rfl rfl rfl rfl rfl hl.1 ⟨rfl, rfl⟩ ⟨Nat.le_of_ble_eq_true rfl, Nat.le_of_ble_eq_true rfl⟩ rfl (Nat.le_of_ble_eq_true rfl) ⟨Nat.zero_le _, Nat.zero_le _⟩ dX8_bestNow_15 (fun H locs hw => ?_)
    have hf := Option.some.inj hf
    subst hf
    exact zk_reti (pc := 18) (ww := [xM M b_isKept b_size b_at b_from b_sort b_fled b_flights b_firstFlight b_bestHarms b_bestRage b_harmed b_raged, xI cy ((M 1)) 7 u3.2, xI cy ((M 2)) 39 b_now, xI cy ((M 4)) 273 b_minds]) C hw hr hQ dX8_bestNow_18
def zf_X8_isShelf (x0 : Int32) : Option (Bool) := (Option.bind (zf_X8_isIn x0.toInt64 (((0 : Int64))) (((7 : Int64)))) (fun u1 => some (u1)))
abbrev zr_X8_isShelf : Room := { frames := 1, cells := 0, slots := 0, locals := 25 }
set_option maxHeartbeats 4000000 in
set_option maxRecDepth 100000 in
theorem c_X8_isShelf (l : Launch) (G : va_G) (cy : Nat → ClassId) (tt : Nat → Nat)  (x0 : Int32) (res : Bool) (hf : zf_X8_isShelf x0 = some res) : zCT l yX8_isShelf cX8_isShelf 1 (some .boolean) zr_X8_isShelf G cy tt [.int x0] [] (some (.int (bI res))) [] := by
  refine zk_start zn_X8 (Nat.le_of_ble_eq_true rfl) ?_
  intro p e s m args below meth c A ls Q C hr hQ hw hl
  have C : zCx p m c s args meth cX8_isShelf 1 RX8 G cy tt A := C
  have hx := C.1.1
  have hb := C.1.2.1
  have hl : lv_has ls 1 [(0, .int x0)] := hl
  rw [zf_X8_isShelf] at hf
  refine lv_iload_n (pc := 0) hx hb dX8_isShelf_0 rfl (lv_at hl 0 rfl) ?_
  refine lv_i2l (pc := 1) (v := x0.toInt64) hx hb dX8_isShelf_1 rfl ?_
  refine lv_lconst (pc := 2) (v := 0) hx hb dX8_isShelf_2 (by decide) ?_
  refine lv_ldc2 (pc := 3) (v := 7) hx hb C.1.2.2.2.1 (C.1.2.2.2.2 _ zc_X8_198) dX8_isShelf_3 ?_
  obtain ⟨u1, u1e, hf⟩ := bd hf
  refine zk_cS (pc := 6) (rest := []) (st1 := [.int (bI u1)]) (w' := []) (mk := []) C hw (c_X8_isIn l G cy tt x0.toInt64 (((0 : Int64))) (((7 : Int64))) _ u1e) zy_X8_isIn zm_X8_68 [] rfl rfl rfl rfl rfl rfl rfl rfl hl.1 ⟨rfl, rfl⟩ ⟨Nat.le_of_ble_eq_true rfl, Nat.le_of_ble_eq_true rfl⟩ rfl (Nat.le_of_ble_eq_true rfl) ⟨Nat.zero_le _, Nat.zero_le _⟩ dX8_isShelf_6 (fun H locs hw => ?_)
  have hf := Option.some.inj hf
  subst hf
  exact zk_retz (pc := 9) (b := u1) (ww := []) C hw hr hQ dX8_isShelf_9
def zf_X8_row_31 (b_refused : Nat → Int32) (b_holds : Nat → Int32) (b_sizes : Nat → Int32) (b_elements : Nat → Int64) : Option (Int32 × (Nat → Int32) × (Nat → Int32) × (Nat → Int32) × (Nat → Int64)) := (Option.bind (zf_X8_refuse (((-2 : Int32))) b_refused) (fun u11 => some (u11.1, u11.2, b_holds, b_sizes, b_elements)))
def zf_X8_row_55 : Nat → Int32 → Int32 → (Nat → Int32) → (Nat → Int32) → (Nat → Int32) → (Nat → Int64) → Option (Int32 × (Nat → Int32) × (Nat → Int32) × (Nat → Int32) × (Nat → Int64))
  | 0, _, _, _, _, _, _ => none
  | n + 1, v1, v4, b_refused, b_holds, b_sizes, b_elements => (if (40 : Int32) ≤ v4 then some ((1 : Int32), b_refused, b_holds, b_sizes, b_elements) else (if ix ((((40 : Int32) * v1) + v4)) 320 then zf_X8_row_55 n v1 ((v4 + 1)) b_refused b_holds b_sizes ((vp_updL b_elements (((((40 : Int32) * v1) + v4)).toNatClampNeg) ((0 : Int64)))) else none))
def zf_X8_row (x1 : Int32) (x2 : Int32) (x3 : Int32) (b_refused : Nat → Int32) (b_holds : Nat → Int32) (b_sizes : Nat → Int32) (b_elements : Nat → Int64) : Option (Int32 × (Nat → Int32) × (Nat → Int32) × (Nat → Int32) × (Nat → Int64)) := (Option.bind (zf_X8_isShelf x1) (fun u1 => (if u1 then (Option.bind (zf_X8_isIn x2.toInt64 (((0 : Int64))) (((4 : Int64)))) (fun u3 => (if u3 then (Option.bind (zf_X8_isIn x3.toInt64 (((0 : Int64))) (((40 : Int64)))) (fun u5 => (if u5 then (if ix x1 8 then (if ix x1 8 then zf_X8_row_55 FU x1 ((0 : Int32)) b_refused ((upd b_holds x1.toNatClampNeg x2)) ((upd b_sizes x1.toNatClampNeg x3)) b_elements else none) else none) else zf_X8_row_31 b_refused b_holds b_sizes b_elements))) else zf_X8_row_31 b_refused b_holds b_sizes b_elements))) else zf_X8_row_31 b_refused b_holds b_sizes b_elements)))
abbrev zr_X8_row : Room := { frames := 2, cells := 0, slots := 0, locals := 45 }
set_option maxHeartbeats 4000000 in
set_option maxRecDepth 100000 in
theorem c_X8_row (l : Launch) (G : va_G) (cy : Nat → ClassId) (tt : Nat → Nat) (M : Nat → Nat) (b_isKept : Bool) (b_size : Int32) (b_at : Int32) (b_from : Int32) (b_sort : Int32) (b_fled : Bool) (b_flights : Int32) (b_firstFlight : Int32) (b_bestHarms : Int32) (b_bestRage : Int32) (b_harmed : Int64) (b_raged : Int64) (x1 : Int32) (x2 : Int32) (x3 : Int32) (b_refused : Nat → Int32) (b_holds : Nat → Int32) (b_sizes : Nat → Int32) (b_elements : Nat → Int64) (res : Int32 × (Nat → Int32) × (Nat → Int32) × (Nat → Int32) × (Nat → Int64)) (hf : zf_X8_row x1 x2 x3 b_refused b_holds b_sizes b_elements = some res) : zCT l yX8_row cX8_row 5 (some .int) zr_X8_row G cy tt [.ref ((M 0)), .int x1, .int x2, .int x3] [xM M b_isKept b_size b_at b_from b_sort b_fled b_flights b_firstFlight b_bestHarms b_bestRage b_harmed b_raged, xI cy ((M 1)) 7 b_refused, xI cy ((M 7)) 8 b_holds, xI cy ((M 8)) 8 b_sizes, xJ cy ((M 9)) 320 b_elements] (some (.int res.1)) [xM M b_isKept b_size b_at b_from b_sort b_fled b_flights b_firstFlight b_bestHarms b_bestRage b_harmed b_raged, xI cy ((M 1)) 7 res.2.1, xI cy ((M 7)) 8 res.2.2.1, xI cy ((M 8)) 8 res.2.2.2.1, xJ cy ((M 9)) 320 res.2.2.2.2] := by
  refine zk_start zn_X8 (Nat.le_of_ble_eq_true rfl) ?_
  intro p e s m args below meth c A ls Q C hr hQ hw hl
  have C : zCx p m c s args meth cX8_row 5 RX8 G cy tt A := C
  have hx := C.1.1
  have hb := C.1.2.1
  have hl : lv_has ls 5 [(0, .ref ((M 0))), (1, .int x1), (2, .int x2), (3, .int x3)] := hl
  have J31 : ∀ (b_refused : Nat → Int32) (b_holds : Nat → Int32) (b_sizes : Nat → Int32) (b_elements : Nat → Int64) (H : Heap) (locs : List Loc) (ls : Array Slot), zf_X8_row_31 b_refused b_holds b_sizes b_elements = some res → zWd G A s.heap H locs [xM M b_isKept b_size b_at b_from b_sort b_fled b_flights b_firstFlight b_bestHarms b_bestRage b_harmed b_raged, xI cy ((M 1)) 7 b_refused, xI cy ((M 7)) 8 b_holds, xI cy ((M 8)) 8 b_sizes, xJ cy ((M 9)) 320 b_elements] → lv_has ls 5 [(0, .ref ((M 0)))] → W p l e zr_X8_row s m args below meth c H locs 0 0 Q (F0 m 31 ls []) := by
    intro b_refused b_holds b_sizes b_elements H locs ls hf hw hl
    rw [zf_X8_row_31] at hf
    refine lv_aload_n (pc := 31) hx hb dX8_row_31 rfl (lv_at hl 0 rfl) ?_
    refine lv_bipush (pc := 32) (v := -2) hx hb dX8_row_32 (by decide) ?_
    obtain ⟨u11, u11e, hf⟩ := bd hf
    refine zk_cV (pc := 34) (ci := 8) (q0 := 0) (rest := []) (st1 := [.int u11.1]) (w' := [xM M b_isKept b_size b_at b_from b_sort b_fled b_flights b_firstFlight b_bestHarms b_bestRage b_harmed b_raged, xI cy ((M 1)) 7 u11.2, xI cy ((M 7)) 8 b_holds, xI cy ((M 8)) 8 b_sizes, xJ cy ((M 9)) 320 b_elements]) (mk := [none, some (xI cy ((M 1)) 7 u11.2), none, none, none]) C hw (c_X8_refuse l G cy tt M b_isKept b_size b_at b_from b_sort b_fled b_flights b_firstFlight b_bestHarms b_bestRage b_harmed b_raged (((-2 : Int32))) b_refused _ u11e) zy_X8_refuse zm_X8_90 rfl rfl rfl [0, 1] rfl rfl rfl rfl rfl rfl rfl rfl hl.1 ⟨rfl, rfl⟩ ⟨Nat.le_of_ble_eq_true rfl, Nat.le_of_ble_eq_true rfl⟩ rfl (Nat.le_of_ble_eq_true rfl) ⟨Nat.zero_le _, Nat.zero_le _⟩ dX8_row_34 (fun H locs hw => ?_)
    have hf := Option.some.inj hf
    subst hf
    exact zk_reti (pc := 37) (ww := [xM M b_isKept b_size b_at b_from b_sort b_fled b_flights b_firstFlight b_bestHarms b_bestRage b_harmed b_raged, xI cy ((M 1)) 7 u11.2, xI cy ((M 7)) 8 b_holds, xI cy ((M 8)) 8 b_sizes, xJ cy ((M 9)) 320 b_elements]) C hw hr hQ dX8_row_37
  have J55 : ∀ (n : Nat), ∀ (v1 : Int32) (v4 : Int32) (b_refused : Nat → Int32) (b_holds : Nat → Int32) (b_sizes : Nat → Int32) (b_elements : Nat → Int64) (H : Heap) (locs : List Loc) (ls : Array Slot), zf_X8_row_55 n v1 v4 b_refused b_holds b_sizes b_elements = some res → zWd G A s.heap H locs [xM M b_isKept b_size b_at b_from b_sort b_fled b_flights b_firstFlight b_bestHarms b_bestRage b_harmed b_raged, xI cy ((M 1)) 7 b_refused, xI cy ((M 7)) 8 b_holds, xI cy ((M 8)) 8 b_sizes, xJ cy ((M 9)) 320 b_elements] → lv_has ls 5 [(0, .ref ((M 0))), (1, .int v1), (4, .int v4)] → W p l e zr_X8_row s m args below meth c H locs 0 0 Q (F0 m 55 ls []) := by
    intro n
    induction n with
    | zero =>
      intro v1 v4 b_refused b_holds b_sizes b_elements H locs ls hf hw hl
      rw [zf_X8_row_55] at hf
      cases hf
    | succ n ih =>
      intro v1 v4 b_refused b_holds b_sizes b_elements H locs ls hf hw hl
      rw [zf_X8_row_55] at hf
      refine lv_iload (pc := 55) hx hb dX8_row_55 (lv_at hl 2 rfl) ?_
      refine lv_bipush (pc := 57) (v := 40) hx hb dX8_row_57 (by decide) ?_
      refine lv_icmp_ge (pc := 59) (tgt := 81) hx hb dX8_row_59 (by decide) (fun q9 => ?_) (fun q9 => ?_)
      · replace hf := if_t q9 hf
        refine lv_iconst (pc := 81) (v := 1) hx hb dX8_row_81 (by decide) ?_
        have hf := Option.some.inj hf
        subst hf
        exact zk_reti (pc := 82) (ww := [xM M b_isKept b_size b_at b_from b_sort b_fled b_flights b_firstFlight b_bestHarms b_bestRage b_harmed b_raged, xI cy ((M 1)) 7 b_refused, xI cy ((M 7)) 8 b_holds, xI cy ((M 8)) 8 b_sizes, xJ cy ((M 9)) 320 b_elements]) C hw hr hQ dX8_row_82
      · replace hf := if_f q9 hf
        refine lv_aload_n (pc := 62) hx hb dX8_row_62 rfl (lv_at hl 0 rfl) ?_
        refine zk_gt (pc := 63) C hw zl_X8_39 0 rfl rfl dX8_row_63 ?_
        refine lv_bipush (pc := 66) (v := 40) hx hb dX8_row_66 (by decide) ?_
        refine lv_iload_n (pc := 68) hx hb dX8_row_68 rfl (lv_at hl 1 rfl) ?_
        refine lv_imul (pc := 69) hx hb dX8_row_69 ?_
        refine lv_iload (pc := 70) hx hb dX8_row_70 (lv_at hl 2 rfl) ?_
        refine lv_iadd (pc := 72) hx hb dX8_row_72 ?_
        refine lv_lconst (pc := 73) (v := 0) hx hb dX8_row_73 (by decide) ?_
        obtain ⟨q10, hf⟩ := ck hf
        refine zk_last (pc := 74) (w' := [xM M b_isKept b_size b_at b_from b_sort b_fled b_flights b_firstFlight b_bestHarms b_bestRage b_harmed b_raged, xI cy ((M 1)) 7 b_refused, xI cy ((M 7)) 8 b_holds, xI cy ((M 8)) 8 b_sizes, xJ cy ((M 9)) 320 ((vp_updL b_elements (((((40 : Int32) * v1) + v4)).toNatClampNeg) ((0 : Int64))))]) C hw 4 rfl q10 rfl dX8_row_74 (fun H locs hw => ?_)
        refine lv_iinc (pc := 75) (v := (v4 + 1)) (lv' := [(4, .int ((v4 + 1))), (0, .ref ((M 0))), (1, .int v1)]) hx hb dX8_row_75 hl (k := 2) rfl rfl (by decide) rfl (fun ls hl => ?_)
        refine lv_goto (pc := 78) (tgt := 55) hx hb dX8_row_78 (by decide) ?_
        exact ih v1 ((v4 + 1)) b_refused b_holds b_sizes ((vp_updL b_elements (((((40 : Int32) * v1) + v4)).toNatClampNeg) ((0 : Int64)))) _ _ _ hf hw (lv_sub hl [1, 2, 0] rfl)
  rw [zf_X8_row] at hf
  refine lv_iload_n (pc := 0) hx hb dX8_row_0 rfl (lv_at hl 1 rfl) ?_
  obtain ⟨u1, u1e, hf⟩ := bd hf
  refine zk_cS (pc := 1) (rest := []) (st1 := [.int (bI u1)]) (w' := [xM M b_isKept b_size b_at b_from b_sort b_fled b_flights b_firstFlight b_bestHarms b_bestRage b_harmed b_raged, xI cy ((M 1)) 7 b_refused, xI cy ((M 7)) 8 b_holds, xI cy ((M 8)) 8 b_sizes, xJ cy ((M 9)) 320 b_elements]) (mk := [none, none, none, none, none]) C hw (c_X8_isShelf l G cy tt x1 _ u1e) zy_X8_isShelf zm_X8_200 [] rfl rfl rfl rfl rfl rfl rfl rfl hl.1 ⟨rfl, rfl⟩ ⟨Nat.le_of_ble_eq_true rfl, Nat.le_of_ble_eq_true rfl⟩ rfl (Nat.le_of_ble_eq_true rfl) ⟨Nat.zero_le _, Nat.zero_le _⟩ dX8_row_1 (fun H locs hw => ?_)
  refine zk_ifz (pc := 4) (tgt := 31) hx hb dX8_row_4 (by decide) (fun q2 => ?_) (fun q2 => ?_)
  · replace hf := if_f q2 hf
    exact J31 b_refused b_holds b_sizes b_elements _ _ _ hf hw (lv_sub hl [0] rfl)
  · replace hf := if_t q2 hf
    refine lv_iload_n (pc := 7) hx hb dX8_row_7 rfl (lv_at hl 2 rfl) ?_
    refine lv_i2l (pc := 8) (v := x2.toInt64) hx hb dX8_row_8 rfl ?_
    refine lv_lconst (pc := 9) (v := 0) hx hb dX8_row_9 (by decide) ?_
    refine lv_ldc2 (pc := 10) (v := 4) hx hb C.1.2.2.2.1 (C.1.2.2.2.2 _ zc_X8_101) dX8_row_10 ?_
    obtain ⟨u3, u3e, hf⟩ := bd hf
    refine zk_cS (pc := 13) (rest := []) (st1 := [.int (bI u3)]) (w' := [xM M b_isKept b_size b_at b_from b_sort b_fled b_flights b_firstFlight b_bestHarms b_bestRage b_harmed b_raged, xI cy ((M 1)) 7 b_refused, xI cy ((M 7)) 8 b_holds, xI cy ((M 8)) 8 b_sizes, xJ cy ((M 9)) 320 b_elements]) (mk := [none, none, none, none, none]) C hw (c_X8_isIn l G cy tt x2.toInt64 (((0 : Int64))) (((4 : Int64))) _ u3e) zy_X8_isIn zm_X8_68 [] rfl rfl rfl rfl rfl rfl rfl rfl hl.1 ⟨rfl, rfl⟩ ⟨Nat.le_of_ble_eq_true rfl, Nat.le_of_ble_eq_true rfl⟩ rfl (Nat.le_of_ble_eq_true rfl) ⟨Nat.zero_le _, Nat.zero_le _⟩ dX8_row_13 (fun H locs hw => ?_)
    refine zk_ifz (pc := 16) (tgt := 31) hx hb dX8_row_16 (by decide) (fun q4 => ?_) (fun q4 => ?_)
    · replace hf := if_f q4 hf
      exact J31 b_refused b_holds b_sizes b_elements _ _ _ hf hw (lv_sub hl [0] rfl)
    · replace hf := if_t q4 hf
      refine lv_iload_n (pc := 19) hx hb dX8_row_19 rfl (lv_at hl 3 rfl) ?_
      refine lv_i2l (pc := 20) (v := x3.toInt64) hx hb dX8_row_20 rfl ?_
      refine lv_lconst (pc := 21) (v := 0) hx hb dX8_row_21 (by decide) ?_
      refine lv_ldc2 (pc := 22) (v := 40) hx hb C.1.2.2.2.1 (C.1.2.2.2.2 _ zc_X8_88) dX8_row_22 ?_
      obtain ⟨u5, u5e, hf⟩ := bd hf
      refine zk_cS (pc := 25) (rest := []) (st1 := [.int (bI u5)]) (w' := [xM M b_isKept b_size b_at b_from b_sort b_fled b_flights b_firstFlight b_bestHarms b_bestRage b_harmed b_raged, xI cy ((M 1)) 7 b_refused, xI cy ((M 7)) 8 b_holds, xI cy ((M 8)) 8 b_sizes, xJ cy ((M 9)) 320 b_elements]) (mk := [none, none, none, none, none]) C hw (c_X8_isIn l G cy tt x3.toInt64 (((0 : Int64))) (((40 : Int64))) _ u5e) zy_X8_isIn zm_X8_68 [] rfl rfl rfl rfl rfl rfl rfl rfl hl.1 ⟨rfl, rfl⟩ ⟨Nat.le_of_ble_eq_true rfl, Nat.le_of_ble_eq_true rfl⟩ rfl (Nat.le_of_ble_eq_true rfl) ⟨Nat.zero_le _, Nat.zero_le _⟩ dX8_row_25 (fun H locs hw => ?_)
      refine zk_ifnz (pc := 28) (tgt := 38) hx hb dX8_row_28 (by decide) (fun q6 => ?_) (fun q6 => ?_)
      · replace hf := if_t q6 hf
        refine lv_aload_n (pc := 38) hx hb dX8_row_38 rfl (lv_at hl 0 rfl) ?_
        refine zk_gt (pc := 39) C hw zl_X8_33 0 rfl rfl dX8_row_39 ?_
        refine lv_iload_n (pc := 42) hx hb dX8_row_42 rfl (lv_at hl 1 rfl) ?_
        refine lv_iload_n (pc := 43) hx hb dX8_row_43 rfl (lv_at hl 2 rfl) ?_
        obtain ⟨q7, hf⟩ := ck hf
        refine zk_iast (pc := 44) (w' := [xM M b_isKept b_size b_at b_from b_sort b_fled b_flights b_firstFlight b_bestHarms b_bestRage b_harmed b_raged, xI cy ((M 1)) 7 b_refused, xI cy ((M 7)) 8 ((upd b_holds x1.toNatClampNeg x2)), xI cy ((M 8)) 8 b_sizes, xJ cy ((M 9)) 320 b_elements]) C hw 2 rfl q7 rfl dX8_row_44 (fun H locs hw => ?_)
        refine lv_aload_n (pc := 45) hx hb dX8_row_45 rfl (lv_at hl 0 rfl) ?_
        refine zk_gt (pc := 46) C hw zl_X8_36 0 rfl rfl dX8_row_46 ?_
        refine lv_iload_n (pc := 49) hx hb dX8_row_49 rfl (lv_at hl 1 rfl) ?_
        refine lv_iload_n (pc := 50) hx hb dX8_row_50 rfl (lv_at hl 3 rfl) ?_
        obtain ⟨q8, hf⟩ := ck hf
        refine zk_iast (pc := 51) (w' := [xM M b_isKept b_size b_at b_from b_sort b_fled b_flights b_firstFlight b_bestHarms b_bestRage b_harmed b_raged, xI cy ((M 1)) 7 b_refused, xI cy ((M 7)) 8 ((upd b_holds x1.toNatClampNeg x2)), xI cy ((M 8)) 8 ((upd b_sizes x1.toNatClampNeg x3)), xJ cy ((M 9)) 320 b_elements]) C hw 3 rfl q8 rfl dX8_row_51 (fun H locs hw => ?_)
        refine lv_iconst (pc := 52) (v := 0) hx hb dX8_row_52 (by decide) ?_
        refine lv_istore (pc := 53) (lv' := [(4, .int ((0 : Int32))), (0, .ref ((M 0))), (1, .int x1), (2, .int x2), (3, .int x3)]) hx hb dX8_row_53 hl (by decide) rfl (fun ls hl => ?_)
        exact J55 FU x1 ((0 : Int32)) b_refused ((upd b_holds x1.toNatClampNeg x2)) ((upd b_sizes x1.toNatClampNeg x3)) b_elements _ _ _ hf hw (lv_sub hl [1, 2, 0] rfl)
      · replace hf := if_f q6 hf
        exact J31 b_refused b_holds b_sizes b_elements _ _ _ hf hw (lv_sub hl [0] rfl)
def zf_X8_rowIn (x1 : Int32) (b_holds : Nat → Int32) : Option (Int32) := (if ix x1 8 then (if (b_holds x1.toNatClampNeg) < (10 : Int32) then (if ix x1 8 then (if (b_holds x1.toNatClampNeg) = (-1 : Int32) then some ((-4 : Int32)) else some ((1 : Int32))) else none) else some ((-3 : Int32))) else none)
abbrev zr_X8_rowIn : Room := { frames := 0, cells := 0, slots := 0, locals := 0 }
set_option maxHeartbeats 4000000 in
set_option maxRecDepth 100000 in
theorem c_X8_rowIn (l : Launch) (G : va_G) (cy : Nat → ClassId) (tt : Nat → Nat) (M : Nat → Nat) (b_isKept : Bool) (b_size : Int32) (b_at : Int32) (b_from : Int32) (b_sort : Int32) (b_fled : Bool) (b_flights : Int32) (b_firstFlight : Int32) (b_bestHarms : Int32) (b_bestRage : Int32) (b_harmed : Int64) (b_raged : Int64) (x1 : Int32) (b_holds : Nat → Int32) (res : Int32) (hf : zf_X8_rowIn x1 b_holds = some res) : zCT l yX8_rowIn cX8_rowIn 2 (some .int) zr_X8_rowIn G cy tt [.ref ((M 0)), .int x1] [xM M b_isKept b_size b_at b_from b_sort b_fled b_flights b_firstFlight b_bestHarms b_bestRage b_harmed b_raged, xI cy ((M 7)) 8 b_holds] (some (.int res)) [xM M b_isKept b_size b_at b_from b_sort b_fled b_flights b_firstFlight b_bestHarms b_bestRage b_harmed b_raged, xI cy ((M 7)) 8 b_holds] := by
  refine zk_start zn_X8 (Nat.le_of_ble_eq_true rfl) ?_
  intro p e s m args below meth c A ls Q C hr hQ hw hl
  have C : zCx p m c s args meth cX8_rowIn 2 RX8 G cy tt A := C
  have hx := C.1.1
  have hb := C.1.2.1
  have hl : lv_has ls 2 [(0, .ref ((M 0))), (1, .int x1)] := hl
  rw [zf_X8_rowIn] at hf
  refine lv_aload_n (pc := 0) hx hb dX8_rowIn_0 rfl (lv_at hl 0 rfl) ?_
  refine zk_gt (pc := 1) C hw zl_X8_33 0 rfl rfl dX8_rowIn_1 ?_
  refine lv_iload_n (pc := 4) hx hb dX8_rowIn_4 rfl (lv_at hl 1 rfl) ?_
  obtain ⟨q1, hf⟩ := ck hf
  refine zk_iald (pc := 5) C hw 1 rfl q1 dX8_rowIn_5 ?_
  refine lv_bipush (pc := 6) (v := 10) hx hb dX8_rowIn_6 (by decide) ?_
  refine lv_icmp_lt (pc := 8) (tgt := 16) hx hb dX8_rowIn_8 (by decide) (fun q2 => ?_) (fun q2 => ?_)
  · replace hf := if_t q2 hf
    refine lv_aload_n (pc := 16) hx hb dX8_rowIn_16 rfl (lv_at hl 0 rfl) ?_
    refine zk_gt (pc := 17) C hw zl_X8_33 0 rfl rfl dX8_rowIn_17 ?_
    refine lv_iload_n (pc := 20) hx hb dX8_rowIn_20 rfl (lv_at hl 1 rfl) ?_
    obtain ⟨q3, hf⟩ := ck hf
    refine zk_iald (pc := 21) C hw 1 rfl q3 dX8_rowIn_21 ?_
    refine lv_iconst (pc := 22) (v := -1) hx hb dX8_rowIn_22 (by decide) ?_
    refine lv_icmp_ne (pc := 23) (tgt := 31) hx hb dX8_rowIn_23 (by decide) (fun q4 => ?_) (fun q4 => ?_)
    · replace hf := if_f q4 hf
      refine lv_iconst (pc := 31) (v := 1) hx hb dX8_rowIn_31 (by decide) ?_
      have hf := Option.some.inj hf
      subst hf
      exact zk_reti (pc := 32) (ww := [xM M b_isKept b_size b_at b_from b_sort b_fled b_flights b_firstFlight b_bestHarms b_bestRage b_harmed b_raged, xI cy ((M 7)) 8 b_holds]) C hw hr hQ dX8_rowIn_32
    · replace hf := if_t q4 hf
      refine lv_bipush (pc := 26) (v := -4) hx hb dX8_rowIn_26 (by decide) ?_
      refine lv_goto (pc := 28) (tgt := 32) hx hb dX8_rowIn_28 (by decide) ?_
      have hf := Option.some.inj hf
      subst hf
      exact zk_reti (pc := 32) (ww := [xM M b_isKept b_size b_at b_from b_sort b_fled b_flights b_firstFlight b_bestHarms b_bestRage b_harmed b_raged, xI cy ((M 7)) 8 b_holds]) C hw hr hQ dX8_rowIn_32
  · replace hf := if_f q2 hf
    refine lv_bipush (pc := 11) (v := -3) hx hb dX8_rowIn_11 (by decide) ?_
    refine lv_goto (pc := 13) (tgt := 32) hx hb dX8_rowIn_13 (by decide) ?_
    have hf := Option.some.inj hf
    subst hf
    exact zk_reti (pc := 32) (ww := [xM M b_isKept b_size b_at b_from b_sort b_fled b_flights b_firstFlight b_bestHarms b_bestRage b_harmed b_raged, xI cy ((M 7)) 8 b_holds]) C hw hr hQ dX8_rowIn_32
def zf_X8_set_133 (b_holds : Nat → Int32) (b_sizes : Nat → Int32) (t0 : Int64) (t1 : Int32) (b_refused : Nat → Int32) (b_elements : Nat → Int64) : Option (Int32 × (Nat → Int32) × (Nat → Int64)) := (if ix t1 320 then some ((1 : Int32), b_refused, (vp_updL b_elements t1.toNatClampNeg t0)) else none)
def zf_X8_set (x1 : Int32) (x2 : Int32) (x3 : Int64) (b_refused : Nat → Int32) (b_holds : Nat → Int32) (b_sizes : Nat → Int32) (b_elements : Nat → Int64) : Option (Int32 × (Nat → Int32) × (Nat → Int64)) := (Option.bind (zf_X8_isShelf x1) (fun u1 => (if u1 then (Option.bind (zf_X8_rowIn x1 b_holds) (fun u3 => (if 0 ≤ u3 then (if ix x1 8 then (Option.bind (zf_X8_isIn x2.toInt64 (((0 : Int64))) (((((b_sizes x1.toNatClampNeg) - (1 : Int32))).toInt64))) (fun u6 => (if u6 then (if ix x1 8 then (if (b_holds x1.toNatClampNeg) = 0 then zf_X8_set_133 b_holds b_sizes x3.toInt32.toInt8.toInt32.toInt64 ((((40 : Int32) * x1) + x2)) b_refused b_elements else (if (b_holds x1.toNatClampNeg) = (1 : Int32) then zf_X8_set_133 b_holds b_sizes x3.toInt32.toInt16.toInt32.toInt64 ((((40 : Int32) * x1) + x2)) b_refused b_elements else (if (b_holds x1.toNatClampNeg) = (2 : Int32) then zf_X8_set_133 b_holds b_sizes x3.toInt32.toInt64 ((((40 : Int32) * x1) + x2)) b_refused b_elements else (if (b_holds x1.toNatClampNeg) = (3 : Int32) then zf_X8_set_133 b_holds b_sizes x3 ((((40 : Int32) * x1) + x2)) b_refused b_elements else (if (lg_cmp x3 ((0 : Int64))) = 0 then zf_X8_set_133 b_holds b_sizes ((0 : Int64)) ((((40 : Int32) * x1) + x2)) b_refused b_elements else zf_X8_set_133 b_holds b_sizes ((1 : Int64)) ((((40 : Int32) * x1) + x2)) b_refused b_elements))))) else none) else (Option.bind (zf_X8_refuse (((-2 : Int32))) b_refused) (fun u14 => some (u14.1, u14.2, b_elements)))))) else none) else (Option.bind (zf_X8_rowIn x1 b_holds) (fun u15 => (Option.bind (zf_X8_refuse u15 b_refused) (fun u16 => some (u16.1, u16.2, b_elements)))))))) else (Option.bind (zf_X8_refuse (((-2 : Int32))) b_refused) (fun u17 => some (u17.1, u17.2, b_elements))))))
abbrev zr_X8_set : Room := { frames := 2, cells := 0, slots := 0, locals := 45 }
set_option maxHeartbeats 4000000 in
set_option maxRecDepth 100000 in
theorem c_X8_set (l : Launch) (G : va_G) (cy : Nat → ClassId) (tt : Nat → Nat) (M : Nat → Nat) (b_isKept : Bool) (b_size : Int32) (b_at : Int32) (b_from : Int32) (b_sort : Int32) (b_fled : Bool) (b_flights : Int32) (b_firstFlight : Int32) (b_bestHarms : Int32) (b_bestRage : Int32) (b_harmed : Int64) (b_raged : Int64) (x1 : Int32) (x2 : Int32) (x3 : Int64) (b_refused : Nat → Int32) (b_holds : Nat → Int32) (b_sizes : Nat → Int32) (b_elements : Nat → Int64) (res : Int32 × (Nat → Int32) × (Nat → Int64)) (hf : zf_X8_set x1 x2 x3 b_refused b_holds b_sizes b_elements = some res) : zCT l yX8_set cX8_set 6 (some .int) zr_X8_set G cy tt [.ref ((M 0)), .int x1, .int x2, .long x3] [xM M b_isKept b_size b_at b_from b_sort b_fled b_flights b_firstFlight b_bestHarms b_bestRage b_harmed b_raged, xI cy ((M 1)) 7 b_refused, xI cy ((M 7)) 8 b_holds, xI cy ((M 8)) 8 b_sizes, xJ cy ((M 9)) 320 b_elements] (some (.int res.1)) [xM M b_isKept b_size b_at b_from b_sort b_fled b_flights b_firstFlight b_bestHarms b_bestRage b_harmed b_raged, xI cy ((M 1)) 7 res.2.1, xI cy ((M 7)) 8 b_holds, xI cy ((M 8)) 8 b_sizes, xJ cy ((M 9)) 320 res.2.2] := by
  refine zk_start zn_X8 (Nat.le_of_ble_eq_true rfl) ?_
  intro p e s m args below meth c A ls Q C hr hQ hw hl
  have C : zCx p m c s args meth cX8_set 6 RX8 G cy tt A := C
  have hx := C.1.1
  have hb := C.1.2.1
  have hl : lv_has ls 6 [(0, .ref ((M 0))), (1, .int x1), (2, .int x2), (3, .long x3)] := hl
  have J133 : ∀ (t0 : Int64) (t1 : Int32) (b_refused : Nat → Int32) (b_elements : Nat → Int64) (H : Heap) (locs : List Loc) (ls : Array Slot), zf_X8_set_133 b_holds b_sizes t0 t1 b_refused b_elements = some res → zWd G A s.heap H locs [xM M b_isKept b_size b_at b_from b_sort b_fled b_flights b_firstFlight b_bestHarms b_bestRage b_harmed b_raged, xI cy ((M 1)) 7 b_refused, xI cy ((M 7)) 8 b_holds, xI cy ((M 8)) 8 b_sizes, xJ cy ((M 9)) 320 b_elements] → lv_has ls 6 [] → W p l e zr_X8_set s m args below meth c H locs 0 0 Q (F0 m 133 ls [.long t0, .int t1, .ref ((M 9))]) := by
    intro t0 t1 b_refused b_elements H locs ls hf hw hl
    rw [zf_X8_set_133] at hf
    obtain ⟨q18, hf⟩ := ck hf
    refine zk_last (pc := 133) (w' := [xM M b_isKept b_size b_at b_from b_sort b_fled b_flights b_firstFlight b_bestHarms b_bestRage b_harmed b_raged, xI cy ((M 1)) 7 b_refused, xI cy ((M 7)) 8 b_holds, xI cy ((M 8)) 8 b_sizes, xJ cy ((M 9)) 320 ((vp_updL b_elements t1.toNatClampNeg t0))]) C hw 4 rfl q18 rfl dX8_set_133 (fun H locs hw => ?_)
    refine lv_iconst (pc := 134) (v := 1) hx hb dX8_set_134 (by decide) ?_
    have hf := Option.some.inj hf
    subst hf
    exact zk_reti (pc := 135) (ww := [xM M b_isKept b_size b_at b_from b_sort b_fled b_flights b_firstFlight b_bestHarms b_bestRage b_harmed b_raged, xI cy ((M 1)) 7 b_refused, xI cy ((M 7)) 8 b_holds, xI cy ((M 8)) 8 b_sizes, xJ cy ((M 9)) 320 ((vp_updL b_elements t1.toNatClampNeg t0))]) C hw hr hQ dX8_set_135
  rw [zf_X8_set] at hf
  refine lv_iload_n (pc := 0) hx hb dX8_set_0 rfl (lv_at hl 1 rfl) ?_
  obtain ⟨u1, u1e, hf⟩ := bd hf
  refine zk_cS (pc := 1) (rest := []) (st1 := [.int (bI u1)]) (w' := [xM M b_isKept b_size b_at b_from b_sort b_fled b_flights b_firstFlight b_bestHarms b_bestRage b_harmed b_raged, xI cy ((M 1)) 7 b_refused, xI cy ((M 7)) 8 b_holds, xI cy ((M 8)) 8 b_sizes, xJ cy ((M 9)) 320 b_elements]) (mk := [none, none, none, none, none]) C hw (c_X8_isShelf l G cy tt x1 _ u1e) zy_X8_isShelf zm_X8_200 [] rfl rfl rfl rfl rfl rfl rfl rfl hl.1 ⟨rfl, rfl⟩ ⟨Nat.le_of_ble_eq_true rfl, Nat.le_of_ble_eq_true rfl⟩ rfl (Nat.le_of_ble_eq_true rfl) ⟨Nat.zero_le _, Nat.zero_le _⟩ dX8_set_1 (fun H locs hw => ?_)
  refine zk_ifnz (pc := 4) (tgt := 14) hx hb dX8_set_4 (by decide) (fun q2 => ?_) (fun q2 => ?_)
  · replace hf := if_t q2 hf
    refine lv_aload_n (pc := 14) hx hb dX8_set_14 rfl (lv_at hl 0 rfl) ?_
    refine lv_iload_n (pc := 15) hx hb dX8_set_15 rfl (lv_at hl 1 rfl) ?_
    obtain ⟨u3, u3e, hf⟩ := bd hf
    refine zk_cV (pc := 16) (ci := 8) (q0 := 0) (rest := []) (st1 := [.int u3]) (w' := [xM M b_isKept b_size b_at b_from b_sort b_fled b_flights b_firstFlight b_bestHarms b_bestRage b_harmed b_raged, xI cy ((M 1)) 7 b_refused, xI cy ((M 7)) 8 b_holds, xI cy ((M 8)) 8 b_sizes, xJ cy ((M 9)) 320 b_elements]) (mk := [none, none, none, none, none]) C hw (c_X8_rowIn l G cy tt M b_isKept b_size b_at b_from b_sort b_fled b_flights b_firstFlight b_bestHarms b_bestRage b_harmed b_raged x1 b_holds _ u3e) zy_X8_rowIn zm_X8_203 rfl rfl rfl [0, 2] rfl rfl rfl rfl rfl rfl rfl rfl hl.1 ⟨rfl, rfl⟩ ⟨Nat.le_of_ble_eq_true rfl, Nat.le_of_ble_eq_true rfl⟩ rfl (Nat.le_of_ble_eq_true rfl) ⟨Nat.zero_le _, Nat.zero_le _⟩ dX8_set_16 (fun H locs hw => ?_)
    refine lv_if_ge (pc := 19) (tgt := 32) hx hb dX8_set_19 (by decide) (fun q4 => ?_) (fun q4 => ?_)
    · replace hf := if_t q4 hf
      refine lv_iload_n (pc := 32) hx hb dX8_set_32 rfl (lv_at hl 2 rfl) ?_
      refine lv_i2l (pc := 33) (v := x2.toInt64) hx hb dX8_set_33 rfl ?_
      refine lv_lconst (pc := 34) (v := 0) hx hb dX8_set_34 (by decide) ?_
      refine lv_aload_n (pc := 35) hx hb dX8_set_35 rfl (lv_at hl 0 rfl) ?_
      refine zk_gt (pc := 36) C hw zl_X8_36 0 rfl rfl dX8_set_36 ?_
      refine lv_iload_n (pc := 39) hx hb dX8_set_39 rfl (lv_at hl 1 rfl) ?_
      obtain ⟨q5, hf⟩ := ck hf
      refine zk_iald (pc := 40) C hw 3 rfl q5 dX8_set_40 ?_
      refine lv_iconst (pc := 41) (v := 1) hx hb dX8_set_41 (by decide) ?_
      refine lv_isub (pc := 42) hx hb dX8_set_42 ?_
      refine lv_i2l (pc := 43) (v := (((b_sizes x1.toNatClampNeg) - (1 : Int32))).toInt64) hx hb dX8_set_43 rfl ?_
      obtain ⟨u6, u6e, hf⟩ := bd hf
      refine zk_cS (pc := 44) (rest := []) (st1 := [.int (bI u6)]) (w' := [xM M b_isKept b_size b_at b_from b_sort b_fled b_flights b_firstFlight b_bestHarms b_bestRage b_harmed b_raged, xI cy ((M 1)) 7 b_refused, xI cy ((M 7)) 8 b_holds, xI cy ((M 8)) 8 b_sizes, xJ cy ((M 9)) 320 b_elements]) (mk := [none, none, none, none, none]) C hw (c_X8_isIn l G cy tt x2.toInt64 (((0 : Int64))) (((((b_sizes x1.toNatClampNeg) - (1 : Int32))).toInt64)) _ u6e) zy_X8_isIn zm_X8_68 [] rfl rfl rfl rfl rfl rfl rfl rfl hl.1 ⟨rfl, rfl⟩ ⟨Nat.le_of_ble_eq_true rfl, Nat.le_of_ble_eq_true rfl⟩ rfl (Nat.le_of_ble_eq_true rfl) ⟨Nat.zero_le _, Nat.zero_le _⟩ dX8_set_44 (fun H locs hw => ?_)
      refine zk_ifnz (pc := 47) (tgt := 57) hx hb dX8_set_47 (by decide) (fun q7 => ?_) (fun q7 => ?_)
      · replace hf := if_t q7 hf
        refine lv_aload_n (pc := 57) hx hb dX8_set_57 rfl (lv_at hl 0 rfl) ?_
        refine zk_gt (pc := 58) C hw zl_X8_33 0 rfl rfl dX8_set_58 ?_
        refine lv_iload_n (pc := 61) hx hb dX8_set_61 rfl (lv_at hl 1 rfl) ?_
        obtain ⟨q8, hf⟩ := ck hf
        refine zk_iald (pc := 62) C hw 2 rfl q8 dX8_set_62 ?_
        refine lv_istore (pc := 63) (lv' := [(5, .int ((b_holds x1.toNatClampNeg))), (0, .ref ((M 0))), (1, .int x1), (2, .int x2), (3, .long x3)]) hx hb dX8_set_63 hl (by decide) rfl (fun ls hl => ?_)
        refine lv_aload_n (pc := 65) hx hb dX8_set_65 rfl (lv_at hl 1 rfl) ?_
        refine zk_gt (pc := 66) C hw zl_X8_39 0 rfl rfl dX8_set_66 ?_
        refine lv_bipush (pc := 69) (v := 40) hx hb dX8_set_69 (by decide) ?_
        refine lv_iload_n (pc := 71) hx hb dX8_set_71 rfl (lv_at hl 2 rfl) ?_
        refine lv_imul (pc := 72) hx hb dX8_set_72 ?_
        refine lv_iload_n (pc := 73) hx hb dX8_set_73 rfl (lv_at hl 3 rfl) ?_
        refine lv_iadd (pc := 74) hx hb dX8_set_74 ?_
        refine lv_iload (pc := 75) hx hb dX8_set_75 (lv_at hl 0 rfl) ?_
        refine lv_if_ne (pc := 77) (tgt := 87) hx hb dX8_set_77 (by decide) (fun q9 => ?_) (fun q9 => ?_)
        · replace hf := if_f q9 hf
          refine lv_iload (pc := 87) hx hb dX8_set_87 (lv_at hl 0 rfl) ?_
          refine lv_iconst (pc := 89) (v := 1) hx hb dX8_set_89 (by decide) ?_
          refine lv_icmp_ne (pc := 90) (tgt := 100) hx hb dX8_set_90 (by decide) (fun q10 => ?_) (fun q10 => ?_)
          · replace hf := if_f q10 hf
            refine lv_iload (pc := 100) hx hb dX8_set_100 (lv_at hl 0 rfl) ?_
            refine lv_iconst (pc := 102) (v := 2) hx hb dX8_set_102 (by decide) ?_
            refine lv_icmp_ne (pc := 103) (tgt := 112) hx hb dX8_set_103 (by decide) (fun q11 => ?_) (fun q11 => ?_)
            · replace hf := if_f q11 hf
              refine lv_iload (pc := 112) hx hb dX8_set_112 (lv_at hl 0 rfl) ?_
              refine lv_iconst (pc := 114) (v := 3) hx hb dX8_set_114 (by decide) ?_
              refine lv_icmp_ne (pc := 115) (tgt := 122) hx hb dX8_set_115 (by decide) (fun q12 => ?_) (fun q12 => ?_)
              · replace hf := if_f q12 hf
                refine lv_lload_n (pc := 122) hx hb dX8_set_122 rfl (lv_at hl 4 rfl) ?_
                refine lv_lconst (pc := 123) (v := 0) hx hb dX8_set_123 (by decide) ?_
                refine W.lcmp (pc := 124) hx hb dX8_set_124 ?_
                refine lv_if_eq (pc := 125) (tgt := 132) hx hb dX8_set_125 (by decide) (fun q13 => ?_) (fun q13 => ?_)
                · replace hf := if_t q13 hf
                  refine lv_lconst (pc := 132) (v := 0) hx hb dX8_set_132 (by decide) ?_
                  exact J133 ((0 : Int64)) ((((40 : Int32) * x1) + x2)) b_refused b_elements _ _ _ hf hw (lv_sub hl [] rfl)
                · replace hf := if_f q13 hf
                  refine lv_lconst (pc := 128) (v := 1) hx hb dX8_set_128 (by decide) ?_
                  refine lv_goto (pc := 129) (tgt := 133) hx hb dX8_set_129 (by decide) ?_
                  exact J133 ((1 : Int64)) ((((40 : Int32) * x1) + x2)) b_refused b_elements _ _ _ hf hw (lv_sub hl [] rfl)
              · replace hf := if_t q12 hf
                refine lv_lload_n (pc := 118) hx hb dX8_set_118 rfl (lv_at hl 4 rfl) ?_
                refine lv_goto (pc := 119) (tgt := 133) hx hb dX8_set_119 (by decide) ?_
                exact J133 x3 ((((40 : Int32) * x1) + x2)) b_refused b_elements _ _ _ hf hw (lv_sub hl [] rfl)
            · replace hf := if_t q11 hf
              refine lv_lload_n (pc := 106) hx hb dX8_set_106 rfl (lv_at hl 4 rfl) ?_
              refine lv_l2i (pc := 107) (v := x3.toInt32) hx hb dX8_set_107 rfl ?_
              refine lv_i2l (pc := 108) (v := x3.toInt32.toInt64) hx hb dX8_set_108 rfl ?_
              refine lv_goto (pc := 109) (tgt := 133) hx hb dX8_set_109 (by decide) ?_
              exact J133 x3.toInt32.toInt64 ((((40 : Int32) * x1) + x2)) b_refused b_elements _ _ _ hf hw (lv_sub hl [] rfl)
          · replace hf := if_t q10 hf
            refine lv_lload_n (pc := 93) hx hb dX8_set_93 rfl (lv_at hl 4 rfl) ?_
            refine lv_l2i (pc := 94) (v := x3.toInt32) hx hb dX8_set_94 rfl ?_
            refine lv_i2s (pc := 95) (v := x3.toInt32.toInt16.toInt32) hx hb dX8_set_95 rfl ?_
            refine lv_i2l (pc := 96) (v := x3.toInt32.toInt16.toInt32.toInt64) hx hb dX8_set_96 rfl ?_
            refine lv_goto (pc := 97) (tgt := 133) hx hb dX8_set_97 (by decide) ?_
            exact J133 x3.toInt32.toInt16.toInt32.toInt64 ((((40 : Int32) * x1) + x2)) b_refused b_elements _ _ _ hf hw (lv_sub hl [] rfl)
        · replace hf := if_t q9 hf
          refine lv_lload_n (pc := 80) hx hb dX8_set_80 rfl (lv_at hl 4 rfl) ?_
          refine lv_l2i (pc := 81) (v := x3.toInt32) hx hb dX8_set_81 rfl ?_
          refine lv_i2b (pc := 82) (v := x3.toInt32.toInt8.toInt32) hx hb dX8_set_82 rfl ?_
          refine lv_i2l (pc := 83) (v := x3.toInt32.toInt8.toInt32.toInt64) hx hb dX8_set_83 rfl ?_
          refine lv_goto (pc := 84) (tgt := 133) hx hb dX8_set_84 (by decide) ?_
          exact J133 x3.toInt32.toInt8.toInt32.toInt64 ((((40 : Int32) * x1) + x2)) b_refused b_elements _ _ _ hf hw (lv_sub hl [] rfl)
      · replace hf := if_f q7 hf
        refine lv_aload_n (pc := 50) hx hb dX8_set_50 rfl (lv_at hl 0 rfl) ?_
        refine lv_bipush (pc := 51) (v := -2) hx hb dX8_set_51 (by decide) ?_
        obtain ⟨u14, u14e, hf⟩ := bd hf
        refine zk_cV (pc := 53) (ci := 8) (q0 := 0) (rest := []) (st1 := [.int u14.1]) (w' := [xM M b_isKept b_size b_at b_from b_sort b_fled b_flights b_firstFlight b_bestHarms b_bestRage b_harmed b_raged, xI cy ((M 1)) 7 u14.2, xI cy ((M 7)) 8 b_holds, xI cy ((M 8)) 8 b_sizes, xJ cy ((M 9)) 320 b_elements]) (mk := [none, some (xI cy ((M 1)) 7 u14.2), none, none, none]) C hw (c_X8_refuse l G cy tt M b_isKept b_size b_at b_from b_sort b_fled b_flights b_firstFlight b_bestHarms b_bestRage b_harmed b_raged (((-2 : Int32))) b_refused _ u14e) zy_X8_refuse zm_X8_90 rfl rfl rfl [0, 1] rfl rfl rfl rfl rfl rfl rfl rfl hl.1 ⟨rfl, rfl⟩ ⟨Nat.le_of_ble_eq_true rfl, Nat.le_of_ble_eq_true rfl⟩ rfl (Nat.le_of_ble_eq_true rfl) ⟨Nat.zero_le _, Nat.zero_le _⟩ dX8_set_53 (fun H locs hw => ?_)
        have hf := Option.some.inj hf
        subst hf
        exact zk_reti (pc := 56) (ww := [xM M b_isKept b_size b_at b_from b_sort b_fled b_flights b_firstFlight b_bestHarms b_bestRage b_harmed b_raged, xI cy ((M 1)) 7 u14.2, xI cy ((M 7)) 8 b_holds, xI cy ((M 8)) 8 b_sizes, xJ cy ((M 9)) 320 b_elements]) C hw hr hQ dX8_set_56
    · replace hf := if_f q4 hf
      refine lv_aload_n (pc := 22) hx hb dX8_set_22 rfl (lv_at hl 0 rfl) ?_
      refine lv_aload_n (pc := 23) hx hb dX8_set_23 rfl (lv_at hl 0 rfl) ?_
      refine lv_iload_n (pc := 24) hx hb dX8_set_24 rfl (lv_at hl 1 rfl) ?_
      obtain ⟨u15, u15e, hf⟩ := bd hf
      refine zk_cV (pc := 25) (ci := 8) (q0 := 0) (rest := [.ref ((M 0))]) (st1 := [.int u15, .ref ((M 0))]) (w' := [xM M b_isKept b_size b_at b_from b_sort b_fled b_flights b_firstFlight b_bestHarms b_bestRage b_harmed b_raged, xI cy ((M 1)) 7 b_refused, xI cy ((M 7)) 8 b_holds, xI cy ((M 8)) 8 b_sizes, xJ cy ((M 9)) 320 b_elements]) (mk := [none, none, none, none, none]) C hw (c_X8_rowIn l G cy tt M b_isKept b_size b_at b_from b_sort b_fled b_flights b_firstFlight b_bestHarms b_bestRage b_harmed b_raged x1 b_holds _ u15e) zy_X8_rowIn zm_X8_203 rfl rfl rfl [0, 2] rfl rfl rfl rfl rfl rfl rfl rfl hl.1 ⟨rfl, rfl⟩ ⟨Nat.le_of_ble_eq_true rfl, Nat.le_of_ble_eq_true rfl⟩ rfl (Nat.le_of_ble_eq_true rfl) ⟨Nat.zero_le _, Nat.zero_le _⟩ dX8_set_25 (fun H locs hw => ?_)
      obtain ⟨u16, u16e, hf⟩ := bd hf
      refine zk_cV (pc := 28) (ci := 8) (q0 := 0) (rest := []) (st1 := [.int u16.1]) (w' := [xM M b_isKept b_size b_at b_from b_sort b_fled b_flights b_firstFlight b_bestHarms b_bestRage b_harmed b_raged, xI cy ((M 1)) 7 u16.2, xI cy ((M 7)) 8 b_holds, xI cy ((M 8)) 8 b_sizes, xJ cy ((M 9)) 320 b_elements]) (mk := [none, some (xI cy ((M 1)) 7 u16.2), none, none, none]) C hw (c_X8_refuse l G cy tt M b_isKept b_size b_at b_from b_sort b_fled b_flights b_firstFlight b_bestHarms b_bestRage b_harmed b_raged u15 b_refused _ u16e) zy_X8_refuse zm_X8_90 rfl rfl rfl [0, 1] rfl rfl rfl rfl rfl rfl rfl rfl hl.1 ⟨rfl, rfl⟩ ⟨Nat.le_of_ble_eq_true rfl, Nat.le_of_ble_eq_true rfl⟩ rfl (Nat.le_of_ble_eq_true rfl) ⟨Nat.zero_le _, Nat.zero_le _⟩ dX8_set_28 (fun H locs hw => ?_)
      have hf := Option.some.inj hf
      subst hf
      exact zk_reti (pc := 31) (ww := [xM M b_isKept b_size b_at b_from b_sort b_fled b_flights b_firstFlight b_bestHarms b_bestRage b_harmed b_raged, xI cy ((M 1)) 7 u16.2, xI cy ((M 7)) 8 b_holds, xI cy ((M 8)) 8 b_sizes, xJ cy ((M 9)) 320 b_elements]) C hw hr hQ dX8_set_31
  · replace hf := if_f q2 hf
    refine lv_aload_n (pc := 7) hx hb dX8_set_7 rfl (lv_at hl 0 rfl) ?_
    refine lv_bipush (pc := 8) (v := -2) hx hb dX8_set_8 (by decide) ?_
    obtain ⟨u17, u17e, hf⟩ := bd hf
    refine zk_cV (pc := 10) (ci := 8) (q0 := 0) (rest := []) (st1 := [.int u17.1]) (w' := [xM M b_isKept b_size b_at b_from b_sort b_fled b_flights b_firstFlight b_bestHarms b_bestRage b_harmed b_raged, xI cy ((M 1)) 7 u17.2, xI cy ((M 7)) 8 b_holds, xI cy ((M 8)) 8 b_sizes, xJ cy ((M 9)) 320 b_elements]) (mk := [none, some (xI cy ((M 1)) 7 u17.2), none, none, none]) C hw (c_X8_refuse l G cy tt M b_isKept b_size b_at b_from b_sort b_fled b_flights b_firstFlight b_bestHarms b_bestRage b_harmed b_raged (((-2 : Int32))) b_refused _ u17e) zy_X8_refuse zm_X8_90 rfl rfl rfl [0, 1] rfl rfl rfl rfl rfl rfl rfl rfl hl.1 ⟨rfl, rfl⟩ ⟨Nat.le_of_ble_eq_true rfl, Nat.le_of_ble_eq_true rfl⟩ rfl (Nat.le_of_ble_eq_true rfl) ⟨Nat.zero_le _, Nat.zero_le _⟩ dX8_set_10 (fun H locs hw => ?_)
    have hf := Option.some.inj hf
    subst hf
    exact zk_reti (pc := 13) (ww := [xM M b_isKept b_size b_at b_from b_sort b_fled b_flights b_firstFlight b_bestHarms b_bestRage b_harmed b_raged, xI cy ((M 1)) 7 u17.2, xI cy ((M 7)) 8 b_holds, xI cy ((M 8)) 8 b_sizes, xJ cy ((M 9)) 320 b_elements]) C hw hr hQ dX8_set_13
def zf_X8_copy_14 (b_holds : Nat → Int32) (b_sizes : Nat → Int32) (b_refused : Nat → Int32) (b_elements : Nat → Int64) (b_moved : Nat → Int64) : Option (Int32 × (Nat → Int32) × (Nat → Int64) × (Nat → Int64)) := (Option.bind (zf_X8_refuse (((-2 : Int32))) b_refused) (fun u34 => some (u34.1, u34.2, b_elements, b_moved)))
def zf_X8_copy_90 (b_holds : Nat → Int32) (b_sizes : Nat → Int32) (b_refused : Nat → Int32) (b_elements : Nat → Int64) (b_moved : Nat → Int64) : Option (Int32 × (Nat → Int32) × (Nat → Int64) × (Nat → Int64)) := (Option.bind (zf_X8_refuse (((-3 : Int32))) b_refused) (fun u33 => some (u33.1, u33.2, b_elements, b_moved)))
def zf_X8_copy_150 (b_holds : Nat → Int32) (b_sizes : Nat → Int32) (b_refused : Nat → Int32) (b_elements : Nat → Int64) (b_moved : Nat → Int64) : Option (Int32 × (Nat → Int32) × (Nat → Int64) × (Nat → Int64)) := (Option.bind (zf_X8_refuse (((-2 : Int32))) b_refused) (fun u32 => some (u32.1, u32.2, b_elements, b_moved)))
def zf_X8_copy_197 (b_holds : Nat → Int32) (b_sizes : Nat → Int32) : Nat → Int32 → Int32 → Int32 → Int32 → (Nat → Int32) → (Nat → Int64) → (Nat → Int64) → Option (Int32 × (Nat → Int32) × (Nat → Int64) × (Nat → Int64))
  | 0, _, _, _, _, _, _, _ => none
  | n + 1, v2, v4, v5, v7, b_refused, b_elements, b_moved => (if v5 ≤ v7 then some (v5, b_refused, b_elements, b_moved) else (if ix v7 40 then (if ix (((((40 : Int32) * v2) + v4) + v7)) 320 then zf_X8_copy_197 b_holds b_sizes n v2 v4 v5 ((v7 + 1)) b_refused ((vp_updL b_elements ((((((40 : Int32) * v2) + v4) + v7)).toNatClampNeg) ((b_moved v7.toNatClampNeg)))) b_moved else none) else none))
def zf_X8_copy_160 (b_holds : Nat → Int32) (b_sizes : Nat → Int32) : Nat → Int32 → Int32 → Int32 → Int32 → Int32 → Int32 → (Nat → Int32) → (Nat → Int64) → (Nat → Int64) → Option (Int32 × (Nat → Int32) × (Nat → Int64) × (Nat → Int64))
  | 0, _, _, _, _, _, _, _, _, _ => none
  | n + 1, v1, v2, v3, v4, v5, v7, b_refused, b_elements, b_moved => (if v5 ≤ v7 then zf_X8_copy_197 b_holds b_sizes FU v2 v4 v5 ((0 : Int32)) b_refused b_elements b_moved else (if ix (((((40 : Int32) * v1) + v3) + v7)) 320 then (if ix v7 40 then zf_X8_copy_160 b_holds b_sizes n v1 v2 v3 v4 v5 ((v7 + 1)) b_refused b_elements ((vp_updL b_moved v7.toNatClampNeg ((b_elements (((((40 : Int32) * v1) + v3) + v7)).toNatClampNeg)))) else none) else none))
def zf_X8_copy_97 (b_holds : Nat → Int32) (b_sizes : Nat → Int32) (v1 : Int32) (v2 : Int32) (v3 : Int32) (v4 : Int32) (v5 : Int32) (v6 : Bool) (b_refused : Nat → Int32) (b_elements : Nat → Int64) (b_moved : Nat → Int64) : Option (Int32 × (Nat → Int32) × (Nat → Int64) × (Nat → Int64)) := (if v6 then (if v5 < 0 then zf_X8_copy_150 b_holds b_sizes b_refused b_elements b_moved else (if v3 < 0 then zf_X8_copy_150 b_holds b_sizes b_refused b_elements b_moved else (if v4 < 0 then zf_X8_copy_150 b_holds b_sizes b_refused b_elements b_moved else (if ix v1 8 then (if ((b_sizes v1.toNatClampNeg) - v3) < v5 then zf_X8_copy_150 b_holds b_sizes b_refused b_elements b_moved else (if ix v2 8 then (if v5 ≤ ((b_sizes v2.toNatClampNeg) - v4) then zf_X8_copy_160 b_holds b_sizes FU v1 v2 v3 v4 v5 ((0 : Int32)) b_refused b_elements b_moved else zf_X8_copy_150 b_holds b_sizes b_refused b_elements b_moved) else none)) else none)))) else (Option.bind (zf_X8_refuse (((-4 : Int32))) b_refused) (fun u25 => some (u25.1, u25.2, b_elements, b_moved))))
def zf_X8_copy_46 (b_holds : Nat → Int32) (b_sizes : Nat → Int32) (v1 : Int32) (v2 : Int32) (v3 : Int32) (v4 : Int32) (v5 : Int32) (t0 : Bool) (b_refused : Nat → Int32) (b_elements : Nat → Int64) (b_moved : Nat → Int64) : Option (Int32 × (Nat → Int32) × (Nat → Int64) × (Nat → Int64)) := (if ix v1 8 then (if (10 : Int32) ≤ (b_holds v1.toNatClampNeg) then zf_X8_copy_90 b_holds b_sizes b_refused b_elements b_moved else (if ix v2 8 then (if (10 : Int32) ≤ (b_holds v2.toNatClampNeg) then zf_X8_copy_90 b_holds b_sizes b_refused b_elements b_moved else (if t0 then (if ix v1 8 then (if ix v2 8 then (if (b_holds v1.toNatClampNeg) = (b_holds v2.toNatClampNeg) then zf_X8_copy_97 b_holds b_sizes v1 v2 v3 v4 v5 t0 b_refused b_elements b_moved else zf_X8_copy_90 b_holds b_sizes b_refused b_elements b_moved) else none) else none) else zf_X8_copy_97 b_holds b_sizes v1 v2 v3 v4 v5 t0 b_refused b_elements b_moved)) else none)) else none)
def zf_X8_copy_45 (b_holds : Nat → Int32) (b_sizes : Nat → Int32) (v1 : Int32) (v2 : Int32) (v3 : Int32) (v4 : Int32) (v5 : Int32) (b_refused : Nat → Int32) (b_elements : Nat → Int64) (b_moved : Nat → Int64) : Option (Int32 × (Nat → Int32) × (Nat → Int64) × (Nat → Int64)) := zf_X8_copy_46 b_holds b_sizes v1 v2 v3 v4 v5 false b_refused b_elements b_moved
def zf_X8_copy (x1 : Int32) (x2 : Int32) (x3 : Int32) (x4 : Int32) (x5 : Int32) (b_refused : Nat → Int32) (b_holds : Nat → Int32) (b_sizes : Nat → Int32) (b_elements : Nat → Int64) (b_moved : Nat → Int64) : Option (Int32 × (Nat → Int32) × (Nat → Int64) × (Nat → Int64)) := (Option.bind (zf_X8_isShelf x1) (fun u1 => (if u1 then (Option.bind (zf_X8_isShelf x2) (fun u3 => (if u3 then (if ix x1 8 then (if (b_holds x1.toNatClampNeg) = (-1 : Int32) then zf_X8_copy_45 b_holds b_sizes x1 x2 x3 x4 x5 b_refused b_elements b_moved else (if ix x2 8 then (if (b_holds x2.toNatClampNeg) = (-1 : Int32) then zf_X8_copy_45 b_holds b_sizes x1 x2 x3 x4 x5 b_refused b_elements b_moved else zf_X8_copy_46 b_holds b_sizes x1 x2 x3 x4 x5 true b_refused b_elements b_moved) else none)) else none) else zf_X8_copy_14 b_holds b_sizes b_refused b_elements b_moved))) else zf_X8_copy_14 b_holds b_sizes b_refused b_elements b_moved)))
abbrev zr_X8_copy : Room := { frames := 2, cells := 0, slots := 0, locals := 45 }
set_option maxHeartbeats 4000000 in
set_option maxRecDepth 100000 in
theorem c_X8_copy (l : Launch) (G : va_G) (cy : Nat → ClassId) (tt : Nat → Nat) (M : Nat → Nat) (b_isKept : Bool) (b_size : Int32) (b_at : Int32) (b_from : Int32) (b_sort : Int32) (b_fled : Bool) (b_flights : Int32) (b_firstFlight : Int32) (b_bestHarms : Int32) (b_bestRage : Int32) (b_harmed : Int64) (b_raged : Int64) (x1 : Int32) (x2 : Int32) (x3 : Int32) (x4 : Int32) (x5 : Int32) (b_refused : Nat → Int32) (b_holds : Nat → Int32) (b_sizes : Nat → Int32) (b_elements : Nat → Int64) (b_moved : Nat → Int64) (res : Int32 × (Nat → Int32) × (Nat → Int64) × (Nat → Int64)) (hf : zf_X8_copy x1 x2 x3 x4 x5 b_refused b_holds b_sizes b_elements b_moved = some res) : zCT l yX8_copy cX8_copy 8 (some .int) zr_X8_copy G cy tt [.ref ((M 0)), .int x1, .int x2, .int x3, .int x4, .int x5] [xM M b_isKept b_size b_at b_from b_sort b_fled b_flights b_firstFlight b_bestHarms b_bestRage b_harmed b_raged, xI cy ((M 1)) 7 b_refused, xI cy ((M 7)) 8 b_holds, xI cy ((M 8)) 8 b_sizes, xJ cy ((M 9)) 320 b_elements, xJ cy ((M 10)) 40 b_moved] (some (.int res.1)) [xM M b_isKept b_size b_at b_from b_sort b_fled b_flights b_firstFlight b_bestHarms b_bestRage b_harmed b_raged, xI cy ((M 1)) 7 res.2.1, xI cy ((M 7)) 8 b_holds, xI cy ((M 8)) 8 b_sizes, xJ cy ((M 9)) 320 res.2.2.1, xJ cy ((M 10)) 40 res.2.2.2] := by
  refine zk_start zn_X8 (Nat.le_of_ble_eq_true rfl) ?_
  intro p e s m args below meth c A ls Q C hr hQ hw hl
  have C : zCx p m c s args meth cX8_copy 8 RX8 G cy tt A := C
  have hx := C.1.1
  have hb := C.1.2.1
  have hl : lv_has ls 8 [(0, .ref ((M 0))), (1, .int x1), (2, .int x2), (3, .int x3), (4, .int x4), (5, .int x5)] := hl
  have J14 : ∀ (b_refused : Nat → Int32) (b_elements : Nat → Int64) (b_moved : Nat → Int64) (H : Heap) (locs : List Loc) (ls : Array Slot), zf_X8_copy_14 b_holds b_sizes b_refused b_elements b_moved = some res → zWd G A s.heap H locs [xM M b_isKept b_size b_at b_from b_sort b_fled b_flights b_firstFlight b_bestHarms b_bestRage b_harmed b_raged, xI cy ((M 1)) 7 b_refused, xI cy ((M 7)) 8 b_holds, xI cy ((M 8)) 8 b_sizes, xJ cy ((M 9)) 320 b_elements, xJ cy ((M 10)) 40 b_moved] → lv_has ls 8 [(0, .ref ((M 0)))] → W p l e zr_X8_copy s m args below meth c H locs 0 0 Q (F0 m 14 ls []) := by
    intro b_refused b_elements b_moved H locs ls hf hw hl
    rw [zf_X8_copy_14] at hf
    refine lv_aload_n (pc := 14) hx hb dX8_copy_14 rfl (lv_at hl 0 rfl) ?_
    refine lv_bipush (pc := 15) (v := -2) hx hb dX8_copy_15 (by decide) ?_
    obtain ⟨u34, u34e, hf⟩ := bd hf
    refine zk_cV (pc := 17) (ci := 8) (q0 := 0) (rest := []) (st1 := [.int u34.1]) (w' := [xM M b_isKept b_size b_at b_from b_sort b_fled b_flights b_firstFlight b_bestHarms b_bestRage b_harmed b_raged, xI cy ((M 1)) 7 u34.2, xI cy ((M 7)) 8 b_holds, xI cy ((M 8)) 8 b_sizes, xJ cy ((M 9)) 320 b_elements, xJ cy ((M 10)) 40 b_moved]) (mk := [none, some (xI cy ((M 1)) 7 u34.2), none, none, none, none]) C hw (c_X8_refuse l G cy tt M b_isKept b_size b_at b_from b_sort b_fled b_flights b_firstFlight b_bestHarms b_bestRage b_harmed b_raged (((-2 : Int32))) b_refused _ u34e) zy_X8_refuse zm_X8_90 rfl rfl rfl [0, 1] rfl rfl rfl rfl rfl rfl rfl rfl hl.1 ⟨rfl, rfl⟩ ⟨Nat.le_of_ble_eq_true rfl, Nat.le_of_ble_eq_true rfl⟩ rfl (Nat.le_of_ble_eq_true rfl) ⟨Nat.zero_le _, Nat.zero_le _⟩ dX8_copy_17 (fun H locs hw => ?_)
    have hf := Option.some.inj hf
    subst hf
    exact zk_reti (pc := 20) (ww := [xM M b_isKept b_size b_at b_from b_sort b_fled b_flights b_firstFlight b_bestHarms b_bestRage b_harmed b_raged, xI cy ((M 1)) 7 u34.2, xI cy ((M 7)) 8 b_holds, xI cy ((M 8)) 8 b_sizes, xJ cy ((M 9)) 320 b_elements, xJ cy ((M 10)) 40 b_moved]) C hw hr hQ dX8_copy_20
  have J90 : ∀ (b_refused : Nat → Int32) (b_elements : Nat → Int64) (b_moved : Nat → Int64) (H : Heap) (locs : List Loc) (ls : Array Slot), zf_X8_copy_90 b_holds b_sizes b_refused b_elements b_moved = some res → zWd G A s.heap H locs [xM M b_isKept b_size b_at b_from b_sort b_fled b_flights b_firstFlight b_bestHarms b_bestRage b_harmed b_raged, xI cy ((M 1)) 7 b_refused, xI cy ((M 7)) 8 b_holds, xI cy ((M 8)) 8 b_sizes, xJ cy ((M 9)) 320 b_elements, xJ cy ((M 10)) 40 b_moved] → lv_has ls 8 [(0, .ref ((M 0)))] → W p l e zr_X8_copy s m args below meth c H locs 0 0 Q (F0 m 90 ls []) := by
    intro b_refused b_elements b_moved H locs ls hf hw hl
    rw [zf_X8_copy_90] at hf
    refine lv_aload_n (pc := 90) hx hb dX8_copy_90 rfl (lv_at hl 0 rfl) ?_
    refine lv_bipush (pc := 91) (v := -3) hx hb dX8_copy_91 (by decide) ?_
    obtain ⟨u33, u33e, hf⟩ := bd hf
    refine zk_cV (pc := 93) (ci := 8) (q0 := 0) (rest := []) (st1 := [.int u33.1]) (w' := [xM M b_isKept b_size b_at b_from b_sort b_fled b_flights b_firstFlight b_bestHarms b_bestRage b_harmed b_raged, xI cy ((M 1)) 7 u33.2, xI cy ((M 7)) 8 b_holds, xI cy ((M 8)) 8 b_sizes, xJ cy ((M 9)) 320 b_elements, xJ cy ((M 10)) 40 b_moved]) (mk := [none, some (xI cy ((M 1)) 7 u33.2), none, none, none, none]) C hw (c_X8_refuse l G cy tt M b_isKept b_size b_at b_from b_sort b_fled b_flights b_firstFlight b_bestHarms b_bestRage b_harmed b_raged (((-3 : Int32))) b_refused _ u33e) zy_X8_refuse zm_X8_90 rfl rfl rfl [0, 1] rfl rfl rfl rfl rfl rfl rfl rfl hl.1 ⟨rfl, rfl⟩ ⟨Nat.le_of_ble_eq_true rfl, Nat.le_of_ble_eq_true rfl⟩ rfl (Nat.le_of_ble_eq_true rfl) ⟨Nat.zero_le _, Nat.zero_le _⟩ dX8_copy_93 (fun H locs hw => ?_)
    have hf := Option.some.inj hf
    subst hf
    exact zk_reti (pc := 96) (ww := [xM M b_isKept b_size b_at b_from b_sort b_fled b_flights b_firstFlight b_bestHarms b_bestRage b_harmed b_raged, xI cy ((M 1)) 7 u33.2, xI cy ((M 7)) 8 b_holds, xI cy ((M 8)) 8 b_sizes, xJ cy ((M 9)) 320 b_elements, xJ cy ((M 10)) 40 b_moved]) C hw hr hQ dX8_copy_96
  have J150 : ∀ (b_refused : Nat → Int32) (b_elements : Nat → Int64) (b_moved : Nat → Int64) (H : Heap) (locs : List Loc) (ls : Array Slot), zf_X8_copy_150 b_holds b_sizes b_refused b_elements b_moved = some res → zWd G A s.heap H locs [xM M b_isKept b_size b_at b_from b_sort b_fled b_flights b_firstFlight b_bestHarms b_bestRage b_harmed b_raged, xI cy ((M 1)) 7 b_refused, xI cy ((M 7)) 8 b_holds, xI cy ((M 8)) 8 b_sizes, xJ cy ((M 9)) 320 b_elements, xJ cy ((M 10)) 40 b_moved] → lv_has ls 8 [(0, .ref ((M 0)))] → W p l e zr_X8_copy s m args below meth c H locs 0 0 Q (F0 m 150 ls []) := by
    intro b_refused b_elements b_moved H locs ls hf hw hl
    rw [zf_X8_copy_150] at hf
    refine lv_aload_n (pc := 150) hx hb dX8_copy_150 rfl (lv_at hl 0 rfl) ?_
    refine lv_bipush (pc := 151) (v := -2) hx hb dX8_copy_151 (by decide) ?_
    obtain ⟨u32, u32e, hf⟩ := bd hf
    refine zk_cV (pc := 153) (ci := 8) (q0 := 0) (rest := []) (st1 := [.int u32.1]) (w' := [xM M b_isKept b_size b_at b_from b_sort b_fled b_flights b_firstFlight b_bestHarms b_bestRage b_harmed b_raged, xI cy ((M 1)) 7 u32.2, xI cy ((M 7)) 8 b_holds, xI cy ((M 8)) 8 b_sizes, xJ cy ((M 9)) 320 b_elements, xJ cy ((M 10)) 40 b_moved]) (mk := [none, some (xI cy ((M 1)) 7 u32.2), none, none, none, none]) C hw (c_X8_refuse l G cy tt M b_isKept b_size b_at b_from b_sort b_fled b_flights b_firstFlight b_bestHarms b_bestRage b_harmed b_raged (((-2 : Int32))) b_refused _ u32e) zy_X8_refuse zm_X8_90 rfl rfl rfl [0, 1] rfl rfl rfl rfl rfl rfl rfl rfl hl.1 ⟨rfl, rfl⟩ ⟨Nat.le_of_ble_eq_true rfl, Nat.le_of_ble_eq_true rfl⟩ rfl (Nat.le_of_ble_eq_true rfl) ⟨Nat.zero_le _, Nat.zero_le _⟩ dX8_copy_153 (fun H locs hw => ?_)
    have hf := Option.some.inj hf
    subst hf
    exact zk_reti (pc := 156) (ww := [xM M b_isKept b_size b_at b_from b_sort b_fled b_flights b_firstFlight b_bestHarms b_bestRage b_harmed b_raged, xI cy ((M 1)) 7 u32.2, xI cy ((M 7)) 8 b_holds, xI cy ((M 8)) 8 b_sizes, xJ cy ((M 9)) 320 b_elements, xJ cy ((M 10)) 40 b_moved]) C hw hr hQ dX8_copy_156
  have J197 : ∀ (n : Nat), ∀ (v2 : Int32) (v4 : Int32) (v5 : Int32) (v7 : Int32) (b_refused : Nat → Int32) (b_elements : Nat → Int64) (b_moved : Nat → Int64) (H : Heap) (locs : List Loc) (ls : Array Slot), zf_X8_copy_197 b_holds b_sizes n v2 v4 v5 v7 b_refused b_elements b_moved = some res → zWd G A s.heap H locs [xM M b_isKept b_size b_at b_from b_sort b_fled b_flights b_firstFlight b_bestHarms b_bestRage b_harmed b_raged, xI cy ((M 1)) 7 b_refused, xI cy ((M 7)) 8 b_holds, xI cy ((M 8)) 8 b_sizes, xJ cy ((M 9)) 320 b_elements, xJ cy ((M 10)) 40 b_moved] → lv_has ls 8 [(0, .ref ((M 0))), (2, .int v2), (4, .int v4), (5, .int v5), (7, .int v7)] → W p l e zr_X8_copy s m args below meth c H locs 0 0 Q (F0 m 197 ls []) := by
    intro n
    induction n with
    | zero =>
      intro v2 v4 v5 v7 b_refused b_elements b_moved H locs ls hf hw hl
      rw [zf_X8_copy_197] at hf
      cases hf
    | succ n ih =>
      intro v2 v4 v5 v7 b_refused b_elements b_moved H locs ls hf hw hl
      rw [zf_X8_copy_197] at hf
      refine lv_iload (pc := 197) hx hb dX8_copy_197 (lv_at hl 4 rfl) ?_
      refine lv_iload (pc := 199) hx hb dX8_copy_199 (lv_at hl 3 rfl) ?_
      refine lv_icmp_ge (pc := 201) (tgt := 232) hx hb dX8_copy_201 (by decide) (fun q29 => ?_) (fun q29 => ?_)
      · replace hf := if_t q29 hf
        refine lv_iload (pc := 232) hx hb dX8_copy_232 (lv_at hl 3 rfl) ?_
        have hf := Option.some.inj hf
        subst hf
        exact zk_reti (pc := 234) (ww := [xM M b_isKept b_size b_at b_from b_sort b_fled b_flights b_firstFlight b_bestHarms b_bestRage b_harmed b_raged, xI cy ((M 1)) 7 b_refused, xI cy ((M 7)) 8 b_holds, xI cy ((M 8)) 8 b_sizes, xJ cy ((M 9)) 320 b_elements, xJ cy ((M 10)) 40 b_moved]) C hw hr hQ dX8_copy_234
      · replace hf := if_f q29 hf
        refine lv_aload_n (pc := 204) hx hb dX8_copy_204 rfl (lv_at hl 0 rfl) ?_
        refine zk_gt (pc := 205) C hw zl_X8_39 0 rfl rfl dX8_copy_205 ?_
        refine lv_bipush (pc := 208) (v := 40) hx hb dX8_copy_208 (by decide) ?_
        refine lv_iload_n (pc := 210) hx hb dX8_copy_210 rfl (lv_at hl 1 rfl) ?_
        refine lv_imul (pc := 211) hx hb dX8_copy_211 ?_
        refine lv_iload (pc := 212) hx hb dX8_copy_212 (lv_at hl 2 rfl) ?_
        refine lv_iadd (pc := 214) hx hb dX8_copy_214 ?_
        refine lv_iload (pc := 215) hx hb dX8_copy_215 (lv_at hl 4 rfl) ?_
        refine lv_iadd (pc := 217) hx hb dX8_copy_217 ?_
        refine lv_aload_n (pc := 218) hx hb dX8_copy_218 rfl (lv_at hl 0 rfl) ?_
        refine zk_gt (pc := 219) C hw zl_X8_43 0 rfl rfl dX8_copy_219 ?_
        refine lv_iload (pc := 222) hx hb dX8_copy_222 (lv_at hl 4 rfl) ?_
        obtain ⟨q30, hf⟩ := ck hf
        refine zk_lald (pc := 224) C hw 5 rfl q30 dX8_copy_224 ?_
        obtain ⟨q31, hf⟩ := ck hf
        refine zk_last (pc := 225) (w' := [xM M b_isKept b_size b_at b_from b_sort b_fled b_flights b_firstFlight b_bestHarms b_bestRage b_harmed b_raged, xI cy ((M 1)) 7 b_refused, xI cy ((M 7)) 8 b_holds, xI cy ((M 8)) 8 b_sizes, xJ cy ((M 9)) 320 ((vp_updL b_elements ((((((40 : Int32) * v2) + v4) + v7)).toNatClampNeg) ((b_moved v7.toNatClampNeg)))), xJ cy ((M 10)) 40 b_moved]) C hw 4 rfl q31 rfl dX8_copy_225 (fun H locs hw => ?_)
        refine lv_iinc (pc := 226) (v := (v7 + 1)) (lv' := [(7, .int ((v7 + 1))), (0, .ref ((M 0))), (2, .int v2), (4, .int v4), (5, .int v5)]) hx hb dX8_copy_226 hl (k := 4) rfl rfl (by decide) rfl (fun ls hl => ?_)
        refine lv_goto (pc := 229) (tgt := 197) hx hb dX8_copy_229 (by decide) ?_
        exact ih v2 v4 v5 ((v7 + 1)) b_refused ((vp_updL b_elements ((((((40 : Int32) * v2) + v4) + v7)).toNatClampNeg) ((b_moved v7.toNatClampNeg)))) b_moved _ _ _ hf hw (lv_sub hl [1, 2, 3, 4, 0] rfl)
  have J160 : ∀ (n : Nat), ∀ (v1 : Int32) (v2 : Int32) (v3 : Int32) (v4 : Int32) (v5 : Int32) (v7 : Int32) (b_refused : Nat → Int32) (b_elements : Nat → Int64) (b_moved : Nat → Int64) (H : Heap) (locs : List Loc) (ls : Array Slot), zf_X8_copy_160 b_holds b_sizes n v1 v2 v3 v4 v5 v7 b_refused b_elements b_moved = some res → zWd G A s.heap H locs [xM M b_isKept b_size b_at b_from b_sort b_fled b_flights b_firstFlight b_bestHarms b_bestRage b_harmed b_raged, xI cy ((M 1)) 7 b_refused, xI cy ((M 7)) 8 b_holds, xI cy ((M 8)) 8 b_sizes, xJ cy ((M 9)) 320 b_elements, xJ cy ((M 10)) 40 b_moved] → lv_has ls 8 [(0, .ref ((M 0))), (1, .int v1), (2, .int v2), (3, .int v3), (4, .int v4), (5, .int v5), (7, .int v7)] → W p l e zr_X8_copy s m args below meth c H locs 0 0 Q (F0 m 160 ls []) := by
    intro n
    induction n with
    | zero =>
      intro v1 v2 v3 v4 v5 v7 b_refused b_elements b_moved H locs ls hf hw hl
      rw [zf_X8_copy_160] at hf
      cases hf
    | succ n ih =>
      intro v1 v2 v3 v4 v5 v7 b_refused b_elements b_moved H locs ls hf hw hl
      rw [zf_X8_copy_160] at hf
      refine lv_iload (pc := 160) hx hb dX8_copy_160 (lv_at hl 6 rfl) ?_
      refine lv_iload (pc := 162) hx hb dX8_copy_162 (lv_at hl 5 rfl) ?_
      refine lv_icmp_ge (pc := 164) (tgt := 194) hx hb dX8_copy_164 (by decide) (fun q26 => ?_) (fun q26 => ?_)
      · replace hf := if_t q26 hf
        refine lv_iconst (pc := 194) (v := 0) hx hb dX8_copy_194 (by decide) ?_
        refine lv_istore (pc := 195) (lv' := [(7, .int ((0 : Int32))), (0, .ref ((M 0))), (1, .int v1), (2, .int v2), (3, .int v3), (4, .int v4), (5, .int v5)]) hx hb dX8_copy_195 hl (by decide) rfl (fun ls hl => ?_)
        exact J197 FU v2 v4 v5 ((0 : Int32)) b_refused b_elements b_moved _ _ _ hf hw (lv_sub hl [1, 3, 5, 6, 0] rfl)
      · replace hf := if_f q26 hf
        refine lv_aload_n (pc := 167) hx hb dX8_copy_167 rfl (lv_at hl 0 rfl) ?_
        refine zk_gt (pc := 168) C hw zl_X8_43 0 rfl rfl dX8_copy_168 ?_
        refine lv_iload (pc := 171) hx hb dX8_copy_171 (lv_at hl 6 rfl) ?_
        refine lv_aload_n (pc := 173) hx hb dX8_copy_173 rfl (lv_at hl 0 rfl) ?_
        refine zk_gt (pc := 174) C hw zl_X8_39 0 rfl rfl dX8_copy_174 ?_
        refine lv_bipush (pc := 177) (v := 40) hx hb dX8_copy_177 (by decide) ?_
        refine lv_iload_n (pc := 179) hx hb dX8_copy_179 rfl (lv_at hl 1 rfl) ?_
        refine lv_imul (pc := 180) hx hb dX8_copy_180 ?_
        refine lv_iload_n (pc := 181) hx hb dX8_copy_181 rfl (lv_at hl 3 rfl) ?_
        refine lv_iadd (pc := 182) hx hb dX8_copy_182 ?_
        refine lv_iload (pc := 183) hx hb dX8_copy_183 (lv_at hl 6 rfl) ?_
        refine lv_iadd (pc := 185) hx hb dX8_copy_185 ?_
        obtain ⟨q27, hf⟩ := ck hf
        refine zk_lald (pc := 186) C hw 4 rfl q27 dX8_copy_186 ?_
        obtain ⟨q28, hf⟩ := ck hf
        refine zk_last (pc := 187) (w' := [xM M b_isKept b_size b_at b_from b_sort b_fled b_flights b_firstFlight b_bestHarms b_bestRage b_harmed b_raged, xI cy ((M 1)) 7 b_refused, xI cy ((M 7)) 8 b_holds, xI cy ((M 8)) 8 b_sizes, xJ cy ((M 9)) 320 b_elements, xJ cy ((M 10)) 40 ((vp_updL b_moved v7.toNatClampNeg ((b_elements (((((40 : Int32) * v1) + v3) + v7)).toNatClampNeg))))]) C hw 5 rfl q28 rfl dX8_copy_187 (fun H locs hw => ?_)
        refine lv_iinc (pc := 188) (v := (v7 + 1)) (lv' := [(7, .int ((v7 + 1))), (0, .ref ((M 0))), (1, .int v1), (2, .int v2), (3, .int v3), (4, .int v4), (5, .int v5)]) hx hb dX8_copy_188 hl (k := 6) rfl rfl (by decide) rfl (fun ls hl => ?_)
        refine lv_goto (pc := 191) (tgt := 160) hx hb dX8_copy_191 (by decide) ?_
        exact ih v1 v2 v3 v4 v5 ((v7 + 1)) b_refused b_elements ((vp_updL b_moved v7.toNatClampNeg ((b_elements (((((40 : Int32) * v1) + v3) + v7)).toNatClampNeg)))) _ _ _ hf hw (lv_sub hl [1, 2, 3, 4, 5, 6, 0] rfl)
  have J97 : ∀ (v1 : Int32) (v2 : Int32) (v3 : Int32) (v4 : Int32) (v5 : Int32) (v6 : Bool) (b_refused : Nat → Int32) (b_elements : Nat → Int64) (b_moved : Nat → Int64) (H : Heap) (locs : List Loc) (ls : Array Slot), zf_X8_copy_97 b_holds b_sizes v1 v2 v3 v4 v5 v6 b_refused b_elements b_moved = some res → zWd G A s.heap H locs [xM M b_isKept b_size b_at b_from b_sort b_fled b_flights b_firstFlight b_bestHarms b_bestRage b_harmed b_raged, xI cy ((M 1)) 7 b_refused, xI cy ((M 7)) 8 b_holds, xI cy ((M 8)) 8 b_sizes, xJ cy ((M 9)) 320 b_elements, xJ cy ((M 10)) 40 b_moved] → lv_has ls 8 [(0, .ref ((M 0))), (1, .int v1), (2, .int v2), (3, .int v3), (4, .int v4), (5, .int v5), (6, .int (bI v6))] → W p l e zr_X8_copy s m args below meth c H locs 0 0 Q (F0 m 97 ls []) := by
    intro v1 v2 v3 v4 v5 v6 b_refused b_elements b_moved H locs ls hf hw hl
    rw [zf_X8_copy_97] at hf
    refine lv_iload (pc := 97) hx hb dX8_copy_97 (lv_at hl 6 rfl) ?_
    refine zk_ifnz (pc := 99) (tgt := 109) hx hb dX8_copy_99 (by decide) (fun q17 => ?_) (fun q17 => ?_)
    · replace hf := if_t q17 hf
      refine lv_iload (pc := 109) hx hb dX8_copy_109 (lv_at hl 5 rfl) ?_
      refine lv_if_lt (pc := 111) (tgt := 150) hx hb dX8_copy_111 (by decide) (fun q18 => ?_) (fun q18 => ?_)
      · replace hf := if_t q18 hf
        exact J150 b_refused b_elements b_moved _ _ _ hf hw (lv_sub hl [0] rfl)
      · replace hf := if_f q18 hf
        refine lv_iload_n (pc := 114) hx hb dX8_copy_114 rfl (lv_at hl 3 rfl) ?_
        refine lv_if_lt (pc := 115) (tgt := 150) hx hb dX8_copy_115 (by decide) (fun q19 => ?_) (fun q19 => ?_)
        · replace hf := if_t q19 hf
          exact J150 b_refused b_elements b_moved _ _ _ hf hw (lv_sub hl [0] rfl)
        · replace hf := if_f q19 hf
          refine lv_iload (pc := 118) hx hb dX8_copy_118 (lv_at hl 4 rfl) ?_
          refine lv_if_lt (pc := 120) (tgt := 150) hx hb dX8_copy_120 (by decide) (fun q20 => ?_) (fun q20 => ?_)
          · replace hf := if_t q20 hf
            exact J150 b_refused b_elements b_moved _ _ _ hf hw (lv_sub hl [0] rfl)
          · replace hf := if_f q20 hf
            refine lv_iload (pc := 123) hx hb dX8_copy_123 (lv_at hl 5 rfl) ?_
            refine lv_aload_n (pc := 125) hx hb dX8_copy_125 rfl (lv_at hl 0 rfl) ?_
            refine zk_gt (pc := 126) C hw zl_X8_36 0 rfl rfl dX8_copy_126 ?_
            refine lv_iload_n (pc := 129) hx hb dX8_copy_129 rfl (lv_at hl 1 rfl) ?_
            obtain ⟨q21, hf⟩ := ck hf
            refine zk_iald (pc := 130) C hw 3 rfl q21 dX8_copy_130 ?_
            refine lv_iload_n (pc := 131) hx hb dX8_copy_131 rfl (lv_at hl 3 rfl) ?_
            refine lv_isub (pc := 132) hx hb dX8_copy_132 ?_
            refine lv_icmp_gt (pc := 133) (tgt := 150) hx hb dX8_copy_133 (by decide) (fun q22 => ?_) (fun q22 => ?_)
            · replace hf := if_t q22 hf
              exact J150 b_refused b_elements b_moved _ _ _ hf hw (lv_sub hl [0] rfl)
            · replace hf := if_f q22 hf
              refine lv_iload (pc := 136) hx hb dX8_copy_136 (lv_at hl 5 rfl) ?_
              refine lv_aload_n (pc := 138) hx hb dX8_copy_138 rfl (lv_at hl 0 rfl) ?_
              refine zk_gt (pc := 139) C hw zl_X8_36 0 rfl rfl dX8_copy_139 ?_
              refine lv_iload_n (pc := 142) hx hb dX8_copy_142 rfl (lv_at hl 2 rfl) ?_
              obtain ⟨q23, hf⟩ := ck hf
              refine zk_iald (pc := 143) C hw 3 rfl q23 dX8_copy_143 ?_
              refine lv_iload (pc := 144) hx hb dX8_copy_144 (lv_at hl 4 rfl) ?_
              refine lv_isub (pc := 146) hx hb dX8_copy_146 ?_
              refine lv_icmp_le (pc := 147) (tgt := 157) hx hb dX8_copy_147 (by decide) (fun q24 => ?_) (fun q24 => ?_)
              · replace hf := if_t q24 hf
                refine lv_iconst (pc := 157) (v := 0) hx hb dX8_copy_157 (by decide) ?_
                refine lv_istore (pc := 158) (lv' := [(7, .int ((0 : Int32))), (0, .ref ((M 0))), (1, .int v1), (2, .int v2), (3, .int v3), (4, .int v4), (5, .int v5), (6, .int (bI v6))]) hx hb dX8_copy_158 hl (by decide) rfl (fun ls hl => ?_)
                exact J160 FU v1 v2 v3 v4 v5 ((0 : Int32)) b_refused b_elements b_moved _ _ _ hf hw (lv_sub hl [1, 2, 3, 4, 5, 6, 0] rfl)
              · replace hf := if_f q24 hf
                exact J150 b_refused b_elements b_moved _ _ _ hf hw (lv_sub hl [0] rfl)
    · replace hf := if_f q17 hf
      refine lv_aload_n (pc := 102) hx hb dX8_copy_102 rfl (lv_at hl 0 rfl) ?_
      refine lv_bipush (pc := 103) (v := -4) hx hb dX8_copy_103 (by decide) ?_
      obtain ⟨u25, u25e, hf⟩ := bd hf
      refine zk_cV (pc := 105) (ci := 8) (q0 := 0) (rest := []) (st1 := [.int u25.1]) (w' := [xM M b_isKept b_size b_at b_from b_sort b_fled b_flights b_firstFlight b_bestHarms b_bestRage b_harmed b_raged, xI cy ((M 1)) 7 u25.2, xI cy ((M 7)) 8 b_holds, xI cy ((M 8)) 8 b_sizes, xJ cy ((M 9)) 320 b_elements, xJ cy ((M 10)) 40 b_moved]) (mk := [none, some (xI cy ((M 1)) 7 u25.2), none, none, none, none]) C hw (c_X8_refuse l G cy tt M b_isKept b_size b_at b_from b_sort b_fled b_flights b_firstFlight b_bestHarms b_bestRage b_harmed b_raged (((-4 : Int32))) b_refused _ u25e) zy_X8_refuse zm_X8_90 rfl rfl rfl [0, 1] rfl rfl rfl rfl rfl rfl rfl rfl hl.1 ⟨rfl, rfl⟩ ⟨Nat.le_of_ble_eq_true rfl, Nat.le_of_ble_eq_true rfl⟩ rfl (Nat.le_of_ble_eq_true rfl) ⟨Nat.zero_le _, Nat.zero_le _⟩ dX8_copy_105 (fun H locs hw => ?_)
      have hf := Option.some.inj hf
      subst hf
      exact zk_reti (pc := 108) (ww := [xM M b_isKept b_size b_at b_from b_sort b_fled b_flights b_firstFlight b_bestHarms b_bestRage b_harmed b_raged, xI cy ((M 1)) 7 u25.2, xI cy ((M 7)) 8 b_holds, xI cy ((M 8)) 8 b_sizes, xJ cy ((M 9)) 320 b_elements, xJ cy ((M 10)) 40 b_moved]) C hw hr hQ dX8_copy_108
  have J46 : ∀ (v1 : Int32) (v2 : Int32) (v3 : Int32) (v4 : Int32) (v5 : Int32) (t0 : Bool) (b_refused : Nat → Int32) (b_elements : Nat → Int64) (b_moved : Nat → Int64) (H : Heap) (locs : List Loc) (ls : Array Slot), zf_X8_copy_46 b_holds b_sizes v1 v2 v3 v4 v5 t0 b_refused b_elements b_moved = some res → zWd G A s.heap H locs [xM M b_isKept b_size b_at b_from b_sort b_fled b_flights b_firstFlight b_bestHarms b_bestRage b_harmed b_raged, xI cy ((M 1)) 7 b_refused, xI cy ((M 7)) 8 b_holds, xI cy ((M 8)) 8 b_sizes, xJ cy ((M 9)) 320 b_elements, xJ cy ((M 10)) 40 b_moved] → lv_has ls 8 [(0, .ref ((M 0))), (1, .int v1), (2, .int v2), (3, .int v3), (4, .int v4), (5, .int v5)] → W p l e zr_X8_copy s m args below meth c H locs 0 0 Q (F0 m 46 ls [.int (bI t0)]) := by
    intro v1 v2 v3 v4 v5 t0 b_refused b_elements b_moved H locs ls hf hw hl
    rw [zf_X8_copy_46] at hf
    refine lv_istore (pc := 46) (lv' := [(6, .int (bI t0)), (0, .ref ((M 0))), (1, .int v1), (2, .int v2), (3, .int v3), (4, .int v4), (5, .int v5)]) hx hb dX8_copy_46 hl (by decide) rfl (fun ls hl => ?_)
    refine lv_aload_n (pc := 48) hx hb dX8_copy_48 rfl (lv_at hl 1 rfl) ?_
    refine zk_gt (pc := 49) C hw zl_X8_33 0 rfl rfl dX8_copy_49 ?_
    refine lv_iload_n (pc := 52) hx hb dX8_copy_52 rfl (lv_at hl 2 rfl) ?_
    obtain ⟨q9, hf⟩ := ck hf
    refine zk_iald (pc := 53) C hw 2 rfl q9 dX8_copy_53 ?_
    refine lv_bipush (pc := 54) (v := 10) hx hb dX8_copy_54 (by decide) ?_
    refine lv_icmp_ge (pc := 56) (tgt := 90) hx hb dX8_copy_56 (by decide) (fun q10 => ?_) (fun q10 => ?_)
    · replace hf := if_t q10 hf
      exact J90 b_refused b_elements b_moved _ _ _ hf hw (lv_sub hl [1] rfl)
    · replace hf := if_f q10 hf
      refine lv_aload_n (pc := 59) hx hb dX8_copy_59 rfl (lv_at hl 1 rfl) ?_
      refine zk_gt (pc := 60) C hw zl_X8_33 0 rfl rfl dX8_copy_60 ?_
      refine lv_iload_n (pc := 63) hx hb dX8_copy_63 rfl (lv_at hl 3 rfl) ?_
      obtain ⟨q11, hf⟩ := ck hf
      refine zk_iald (pc := 64) C hw 2 rfl q11 dX8_copy_64 ?_
      refine lv_bipush (pc := 65) (v := 10) hx hb dX8_copy_65 (by decide) ?_
      refine lv_icmp_ge (pc := 67) (tgt := 90) hx hb dX8_copy_67 (by decide) (fun q12 => ?_) (fun q12 => ?_)
      · replace hf := if_t q12 hf
        exact J90 b_refused b_elements b_moved _ _ _ hf hw (lv_sub hl [1] rfl)
      · replace hf := if_f q12 hf
        refine lv_iload (pc := 70) hx hb dX8_copy_70 (lv_at hl 0 rfl) ?_
        refine zk_ifz (pc := 72) (tgt := 97) hx hb dX8_copy_72 (by decide) (fun q13 => ?_) (fun q13 => ?_)
        · replace hf := if_f q13 hf
          exact J97 v1 v2 v3 v4 v5 t0 b_refused b_elements b_moved _ _ _ hf hw (lv_sub hl [1, 2, 3, 4, 5, 6, 0] rfl)
        · replace hf := if_t q13 hf
          refine lv_aload_n (pc := 75) hx hb dX8_copy_75 rfl (lv_at hl 1 rfl) ?_
          refine zk_gt (pc := 76) C hw zl_X8_33 0 rfl rfl dX8_copy_76 ?_
          refine lv_iload_n (pc := 79) hx hb dX8_copy_79 rfl (lv_at hl 2 rfl) ?_
          obtain ⟨q14, hf⟩ := ck hf
          refine zk_iald (pc := 80) C hw 2 rfl q14 dX8_copy_80 ?_
          refine lv_aload_n (pc := 81) hx hb dX8_copy_81 rfl (lv_at hl 1 rfl) ?_
          refine zk_gt (pc := 82) C hw zl_X8_33 0 rfl rfl dX8_copy_82 ?_
          refine lv_iload_n (pc := 85) hx hb dX8_copy_85 rfl (lv_at hl 3 rfl) ?_
          obtain ⟨q15, hf⟩ := ck hf
          refine zk_iald (pc := 86) C hw 2 rfl q15 dX8_copy_86 ?_
          refine lv_icmp_eq (pc := 87) (tgt := 97) hx hb dX8_copy_87 (by decide) (fun q16 => ?_) (fun q16 => ?_)
          · replace hf := if_t q16 hf
            exact J97 v1 v2 v3 v4 v5 t0 b_refused b_elements b_moved _ _ _ hf hw (lv_sub hl [1, 2, 3, 4, 5, 6, 0] rfl)
          · replace hf := if_f q16 hf
            exact J90 b_refused b_elements b_moved _ _ _ hf hw (lv_sub hl [1] rfl)
  have J45 : ∀ (v1 : Int32) (v2 : Int32) (v3 : Int32) (v4 : Int32) (v5 : Int32) (b_refused : Nat → Int32) (b_elements : Nat → Int64) (b_moved : Nat → Int64) (H : Heap) (locs : List Loc) (ls : Array Slot), zf_X8_copy_45 b_holds b_sizes v1 v2 v3 v4 v5 b_refused b_elements b_moved = some res → zWd G A s.heap H locs [xM M b_isKept b_size b_at b_from b_sort b_fled b_flights b_firstFlight b_bestHarms b_bestRage b_harmed b_raged, xI cy ((M 1)) 7 b_refused, xI cy ((M 7)) 8 b_holds, xI cy ((M 8)) 8 b_sizes, xJ cy ((M 9)) 320 b_elements, xJ cy ((M 10)) 40 b_moved] → lv_has ls 8 [(0, .ref ((M 0))), (1, .int v1), (2, .int v2), (3, .int v3), (4, .int v4), (5, .int v5)] → W p l e zr_X8_copy s m args below meth c H locs 0 0 Q (F0 m 45 ls []) := by
    intro v1 v2 v3 v4 v5 b_refused b_elements b_moved H locs ls hf hw hl
    rw [zf_X8_copy_45] at hf
    refine lv_iconst (pc := 45) (v := 0) hx hb dX8_copy_45 (by decide) ?_
    exact J46 v1 v2 v3 v4 v5 false b_refused b_elements b_moved _ _ _ hf hw (lv_sub hl [0, 1, 2, 3, 4, 5] rfl)
  rw [zf_X8_copy] at hf
  refine lv_iload_n (pc := 0) hx hb dX8_copy_0 rfl (lv_at hl 1 rfl) ?_
  obtain ⟨u1, u1e, hf⟩ := bd hf
  refine zk_cS (pc := 1) (rest := []) (st1 := [.int (bI u1)]) (w' := [xM M b_isKept b_size b_at b_from b_sort b_fled b_flights b_firstFlight b_bestHarms b_bestRage b_harmed b_raged, xI cy ((M 1)) 7 b_refused, xI cy ((M 7)) 8 b_holds, xI cy ((M 8)) 8 b_sizes, xJ cy ((M 9)) 320 b_elements, xJ cy ((M 10)) 40 b_moved]) (mk := [none, none, none, none, none, none]) C hw (c_X8_isShelf l G cy tt x1 _ u1e) zy_X8_isShelf zm_X8_200 [] rfl rfl rfl rfl rfl rfl rfl rfl hl.1 ⟨rfl, rfl⟩ ⟨Nat.le_of_ble_eq_true rfl, Nat.le_of_ble_eq_true rfl⟩ rfl (Nat.le_of_ble_eq_true rfl) ⟨Nat.zero_le _, Nat.zero_le _⟩ dX8_copy_1 (fun H locs hw => ?_)
  refine zk_ifz (pc := 4) (tgt := 14) hx hb dX8_copy_4 (by decide) (fun q2 => ?_) (fun q2 => ?_)
  · replace hf := if_f q2 hf
    exact J14 b_refused b_elements b_moved _ _ _ hf hw (lv_sub hl [0] rfl)
  · replace hf := if_t q2 hf
    refine lv_iload_n (pc := 7) hx hb dX8_copy_7 rfl (lv_at hl 2 rfl) ?_
    obtain ⟨u3, u3e, hf⟩ := bd hf
    refine zk_cS (pc := 8) (rest := []) (st1 := [.int (bI u3)]) (w' := [xM M b_isKept b_size b_at b_from b_sort b_fled b_flights b_firstFlight b_bestHarms b_bestRage b_harmed b_raged, xI cy ((M 1)) 7 b_refused, xI cy ((M 7)) 8 b_holds, xI cy ((M 8)) 8 b_sizes, xJ cy ((M 9)) 320 b_elements, xJ cy ((M 10)) 40 b_moved]) (mk := [none, none, none, none, none, none]) C hw (c_X8_isShelf l G cy tt x2 _ u3e) zy_X8_isShelf zm_X8_200 [] rfl rfl rfl rfl rfl rfl rfl rfl hl.1 ⟨rfl, rfl⟩ ⟨Nat.le_of_ble_eq_true rfl, Nat.le_of_ble_eq_true rfl⟩ rfl (Nat.le_of_ble_eq_true rfl) ⟨Nat.zero_le _, Nat.zero_le _⟩ dX8_copy_8 (fun H locs hw => ?_)
    refine zk_ifnz (pc := 11) (tgt := 21) hx hb dX8_copy_11 (by decide) (fun q4 => ?_) (fun q4 => ?_)
    · replace hf := if_t q4 hf
      refine lv_aload_n (pc := 21) hx hb dX8_copy_21 rfl (lv_at hl 0 rfl) ?_
      refine zk_gt (pc := 22) C hw zl_X8_33 0 rfl rfl dX8_copy_22 ?_
      refine lv_iload_n (pc := 25) hx hb dX8_copy_25 rfl (lv_at hl 1 rfl) ?_
      obtain ⟨q5, hf⟩ := ck hf
      refine zk_iald (pc := 26) C hw 2 rfl q5 dX8_copy_26 ?_
      refine lv_iconst (pc := 27) (v := -1) hx hb dX8_copy_27 (by decide) ?_
      refine lv_icmp_eq (pc := 28) (tgt := 45) hx hb dX8_copy_28 (by decide) (fun q6 => ?_) (fun q6 => ?_)
      · replace hf := if_t q6 hf
        exact J45 x1 x2 x3 x4 x5 b_refused b_elements b_moved _ _ _ hf hw (lv_sub hl [0, 1, 2, 3, 4, 5] rfl)
      · replace hf := if_f q6 hf
        refine lv_aload_n (pc := 31) hx hb dX8_copy_31 rfl (lv_at hl 0 rfl) ?_
        refine zk_gt (pc := 32) C hw zl_X8_33 0 rfl rfl dX8_copy_32 ?_
        refine lv_iload_n (pc := 35) hx hb dX8_copy_35 rfl (lv_at hl 2 rfl) ?_
        obtain ⟨q7, hf⟩ := ck hf
        refine zk_iald (pc := 36) C hw 2 rfl q7 dX8_copy_36 ?_
        refine lv_iconst (pc := 37) (v := -1) hx hb dX8_copy_37 (by decide) ?_
        refine lv_icmp_eq (pc := 38) (tgt := 45) hx hb dX8_copy_38 (by decide) (fun q8 => ?_) (fun q8 => ?_)
        · replace hf := if_t q8 hf
          exact J45 x1 x2 x3 x4 x5 b_refused b_elements b_moved _ _ _ hf hw (lv_sub hl [0, 1, 2, 3, 4, 5] rfl)
        · replace hf := if_f q8 hf
          refine lv_iconst (pc := 41) (v := 1) hx hb dX8_copy_41 (by decide) ?_
          refine lv_goto (pc := 42) (tgt := 46) hx hb dX8_copy_42 (by decide) ?_
          exact J46 x1 x2 x3 x4 x5 true b_refused b_elements b_moved _ _ _ hf hw (lv_sub hl [0, 1, 2, 3, 4, 5] rfl)
    · replace hf := if_f q4 hf
      exact J14 b_refused b_elements b_moved _ _ _ hf hw (lv_sub hl [0] rfl)
def zf_X8_element (x1 : Int32) (x2 : Int32) (b_holds : Nat → Int32) (b_sizes : Nat → Int32) (b_elements : Nat → Int64) : Option (Int64) := (Option.bind (zf_X8_isShelf x1) (fun u1 => (if u1 then (if ix x1 8 then (Option.bind (zf_X8_isIn ((((b_holds x1.toNatClampNeg)).toInt64)) (((0 : Int64))) (((4 : Int64)))) (fun u4 => (if u4 then (if ix x1 8 then (Option.bind (zf_X8_isIn x2.toInt64 (((0 : Int64))) (((((b_sizes x1.toNatClampNeg) - (1 : Int32))).toInt64))) (fun u7 => (if u7 then (if ix ((((40 : Int32) * x1) + x2)) 320 then some ((b_elements ((((40 : Int32) * x1) + x2)).toNatClampNeg)) else none) else some ((0 : Int64))))) else none) else some ((0 : Int64))))) else none) else some ((0 : Int64)))))
abbrev zr_X8_element : Room := { frames := 2, cells := 0, slots := 0, locals := 45 }
set_option maxHeartbeats 4000000 in
set_option maxRecDepth 100000 in
theorem c_X8_element (l : Launch) (G : va_G) (cy : Nat → ClassId) (tt : Nat → Nat) (M : Nat → Nat) (b_isKept : Bool) (b_size : Int32) (b_at : Int32) (b_from : Int32) (b_sort : Int32) (b_fled : Bool) (b_flights : Int32) (b_firstFlight : Int32) (b_bestHarms : Int32) (b_bestRage : Int32) (b_harmed : Int64) (b_raged : Int64) (x1 : Int32) (x2 : Int32) (b_holds : Nat → Int32) (b_sizes : Nat → Int32) (b_elements : Nat → Int64) (res : Int64) (hf : zf_X8_element x1 x2 b_holds b_sizes b_elements = some res) : zCT l yX8_element cX8_element 3 (some .long) zr_X8_element G cy tt [.ref ((M 0)), .int x1, .int x2] [xM M b_isKept b_size b_at b_from b_sort b_fled b_flights b_firstFlight b_bestHarms b_bestRage b_harmed b_raged, xI cy ((M 7)) 8 b_holds, xI cy ((M 8)) 8 b_sizes, xJ cy ((M 9)) 320 b_elements] (some (.long res)) [xM M b_isKept b_size b_at b_from b_sort b_fled b_flights b_firstFlight b_bestHarms b_bestRage b_harmed b_raged, xI cy ((M 7)) 8 b_holds, xI cy ((M 8)) 8 b_sizes, xJ cy ((M 9)) 320 b_elements] := by
  refine zk_start zn_X8 (Nat.le_of_ble_eq_true rfl) ?_
  intro p e s m args below meth c A ls Q C hr hQ hw hl
  have C : zCx p m c s args meth cX8_element 3 RX8 G cy tt A := C
  have hx := C.1.1
  have hb := C.1.2.1
  have hl : lv_has ls 3 [(0, .ref ((M 0))), (1, .int x1), (2, .int x2)] := hl
  rw [zf_X8_element] at hf
  refine lv_iload_n (pc := 0) hx hb dX8_element_0 rfl (lv_at hl 1 rfl) ?_
  obtain ⟨u1, u1e, hf⟩ := bd hf
  refine zk_cS (pc := 1) (rest := []) (st1 := [.int (bI u1)]) (w' := [xM M b_isKept b_size b_at b_from b_sort b_fled b_flights b_firstFlight b_bestHarms b_bestRage b_harmed b_raged, xI cy ((M 7)) 8 b_holds, xI cy ((M 8)) 8 b_sizes, xJ cy ((M 9)) 320 b_elements]) (mk := [none, none, none, none]) C hw (c_X8_isShelf l G cy tt x1 _ u1e) zy_X8_isShelf zm_X8_200 [] rfl rfl rfl rfl rfl rfl rfl rfl hl.1 ⟨rfl, rfl⟩ ⟨Nat.le_of_ble_eq_true rfl, Nat.le_of_ble_eq_true rfl⟩ rfl (Nat.le_of_ble_eq_true rfl) ⟨Nat.zero_le _, Nat.zero_le _⟩ dX8_element_1 (fun H locs hw => ?_)
  refine zk_ifz (pc := 4) (tgt := 56) hx hb dX8_element_4 (by decide) (fun q2 => ?_) (fun q2 => ?_)
  · replace hf := if_f q2 hf
    refine lv_lconst (pc := 56) (v := 0) hx hb dX8_element_56 (by decide) ?_
    have hf := Option.some.inj hf
    subst hf
    exact zk_retl (pc := 57) (ww := [xM M b_isKept b_size b_at b_from b_sort b_fled b_flights b_firstFlight b_bestHarms b_bestRage b_harmed b_raged, xI cy ((M 7)) 8 b_holds, xI cy ((M 8)) 8 b_sizes, xJ cy ((M 9)) 320 b_elements]) C hw hr hQ dX8_element_57
  · replace hf := if_t q2 hf
    refine lv_aload_n (pc := 7) hx hb dX8_element_7 rfl (lv_at hl 0 rfl) ?_
    refine zk_gt (pc := 8) C hw zl_X8_33 0 rfl rfl dX8_element_8 ?_
    refine lv_iload_n (pc := 11) hx hb dX8_element_11 rfl (lv_at hl 1 rfl) ?_
    obtain ⟨q3, hf⟩ := ck hf
    refine zk_iald (pc := 12) C hw 1 rfl q3 dX8_element_12 ?_
    refine lv_i2l (pc := 13) (v := ((b_holds x1.toNatClampNeg)).toInt64) hx hb dX8_element_13 rfl ?_
    refine lv_lconst (pc := 14) (v := 0) hx hb dX8_element_14 (by decide) ?_
    refine lv_ldc2 (pc := 15) (v := 4) hx hb C.1.2.2.2.1 (C.1.2.2.2.2 _ zc_X8_101) dX8_element_15 ?_
    obtain ⟨u4, u4e, hf⟩ := bd hf
    refine zk_cS (pc := 18) (rest := []) (st1 := [.int (bI u4)]) (w' := [xM M b_isKept b_size b_at b_from b_sort b_fled b_flights b_firstFlight b_bestHarms b_bestRage b_harmed b_raged, xI cy ((M 7)) 8 b_holds, xI cy ((M 8)) 8 b_sizes, xJ cy ((M 9)) 320 b_elements]) (mk := [none, none, none, none]) C hw (c_X8_isIn l G cy tt ((((b_holds x1.toNatClampNeg)).toInt64)) (((0 : Int64))) (((4 : Int64))) _ u4e) zy_X8_isIn zm_X8_68 [] rfl rfl rfl rfl rfl rfl rfl rfl hl.1 ⟨rfl, rfl⟩ ⟨Nat.le_of_ble_eq_true rfl, Nat.le_of_ble_eq_true rfl⟩ rfl (Nat.le_of_ble_eq_true rfl) ⟨Nat.zero_le _, Nat.zero_le _⟩ dX8_element_18 (fun H locs hw => ?_)
    refine zk_ifz (pc := 21) (tgt := 56) hx hb dX8_element_21 (by decide) (fun q5 => ?_) (fun q5 => ?_)
    · replace hf := if_f q5 hf
      refine lv_lconst (pc := 56) (v := 0) hx hb dX8_element_56 (by decide) ?_
      have hf := Option.some.inj hf
      subst hf
      exact zk_retl (pc := 57) (ww := [xM M b_isKept b_size b_at b_from b_sort b_fled b_flights b_firstFlight b_bestHarms b_bestRage b_harmed b_raged, xI cy ((M 7)) 8 b_holds, xI cy ((M 8)) 8 b_sizes, xJ cy ((M 9)) 320 b_elements]) C hw hr hQ dX8_element_57
    · replace hf := if_t q5 hf
      refine lv_iload_n (pc := 24) hx hb dX8_element_24 rfl (lv_at hl 2 rfl) ?_
      refine lv_i2l (pc := 25) (v := x2.toInt64) hx hb dX8_element_25 rfl ?_
      refine lv_lconst (pc := 26) (v := 0) hx hb dX8_element_26 (by decide) ?_
      refine lv_aload_n (pc := 27) hx hb dX8_element_27 rfl (lv_at hl 0 rfl) ?_
      refine zk_gt (pc := 28) C hw zl_X8_36 0 rfl rfl dX8_element_28 ?_
      refine lv_iload_n (pc := 31) hx hb dX8_element_31 rfl (lv_at hl 1 rfl) ?_
      obtain ⟨q6, hf⟩ := ck hf
      refine zk_iald (pc := 32) C hw 2 rfl q6 dX8_element_32 ?_
      refine lv_iconst (pc := 33) (v := 1) hx hb dX8_element_33 (by decide) ?_
      refine lv_isub (pc := 34) hx hb dX8_element_34 ?_
      refine lv_i2l (pc := 35) (v := (((b_sizes x1.toNatClampNeg) - (1 : Int32))).toInt64) hx hb dX8_element_35 rfl ?_
      obtain ⟨u7, u7e, hf⟩ := bd hf
      refine zk_cS (pc := 36) (rest := []) (st1 := [.int (bI u7)]) (w' := [xM M b_isKept b_size b_at b_from b_sort b_fled b_flights b_firstFlight b_bestHarms b_bestRage b_harmed b_raged, xI cy ((M 7)) 8 b_holds, xI cy ((M 8)) 8 b_sizes, xJ cy ((M 9)) 320 b_elements]) (mk := [none, none, none, none]) C hw (c_X8_isIn l G cy tt x2.toInt64 (((0 : Int64))) (((((b_sizes x1.toNatClampNeg) - (1 : Int32))).toInt64)) _ u7e) zy_X8_isIn zm_X8_68 [] rfl rfl rfl rfl rfl rfl rfl rfl hl.1 ⟨rfl, rfl⟩ ⟨Nat.le_of_ble_eq_true rfl, Nat.le_of_ble_eq_true rfl⟩ rfl (Nat.le_of_ble_eq_true rfl) ⟨Nat.zero_le _, Nat.zero_le _⟩ dX8_element_36 (fun H locs hw => ?_)
      refine zk_ifz (pc := 39) (tgt := 56) hx hb dX8_element_39 (by decide) (fun q8 => ?_) (fun q8 => ?_)
      · replace hf := if_f q8 hf
        refine lv_lconst (pc := 56) (v := 0) hx hb dX8_element_56 (by decide) ?_
        have hf := Option.some.inj hf
        subst hf
        exact zk_retl (pc := 57) (ww := [xM M b_isKept b_size b_at b_from b_sort b_fled b_flights b_firstFlight b_bestHarms b_bestRage b_harmed b_raged, xI cy ((M 7)) 8 b_holds, xI cy ((M 8)) 8 b_sizes, xJ cy ((M 9)) 320 b_elements]) C hw hr hQ dX8_element_57
      · replace hf := if_t q8 hf
        refine lv_aload_n (pc := 42) hx hb dX8_element_42 rfl (lv_at hl 0 rfl) ?_
        refine zk_gt (pc := 43) C hw zl_X8_39 0 rfl rfl dX8_element_43 ?_
        refine lv_bipush (pc := 46) (v := 40) hx hb dX8_element_46 (by decide) ?_
        refine lv_iload_n (pc := 48) hx hb dX8_element_48 rfl (lv_at hl 1 rfl) ?_
        refine lv_imul (pc := 49) hx hb dX8_element_49 ?_
        refine lv_iload_n (pc := 50) hx hb dX8_element_50 rfl (lv_at hl 2 rfl) ?_
        refine lv_iadd (pc := 51) hx hb dX8_element_51 ?_
        obtain ⟨q9, hf⟩ := ck hf
        refine zk_lald (pc := 52) C hw 3 rfl q9 dX8_element_52 ?_
        refine lv_goto (pc := 53) (tgt := 57) hx hb dX8_element_53 (by decide) ?_
        have hf := Option.some.inj hf
        subst hf
        exact zk_retl (pc := 57) (ww := [xM M b_isKept b_size b_at b_from b_sort b_fled b_flights b_firstFlight b_bestHarms b_bestRage b_harmed b_raged, xI cy ((M 7)) 8 b_holds, xI cy ((M 8)) 8 b_sizes, xJ cy ((M 9)) 320 b_elements]) C hw hr hQ dX8_element_57
def zf_X8_holds (x1 : Int32) (b_holds : Nat → Int32) : Option (Int32) := (Option.bind (zf_X8_isShelf x1) (fun u1 => (if u1 then (if ix x1 8 then some ((b_holds x1.toNatClampNeg)) else none) else some ((-1 : Int32)))))
abbrev zr_X8_holds : Room := { frames := 2, cells := 0, slots := 0, locals := 45 }
set_option maxHeartbeats 4000000 in
set_option maxRecDepth 100000 in
theorem c_X8_holds (l : Launch) (G : va_G) (cy : Nat → ClassId) (tt : Nat → Nat) (M : Nat → Nat) (b_isKept : Bool) (b_size : Int32) (b_at : Int32) (b_from : Int32) (b_sort : Int32) (b_fled : Bool) (b_flights : Int32) (b_firstFlight : Int32) (b_bestHarms : Int32) (b_bestRage : Int32) (b_harmed : Int64) (b_raged : Int64) (x1 : Int32) (b_holds : Nat → Int32) (res : Int32) (hf : zf_X8_holds x1 b_holds = some res) : zCT l yX8_holds cX8_holds 2 (some .int) zr_X8_holds G cy tt [.ref ((M 0)), .int x1] [xM M b_isKept b_size b_at b_from b_sort b_fled b_flights b_firstFlight b_bestHarms b_bestRage b_harmed b_raged, xI cy ((M 7)) 8 b_holds] (some (.int res)) [xM M b_isKept b_size b_at b_from b_sort b_fled b_flights b_firstFlight b_bestHarms b_bestRage b_harmed b_raged, xI cy ((M 7)) 8 b_holds] := by
  refine zk_start zn_X8 (Nat.le_of_ble_eq_true rfl) ?_
  intro p e s m args below meth c A ls Q C hr hQ hw hl
  have C : zCx p m c s args meth cX8_holds 2 RX8 G cy tt A := C
  have hx := C.1.1
  have hb := C.1.2.1
  have hl : lv_has ls 2 [(0, .ref ((M 0))), (1, .int x1)] := hl
  rw [zf_X8_holds] at hf
  refine lv_iload_n (pc := 0) hx hb dX8_holds_0 rfl (lv_at hl 1 rfl) ?_
  obtain ⟨u1, u1e, hf⟩ := bd hf
  refine zk_cS (pc := 1) (rest := []) (st1 := [.int (bI u1)]) (w' := [xM M b_isKept b_size b_at b_from b_sort b_fled b_flights b_firstFlight b_bestHarms b_bestRage b_harmed b_raged, xI cy ((M 7)) 8 b_holds]) (mk := [none, none]) C hw (c_X8_isShelf l G cy tt x1 _ u1e) zy_X8_isShelf zm_X8_200 [] rfl rfl rfl rfl rfl rfl rfl rfl hl.1 ⟨rfl, rfl⟩ ⟨Nat.le_of_ble_eq_true rfl, Nat.le_of_ble_eq_true rfl⟩ rfl (Nat.le_of_ble_eq_true rfl) ⟨Nat.zero_le _, Nat.zero_le _⟩ dX8_holds_1 (fun H locs hw => ?_)
  refine zk_ifz (pc := 4) (tgt := 16) hx hb dX8_holds_4 (by decide) (fun q2 => ?_) (fun q2 => ?_)
  · replace hf := if_f q2 hf
    refine lv_iconst (pc := 16) (v := -1) hx hb dX8_holds_16 (by decide) ?_
    have hf := Option.some.inj hf
    subst hf
    exact zk_reti (pc := 17) (ww := [xM M b_isKept b_size b_at b_from b_sort b_fled b_flights b_firstFlight b_bestHarms b_bestRage b_harmed b_raged, xI cy ((M 7)) 8 b_holds]) C hw hr hQ dX8_holds_17
  · replace hf := if_t q2 hf
    refine lv_aload_n (pc := 7) hx hb dX8_holds_7 rfl (lv_at hl 0 rfl) ?_
    refine zk_gt (pc := 8) C hw zl_X8_33 0 rfl rfl dX8_holds_8 ?_
    refine lv_iload_n (pc := 11) hx hb dX8_holds_11 rfl (lv_at hl 1 rfl) ?_
    obtain ⟨q3, hf⟩ := ck hf
    refine zk_iald (pc := 12) C hw 1 rfl q3 dX8_holds_12 ?_
    refine lv_goto (pc := 13) (tgt := 17) hx hb dX8_holds_13 (by decide) ?_
    have hf := Option.some.inj hf
    subst hf
    exact zk_reti (pc := 17) (ww := [xM M b_isKept b_size b_at b_from b_sort b_fled b_flights b_firstFlight b_bestHarms b_bestRage b_harmed b_raged, xI cy ((M 7)) 8 b_holds]) C hw hr hQ dX8_holds_17
