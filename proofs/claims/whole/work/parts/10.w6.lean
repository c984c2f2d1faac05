def zf_X8_show_21 (b_now : Nat → Int32) (b_refused : Nat → Int32) (b_holds : Nat → Int32) : Option (Int32 × (Nat → Int32) × (Nat → Int32)) := (Option.bind (zf_X8_refuse (((-2 : Int32))) b_refused) (fun u8 => some (u8.1, u8.2, b_holds)))
def zf_X8_show_46 (b_now : Nat → Int32) (t0 : Int32) (t1 : Int32) (b_refused : Nat → Int32) (b_holds : Nat → Int32) : Option (Int32 × (Nat → Int32) × (Nat → Int32)) := (if ix t1 8 then some ((1 : Int32), b_refused, (upd b_holds t1.toNatClampNeg t0)) else none)
def zf_X8_show_28 (b_now : Nat → Int32) (v1 : Int32) (v2 : Int32) (b_refused : Nat → Int32) (b_holds : Nat → Int32) : Option (Int32 × (Nat → Int32) × (Nat → Int32)) := (if v2 = (-1 : Int32) then zf_X8_show_46 b_now ((-1 : Int32)) v1 b_refused b_holds else zf_X8_show_46 b_now (((10 : Int32) + v2)) v1 b_refused b_holds)
def zf_X8_show (x1 : Int32) (x2 : Int32) (b_refused : Nat → Int32) (b_now : Nat → Int32) (b_holds : Nat → Int32) : Option (Int32 × (Nat → Int32) × (Nat → Int32)) := (Option.bind (zf_X8_isShelf x1) (fun u1 => (if u1 then (if x2 = (-1 : Int32) then zf_X8_show_28 b_now x1 x2 b_refused b_holds else (Option.bind (zf_X8_isKeeper x2.toInt64 b_now) (fun u4 => (if u4 then zf_X8_show_28 b_now x1 x2 b_refused b_holds else zf_X8_show_21 b_now b_refused b_holds)))) else zf_X8_show_21 b_now b_refused b_holds)))
abbrev zr_X8_show : Room := { frames := 2, cells := 0, slots := 0, locals := 47 }
set_option maxHeartbeats 4000000 in
set_option maxRecDepth 100000 in
theorem c_X8_show (l : Launch) (G : va_G) (cy : Nat → ClassId) (tt : Nat → Nat) (M : Nat → Nat) (b_isKept : Bool) (b_size : Int32) (b_at : Int32) (b_from : Int32) (b_sort : Int32) (b_fled : Bool) (b_flights : Int32) (b_firstFlight : Int32) (b_bestHarms : Int32) (b_bestRage : Int32) (b_harmed : Int64) (b_raged : Int64) (x1 : Int32) (x2 : Int32) (b_refused : Nat → Int32) (b_now : Nat → Int32) (b_holds : Nat → Int32) (res : Int32 × (Nat → Int32) × (Nat → Int32)) (hf : zf_X8_show x1 x2 b_refused b_now b_holds = some res) : zCT l yX8_show cX8_show 3 (some .int) zr_X8_show G cy tt [.ref ((M 0)), .int x1, .int x2] [xM M b_isKept b_size b_at b_from b_sort b_fled b_flights b_firstFlight b_bestHarms b_bestRage b_harmed b_raged, xI cy ((M 1)) 7 b_refused, xI cy ((M 2)) 39 b_now, xI cy ((M 7)) 8 b_holds] (some (.int res.1)) [xM M b_isKept b_size b_at b_from b_sort b_fled b_flights b_firstFlight b_bestHarms b_bestRage b_harmed b_raged, xI cy ((M 1)) 7 res.2.1, xI cy ((M 2)) 39 b_now, xI cy ((M 7)) 8 res.2.2] := by
  refine zk_start zn_X8 (Nat.le_of_ble_eq_true rfl) ?_
  intro p e s m args below meth c A ls Q C hr hQ hw hl
  have C : zCx p m c s args meth cX8_show 3 RX8 G cy tt A := C
  have hx := C.1.1
  have hb := C.1.2.1
  have hl : lv_has ls 3 [(0, .ref ((M 0))), (1, .int x1), (2, .int x2)] := hl
  have J21 : ∀ (b_refused : Nat → Int32) (b_holds : Nat → Int32) (H : Heap) (locs : List Loc) (ls : Array Slot), zf_X8_show_21 b_now b_refused b_holds = some res → zWd G A s.heap H locs [xM M b_isKept b_size b_at b_from b_sort b_fled b_flights b_firstFlight b_bestHarms b_bestRage b_harmed b_raged, xI cy ((M 1)) 7 b_refused, xI cy ((M 2)) 39 b_now, xI cy ((M 7)) 8 b_holds] → lv_has ls 3 [(0, .ref ((M 0)))] → W p l e zr_X8_show s m args below meth c H locs 0 0 Q (F0 m 21 ls []) := by
    intro b_refused b_holds H locs ls hf hw hl
    rw [zf_X8_show_21] at hf
    refine lv_aload_n (pc := 21) hx hb dX8_show_21 rfl (lv_at hl 0 rfl) ?_
    refine lv_bipush (pc := 22) (v := -2) hx hb dX8_show_22 (by decide) ?_
    obtain ⟨u8, u8e, hf⟩ := bd hf
    refine zk_cV (pc := 24) (ci := 8) (q0 := 0) (rest := []) (st1 := [.int u8.1]) (w' := [xM M b_isKept b_size b_at b_from b_sort b_fled b_flights b_firstFlight b_bestHarms b_bestRage b_harmed b_raged, xI cy ((M 1)) 7 u8.2, xI cy ((M 2)) 39 b_now, xI cy ((M 7)) 8 b_holds]) (mk := [none, some (xI cy ((M 1)) 7 u8.2), none, none]) C hw (c_X8_refuse l G cy tt M b_isKept b_size b_at b_from b_sort b_fled b_flights b_firstFlight b_bestHarms b_bestRage b_harmed b_raged (((-2 : Int32))) b_refused _ u8e) zy_X8_refuse zm_X8_90 rfl rfl rfl [0, 1] rfl rfl rfl rfl rfl rfl rfl rfl hl.1 ⟨rfl, rfl⟩ ⟨Nat.le_of_ble_eq_true rfl, Nat.le_of_ble_eq_true rfl⟩ rfl (Nat.le_of_ble_eq_true rfl) ⟨Nat.zero_le _, Nat.zero_le _⟩ dX8_show_24 (fun H locs hw => ?_)
    have hf := Option.some.inj hf
    subst hf
    exact zk_reti (pc := 27) (ww := [xM M b_isKept b_size b_at b_from b_sort b_fled b_flights b_firstFlight b_bestHarms b_bestRage b_harmed b_raged, xI cy ((M 1)) 7 u8.2, xI cy ((M 2)) 39 b_now, xI cy ((M 7)) 8 b_holds]) C hw hr hQ dX8_show_27
  have J46 : ∀ (t0 : Int32) (t1 : Int32) (b_refused : Nat → Int32) (b_holds : Nat → Int32) (H : Heap) (locs : List Loc) (ls : Array Slot), zf_X8_show_46 b_now t0 t1 b_refused b_holds = some res → zWd G A s.heap H locs [xM M b_isKept b_size b_at b_from b_sort b_fled b_flights b_firstFlight b_bestHarms b_bestRage b_harmed b_raged, xI cy ((M 1)) 7 b_refused, xI cy ((M 2)) 39 b_now, xI cy ((M 7)) 8 b_holds] → lv_has ls 3 [] → W p l e zr_X8_show s m args below meth c H locs 0 0 Q (F0 m 46 ls [.int t0, .int t1, .ref ((M 7))]) := by
    intro t0 t1 b_refused b_holds H locs ls hf hw hl
    rw [zf_X8_show_46] at hf
    obtain ⟨q7, hf⟩ := ck hf
    refine zk_iast (pc := 46) (w' := [xM M b_isKept b_size b_at b_from b_sort b_fled b_flights b_firstFlight b_bestHarms b_bestRage b_harmed b_raged, xI cy ((M 1)) 7 b_refused, xI cy ((M 2)) 39 b_now, xI cy ((M 7)) 8 ((upd b_holds t1.toNatClampNeg t0))]) C hw 3 rfl q7 rfl dX8_show_46 (fun H locs hw => ?_)
    refine lv_iconst (pc := 47) (v := 1) hx hb dX8_show_47 (by decide) ?_
    have hf := Option.some.inj hf
    subst hf
    exact zk_reti (pc := 48) (ww := [xM M b_isKept b_size b_at b_from b_sort b_fled b_flights b_firstFlight b_bestHarms b_bestRage b_harmed b_raged, xI cy ((M 1)) 7 b_refused, xI cy ((M 2)) 39 b_now, xI cy ((M 7)) 8 ((upd b_holds t1.toNatClampNeg t0))]) C hw hr hQ dX8_show_48
  have J28 : ∀ (v1 : Int32) (v2 : Int32) (b_refused : Nat → Int32) (b_holds : Nat → Int32) (H : Heap) (locs : List Loc) (ls : Array Slot), zf_X8_show_28 b_now v1 v2 b_refused b_holds = some res → zWd G A s.heap H locs [xM M b_isKept b_size b_at b_from b_sort b_fled b_flights b_firstFlight b_bestHarms b_bestRage b_harmed b_raged, xI cy ((M 1)) 7 b_refused, xI cy ((M 2)) 39 b_now, xI cy ((M 7)) 8 b_holds] → lv_has ls 3 [(0, .ref ((M 0))), (1, .int v1), (2, .int v2)] → W p l e zr_X8_show s m args below meth c H locs 0 0 Q (F0 m 28 ls []) := by
    intro v1 v2 b_refused b_holds H locs ls hf hw hl
    rw [zf_X8_show_28] at hf
    refine lv_aload_n (pc := 28) hx hb dX8_show_28 rfl (lv_at hl 0 rfl) ?_
    refine zk_gt (pc := 29) C hw zl_X8_33 0 rfl rfl dX8_show_29 ?_
    refine lv_iload_n (pc := 32) hx hb dX8_show_32 rfl (lv_at hl 1 rfl) ?_
    refine lv_iload_n (pc := 33) hx hb dX8_show_33 rfl (lv_at hl 2 rfl) ?_
    refine lv_iconst (pc := 34) (v := -1) hx hb dX8_show_34 (by decide) ?_
    refine lv_icmp_ne (pc := 35) (tgt := 42) hx hb dX8_show_35 (by decide) (fun q6 => ?_) (fun q6 => ?_)
    · replace hf := if_f q6 hf
      refine lv_bipush (pc := 42) (v := 10) hx hb dX8_show_42 (by decide) ?_
      refine lv_iload_n (pc := 44) hx hb dX8_show_44 rfl (lv_at hl 2 rfl) ?_
      refine lv_iadd (pc := 45) hx hb dX8_show_45 ?_
      exact J46 (((10 : Int32) + v2)) v1 b_refused b_holds _ _ _ hf hw (lv_sub hl [] rfl)
    · replace hf := if_t q6 hf
      refine lv_iconst (pc := 38) (v := -1) hx hb dX8_show_38 (by decide) ?_
      refine lv_goto (pc := 39) (tgt := 46) hx hb dX8_show_39 (by decide) ?_
      exact J46 ((-1 : Int32)) v1 b_refused b_holds _ _ _ hf hw (lv_sub hl [] rfl)
  rw [zf_X8_show] at hf
  refine lv_iload_n (pc := 0) hx hb dX8_show_0 rfl (lv_at hl 1 rfl) ?_
  obtain ⟨u1, u1e, hf⟩ := bd hf
  refine zk_cS (pc := 1) (rest := []) (st1 := [.int (bI u1)]) (w' := [xM M b_isKept b_size b_at b_from b_sort b_fled b_flights b_firstFlight b_bestHarms b_bestRage b_harmed b_raged, xI cy ((M 1)) 7 b_refused, xI cy ((M 2)) 39 b_now, xI cy ((M 7)) 8 b_holds]) (mk := [none, none, none, none]) C hw (c_X8_isShelf l G cy tt x1 _ u1e) zy_X8_isShelf zm_X8_200 [] rfl rfl rfl rfl rfl rfl rfl rfl hl.1 ⟨rfl, rfl⟩ ⟨Nat.le_of_ble_eq_true rfl, Nat.le_of_ble_eq_true rfl⟩ rfl (Nat.le_of_ble_eq_true rfl) ⟨Nat.zero_le _, Nat.zero_le _⟩ dX8_show_1 (fun H locs hw => ?_)
  refine zk_ifz (pc := 4) (tgt := 21) hx hb dX8_show_4 (by decide) (fun q2 => ?_) (fun q2 => ?_)
  · replace hf := if_f q2 hf
    exact J21 b_refused b_holds _ _ _ hf hw (lv_sub hl [0] rfl)
  · replace hf := if_t q2 hf
    refine lv_iload_n (pc := 7) hx hb dX8_show_7 rfl (lv_at hl 2 rfl) ?_
    refine lv_iconst (pc := 8) (v := -1) hx hb dX8_show_8 (by decide) ?_
    refine lv_icmp_eq (pc := 9) (tgt := 28) hx hb dX8_show_9 (by decide) (fun q3 => ?_) (fun q3 => ?_)
    · replace hf := if_t q3 hf
      exact J28 x1 x2 b_refused b_holds _ _ _ hf hw (lv_sub hl [0, 1, 2] rfl)
    · replace hf := if_f q3 hf
      refine lv_aload_n (pc := 12) hx hb dX8_show_12 rfl (lv_at hl 0 rfl) ?_
      refine lv_iload_n (pc := 13) hx hb dX8_show_13 rfl (lv_at hl 2 rfl) ?_
      refine lv_i2l (pc := 14) (v := x2.toInt64) hx hb dX8_show_14 rfl ?_
      obtain ⟨u4, u4e, hf⟩ := bd hf
      refine zk_cV (pc := 15) (ci := 8) (q0 := 0) (rest := []) (st1 := [.int (bI u4)]) (w' := [xM M b_isKept b_size b_at b_from b_sort b_fled b_flights b_firstFlight b_bestHarms b_bestRage b_harmed b_raged, xI cy ((M 1)) 7 b_refused, xI cy ((M 2)) 39 b_now, xI cy ((M 7)) 8 b_holds]) (mk := [none, none, none, none]) C hw (c_X8_isKeeper l G cy tt M b_isKept b_size b_at b_from b_sort b_fled b_flights b_firstFlight b_bestHarms b_bestRage b_harmed b_raged x2.toInt64 b_now _ u4e) zy_X8_isKeeper zm_X8_76 rfl rfl rfl [0, 2] rfl rfl rfl rfl rfl rfl rfl rfl hl.1 ⟨rfl, rfl⟩ ⟨Nat.le_of_ble_eq_true rfl, Nat.le_of_ble_eq_true rfl⟩ rfl (Nat.le_of_ble_eq_true rfl) ⟨Nat.zero_le _, Nat.zero_le _⟩ dX8_show_15 (fun H locs hw => ?_)
      refine zk_ifnz (pc := 18) (tgt := 28) hx hb dX8_show_18 (by decide) (fun q5 => ?_) (fun q5 => ?_)
      · replace hf := if_t q5 hf
        exact J28 x1 x2 b_refused b_holds _ _ _ hf hw (lv_sub hl [0, 1, 2] rfl)
      · replace hf := if_f q5 hf
        exact J21 b_refused b_holds _ _ _ hf hw (lv_sub hl [0] rfl)
def zf_X8_says_19 (b_now : Nat → Int32) (b_holds : Nat → Int32) (b_above : Nat → Int32) (b_refused : Nat → Int32) : Option (Int32 × (Nat → Int32)) := (Option.bind (zf_X8_refuse (((-2 : Int32))) b_refused) (fun u20 => some (u20.1, u20.2)))
def zf_X8_says_92 (b_now : Nat → Int32) (b_holds : Nat → Int32) (b_above : Nat → Int32) (v2 : Int32) (v3 : Int32) (v4 : Int32) (b_refused : Nat → Int32) : Option (Int32 × (Nat → Int32)) := (if v4 = (-1 : Int32) then (Option.bind (zf_X8_refuse (((-3 : Int32))) b_refused) (fun u19 => some (u19.1, u19.2))) else (if v2 = 0 then (Option.bind (zf_X8_nerveOf v3 b_now) (fun u18 => some (u18, b_refused))) else (Option.bind (zf_X8_soothes v3 b_now) (fun u16 => (Option.bind (zf_X8_bound ((((b_now 33) - u16))) (((99 : Int32)))) (fun u17 => some (u17, b_refused)))))))
def zf_X8_says_68 (b_now : Nat → Int32) (b_holds : Nat → Int32) (b_above : Nat → Int32) : Nat → Int32 → Int32 → Int32 → (Nat → Int32) → Option (Int32 × (Nat → Int32))
  | 0, _, _, _, _ => none
  | n + 1, v2, v3, v4, b_refused => (if v4 = (-1 : Int32) then zf_X8_says_92 b_now b_holds b_above v2 v3 v4 b_refused else (if v4 = v2 then zf_X8_says_92 b_now b_holds b_above v2 v3 v4 b_refused else (if ix v4 6 then zf_X8_says_68 b_now b_holds b_above n v2 v3 ((b_above v4.toNatClampNeg)) b_refused else none)))
def zf_X8_says_66 (b_now : Nat → Int32) (b_holds : Nat → Int32) (b_above : Nat → Int32) (v2 : Int32) (v3 : Int32) (t0 : Int32) (b_refused : Nat → Int32) : Option (Int32 × (Nat → Int32)) := zf_X8_says_68 b_now b_holds b_above FU v2 v3 t0 b_refused
def zf_X8_says (x1 : Int32) (x2 : Int32) (b_refused : Nat → Int32) (b_now : Nat → Int32) (b_holds : Nat → Int32) (b_above : Nat → Int32) : Option (Int32 × (Nat → Int32)) := (Option.bind (zf_X8_isShelf x1) (fun u1 => (if u1 then (Option.bind (zf_X8_isIn x2.toInt64 (((0 : Int64))) (((5 : Int64)))) (fun u3 => (if u3 then (if ix x1 8 then (if (b_holds x1.toNatClampNeg) = (-1 : Int32) then (Option.bind (zf_X8_refuse (((-4 : Int32))) b_refused) (fun u10 => some (u10.1, u10.2))) else (if ix x1 8 then (if 0 ≤ ((b_holds x1.toNatClampNeg) - (10 : Int32)) then (Option.bind (zf_X8_kind ((((b_holds x1.toNatClampNeg) - (10 : Int32)))) b_now) (fun u9 => zf_X8_says_66 b_now b_holds b_above x2 (((b_holds x1.toNatClampNeg) - (10 : Int32))) u9 b_refused)) else zf_X8_says_66 b_now b_holds b_above x2 (((b_holds x1.toNatClampNeg) - (10 : Int32))) ((-1 : Int32)) b_refused) else none)) else none) else zf_X8_says_19 b_now b_holds b_above b_refused))) else zf_X8_says_19 b_now b_holds b_above b_refused)))
abbrev zr_X8_says : Room := { frames := 2, cells := 0, slots := 0, locals := 45 }
set_option maxHeartbeats 4000000 in
set_option maxRecDepth 100000 in
theorem c_X8_says (l : Launch) (G : va_G) (cy : Nat → ClassId) (tt : Nat → Nat) (M : Nat → Nat) (b_isKept : Bool) (b_size : Int32) (b_at : Int32) (b_from : Int32) (b_sort : Int32) (b_fled : Bool) (b_flights : Int32) (b_firstFlight : Int32) (b_bestHarms : Int32) (b_bestRage : Int32) (b_harmed : Int64) (b_raged : Int64) (x1 : Int32) (x2 : Int32) (b_refused : Nat → Int32) (b_now : Nat → Int32) (b_holds : Nat → Int32) (b_above : Nat → Int32) (res : Int32 × (Nat → Int32)) (hf : zf_X8_says x1 x2 b_refused b_now b_holds b_above = some res) : zCT l yX8_says cX8_says 5 (some .int) zr_X8_says G cy tt [.ref ((M 0)), .int x1, .int x2] [xM M b_isKept b_size b_at b_from b_sort b_fled b_flights b_firstFlight b_bestHarms b_bestRage b_harmed b_raged, xI cy ((M 1)) 7 b_refused, xI cy ((M 2)) 39 b_now, xI cy ((M 7)) 8 b_holds, xI cy ((M 11)) 6 b_above] (some (.int res.1)) [xM M b_isKept b_size b_at b_from b_sort b_fled b_flights b_firstFlight b_bestHarms b_bestRage b_harmed b_raged, xI cy ((M 1)) 7 res.2, xI cy ((M 2)) 39 b_now, xI cy ((M 7)) 8 b_holds, xI cy ((M 11)) 6 b_above] := by
  refine zk_start zn_X8 (Nat.le_of_ble_eq_true rfl) ?_
  intro p e s m args below meth c A ls Q C hr hQ hw hl
  have C : zCx p m c s args meth cX8_says 5 RX8 G cy tt A := C
  have hx := C.1.1
  have hb := C.1.2.1
  have hl : lv_has ls 5 [(0, .ref ((M 0))), (1, .int x1), (2, .int x2)] := hl
  have J19 : ∀ (b_refused : Nat → Int32) (H : Heap) (locs : List Loc) (ls : Array Slot), zf_X8_says_19 b_now b_holds b_above b_refused = some res → zWd G A s.heap H locs [xM M b_isKept b_size b_at b_from b_sort b_fled b_flights b_firstFlight b_bestHarms b_bestRage b_harmed b_raged, xI cy ((M 1)) 7 b_refused, xI cy ((M 2)) 39 b_now, xI cy ((M 7)) 8 b_holds, xI cy ((M 11)) 6 b_above] → lv_has ls 5 [(0, .ref ((M 0)))] → W p l e zr_X8_says s m args below meth c H locs 0 0 Q (F0 m 19 ls []) := by
    intro b_refused H locs ls hf hw hl
    rw [zf_X8_says_19] at hf
    refine lv_aload_n (pc := 19) hx hb dX8_says_19 rfl (lv_at hl 0 rfl) ?_
    refine lv_bipush (pc := 20) (v := -2) hx hb dX8_says_20 (by decide) ?_
    obtain ⟨u20, u20e, hf⟩ := bd hf
    refine zk_cV (pc := 22) (ci := 8) (q0 := 0) (rest := []) (st1 := [.int u20.1]) (w' := [xM M b_isKept b_size b_at b_from b_sort b_fled b_flights b_firstFlight b_bestHarms b_bestRage b_harmed b_raged, xI cy ((M 1)) 7 u20.2, xI cy ((M 2)) 39 b_now, xI cy ((M 7)) 8 b_holds, xI cy ((M 11)) 6 b_above]) (mk := [none, some (xI cy ((M 1)) 7 u20.2), none, none, none]) C hw (c_X8_refuse l G cy tt M b_isKept b_size b_at b_from b_sort b_fled b_flights b_firstFlight b_bestHarms b_bestRage b_harmed b_raged (((-2 : Int32))) b_refused _ u20e) zy_X8_refuse zm_X8_90 rfl rfl rfl [0, 1] rfl rfl rfl rfl rfl rfl rfl rfl hl.1 ⟨rfl, rfl⟩ ⟨Nat.le_of_ble_eq_true rfl, Nat.le_of_ble_eq_true rfl⟩ rfl (Nat.le_of_ble_eq_true rfl) ⟨Nat.zero_le _, Nat.zero_le _⟩ dX8_says_22 (fun H locs hw => ?_)
    have hf := Option.some.inj hf
    subst hf
    exact zk_reti (pc := 25) (ww := [xM M b_isKept b_size b_at b_from b_sort b_fled b_flights b_firstFlight b_bestHarms b_bestRage b_harmed b_raged, xI cy ((M 1)) 7 u20.2, xI cy ((M 2)) 39 b_now, xI cy ((M 7)) 8 b_holds, xI cy ((M 11)) 6 b_above]) C hw hr hQ dX8_says_25
  have J92 : ∀ (v2 : Int32) (v3 : Int32) (v4 : Int32) (b_refused : Nat → Int32) (H : Heap) (locs : List Loc) (ls : Array Slot), zf_X8_says_92 b_now b_holds b_above v2 v3 v4 b_refused = some res → zWd G A s.heap H locs [xM M b_isKept b_size b_at b_from b_sort b_fled b_flights b_firstFlight b_bestHarms b_bestRage b_harmed b_raged, xI cy ((M 1)) 7 b_refused, xI cy ((M 2)) 39 b_now, xI cy ((M 7)) 8 b_holds, xI cy ((M 11)) 6 b_above] → lv_has ls 5 [(0, .ref ((M 0))), (2, .int v2), (3, .int v3), (4, .int v4)] → W p l e zr_X8_says s m args below meth c H locs 0 0 Q (F0 m 92 ls []) := by
    intro v2 v3 v4 b_refused H locs ls hf hw hl
    rw [zf_X8_says_92] at hf
    refine lv_iload (pc := 92) hx hb dX8_says_92 (lv_at hl 3 rfl) ?_
    refine lv_iconst (pc := 94) (v := -1) hx hb dX8_says_94 (by decide) ?_
    refine lv_icmp_ne (pc := 95) (tgt := 107) hx hb dX8_says_95 (by decide) (fun q14 => ?_) (fun q14 => ?_)
    · replace hf := if_f q14 hf
      refine lv_iload_n (pc := 107) hx hb dX8_says_107 rfl (lv_at hl 1 rfl) ?_
      refine lv_if_ne (pc := 108) (tgt := 119) hx hb dX8_says_108 (by decide) (fun q15 => ?_) (fun q15 => ?_)
      · replace hf := if_f q15 hf
        refine lv_aload_n (pc := 119) hx hb dX8_says_119 rfl (lv_at hl 0 rfl) ?_
        refine zk_gt (pc := 120) C hw zl_X8_17 0 rfl rfl dX8_says_120 ?_
        refine lv_bipush (pc := 123) (v := 33) hx hb dX8_says_123 (by decide) ?_
        refine zk_ialdK (pc := 125) 33 (by decide) C hw 2 rfl (by decide) dX8_says_125 ?_
        refine lv_aload_n (pc := 126) hx hb dX8_says_126 rfl (lv_at hl 0 rfl) ?_
        refine lv_iload_n (pc := 127) hx hb dX8_says_127 rfl (lv_at hl 2 rfl) ?_
        obtain ⟨u16, u16e, hf⟩ := bd hf
        refine zk_cV (pc := 128) (ci := 8) (q0 := 0) (rest := [.int ((b_now 33))]) (st1 := [.int u16, .int ((b_now 33))]) (w' := [xM M b_isKept b_size b_at b_from b_sort b_fled b_flights b_firstFlight b_bestHarms b_bestRage b_harmed b_raged, xI cy ((M 1)) 7 b_refused, xI cy ((M 2)) 39 b_now, xI cy ((M 7)) 8 b_holds, xI cy ((M 11)) 6 b_above]) (mk := [none, none, none, none, none]) C hw (c_X8_soothes l G cy tt M b_isKept b_size b_at b_from b_sort b_fled b_flights b_firstFlight b_bestHarms b_bestRage b_harmed b_raged v3 b_now _ u16e) zy_X8_soothes zm_X8_170 rfl rfl rfl [0, 2] rfl rfl rfl rfl rfl rfl rfl rfl hl.1 ⟨rfl, rfl⟩ ⟨Nat.le_of_ble_eq_true rfl, Nat.le_of_ble_eq_true rfl⟩ rfl (Nat.le_of_ble_eq_true rfl) ⟨Nat.zero_le _, Nat.zero_le _⟩ dX8_says_128 (fun H locs hw => ?_)
        refine lv_isub (pc := 131) hx hb dX8_says_131 ?_
        refine lv_bipush (pc := 132) (v := 99) hx hb dX8_says_132 (by decide) ?_
        obtain ⟨u17, u17e, hf⟩ := bd hf
        refine zk_cS (pc := 134) (rest := []) (st1 := [.int u17]) (w' := [xM M b_isKept b_size b_at b_from b_sort b_fled b_flights b_firstFlight b_bestHarms b_bestRage b_harmed b_raged, xI cy ((M 1)) 7 b_refused, xI cy ((M 2)) 39 b_now, xI cy ((M 7)) 8 b_holds, xI cy ((M 11)) 6 b_above]) (mk := [none, none, none, none, none]) C hw (c_X8_bound l G cy tt ((((b_now 33) - u16))) (((99 : Int32))) _ u17e) zy_X8_bound zm_X8_173 [] rfl rfl rfl rfl rfl rfl rfl rfl hl.1 ⟨rfl, rfl⟩ ⟨Nat.le_of_ble_eq_true rfl, Nat.le_of_ble_eq_true rfl⟩ rfl (Nat.le_of_ble_eq_true rfl) ⟨Nat.zero_le _, Nat.zero_le _⟩ dX8_says_134 (fun H locs hw => ?_)
        have hf := Option.some.inj hf
        subst hf
        exact zk_reti (pc := 137) (ww := [xM M b_isKept b_size b_at b_from b_sort b_fled b_flights b_firstFlight b_bestHarms b_bestRage b_harmed b_raged, xI cy ((M 1)) 7 b_refused, xI cy ((M 2)) 39 b_now, xI cy ((M 7)) 8 b_holds, xI cy ((M 11)) 6 b_above]) C hw hr hQ dX8_says_137
      · replace hf := if_t q15 hf
        refine lv_aload_n (pc := 111) hx hb dX8_says_111 rfl (lv_at hl 0 rfl) ?_
        refine lv_iload_n (pc := 112) hx hb dX8_says_112 rfl (lv_at hl 2 rfl) ?_
        obtain ⟨u18, u18e, hf⟩ := bd hf
        refine zk_cV (pc := 113) (ci := 8) (q0 := 0) (rest := []) (st1 := [.int u18]) (w' := [xM M b_isKept b_size b_at b_from b_sort b_fled b_flights b_firstFlight b_bestHarms b_bestRage b_harmed b_raged, xI cy ((M 1)) 7 b_refused, xI cy ((M 2)) 39 b_now, xI cy ((M 7)) 8 b_holds, xI cy ((M 11)) 6 b_above]) (mk := [none, none, none, none, none]) C hw (c_X8_nerveOf l G cy tt M b_isKept b_size b_at b_from b_sort b_fled b_flights b_firstFlight b_bestHarms b_bestRage b_harmed b_raged v3 b_now _ u18e) zy_X8_nerveOf zm_X8_98 rfl rfl rfl [0, 2] rfl rfl rfl rfl rfl rfl rfl rfl hl.1 ⟨rfl, rfl⟩ ⟨Nat.le_of_ble_eq_true rfl, Nat.le_of_ble_eq_true rfl⟩ rfl (Nat.le_of_ble_eq_true rfl) ⟨Nat.zero_le _, Nat.zero_le _⟩ dX8_says_113 (fun H locs hw => ?_)
        refine lv_goto (pc := 116) (tgt := 137) hx hb dX8_says_116 (by decide) ?_
        have hf := Option.some.inj hf
        subst hf
        exact zk_reti (pc := 137) (ww := [xM M b_isKept b_size b_at b_from b_sort b_fled b_flights b_firstFlight b_bestHarms b_bestRage b_harmed b_raged, xI cy ((M 1)) 7 b_refused, xI cy ((M 2)) 39 b_now, xI cy ((M 7)) 8 b_holds, xI cy ((M 11)) 6 b_above]) C hw hr hQ dX8_says_137
    · replace hf := if_t q14 hf
      refine lv_aload_n (pc := 98) hx hb dX8_says_98 rfl (lv_at hl 0 rfl) ?_
      refine lv_bipush (pc := 99) (v := -3) hx hb dX8_says_99 (by decide) ?_
      obtain ⟨u19, u19e, hf⟩ := bd hf
      refine zk_cV (pc := 101) (ci := 8) (q0 := 0) (rest := []) (st1 := [.int u19.1]) (w' := [xM M b_isKept b_size b_at b_from b_sort b_fled b_flights b_firstFlight b_bestHarms b_bestRage b_harmed b_raged, xI cy ((M 1)) 7 u19.2, xI cy ((M 2)) 39 b_now, xI cy ((M 7)) 8 b_holds, xI cy ((M 11)) 6 b_above]) (mk := [none, some (xI cy ((M 1)) 7 u19.2), none, none, none]) C hw (c_X8_refuse l G cy tt M b_isKept b_size b_at b_from b_sort b_fled b_flights b_firstFlight b_bestHarms b_bestRage b_harmed b_raged (((-3 : Int32))) b_refused _ u19e) zy_X8_refuse zm_X8_90 rfl rfl rfl [0, 1] rfl rfl rfl rfl rfl rfl rfl rfl hl.1 ⟨rfl, rfl⟩ ⟨Nat.le_of_ble_eq_true rfl, Nat.le_of_ble_eq_true rfl⟩ rfl (Nat.le_of_ble_eq_true rfl) ⟨Nat.zero_le _, Nat.zero_le _⟩ dX8_says_101 (fun H locs hw => ?_)
      refine lv_goto (pc := 104) (tgt := 137) hx hb dX8_says_104 (by decide) ?_
      have hf := Option.some.inj hf
      subst hf
      exact zk_reti (pc := 137) (ww := [xM M b_isKept b_size b_at b_from b_sort b_fled b_flights b_firstFlight b_bestHarms b_bestRage b_harmed b_raged, xI cy ((M 1)) 7 u19.2, xI cy ((M 2)) 39 b_now, xI cy ((M 7)) 8 b_holds, xI cy ((M 11)) 6 b_above]) C hw hr hQ dX8_says_137
  have J68 : ∀ (n : Nat), ∀ (v2 : Int32) (v3 : Int32) (v4 : Int32) (b_refused : Nat → Int32) (H : Heap) (locs : List Loc) (ls : Array Slot), zf_X8_says_68 b_now b_holds b_above n v2 v3 v4 b_refused = some res → zWd G A s.heap H locs [xM M b_isKept b_size b_at b_from b_sort b_fled b_flights b_firstFlight b_bestHarms b_bestRage b_harmed b_raged, xI cy ((M 1)) 7 b_refused, xI cy ((M 2)) 39 b_now, xI cy ((M 7)) 8 b_holds, xI cy ((M 11)) 6 b_above] → lv_has ls 5 [(0, .ref ((M 0))), (2, .int v2), (3, .int v3), (4, .int v4)] → W p l e zr_X8_says s m args below meth c H locs 0 0 Q (F0 m 68 ls []) := by
    intro n
    induction n with
    | zero =>
      intro v2 v3 v4 b_refused H locs ls hf hw hl
      rw [zf_X8_says_68] at hf
      cases hf
    | succ n ih =>
      intro v2 v3 v4 b_refused H locs ls hf hw hl
      rw [zf_X8_says_68] at hf
      refine lv_iload (pc := 68) hx hb dX8_says_68 (lv_at hl 3 rfl) ?_
      refine lv_iconst (pc := 70) (v := -1) hx hb dX8_says_70 (by decide) ?_
      refine lv_icmp_eq (pc := 71) (tgt := 92) hx hb dX8_says_71 (by decide) (fun q11 => ?_) (fun q11 => ?_)
      · replace hf := if_t q11 hf
        exact J92 v2 v3 v4 b_refused _ _ _ hf hw (lv_sub hl [0, 1, 2, 3] rfl)
      · replace hf := if_f q11 hf
        refine lv_iload (pc := 74) hx hb dX8_says_74 (lv_at hl 3 rfl) ?_
        refine lv_iload_n (pc := 76) hx hb dX8_says_76 rfl (lv_at hl 1 rfl) ?_
        refine lv_icmp_eq (pc := 77) (tgt := 92) hx hb dX8_says_77 (by decide) (fun q12 => ?_) (fun q12 => ?_)
        · replace hf := if_t q12 hf
          exact J92 v2 v3 v4 b_refused _ _ _ hf hw (lv_sub hl [0, 1, 2, 3] rfl)
        · replace hf := if_f q12 hf
          refine lv_aload_n (pc := 80) hx hb dX8_says_80 rfl (lv_at hl 0 rfl) ?_
          refine zk_gt (pc := 81) C hw zl_X8_46 0 rfl rfl dX8_says_81 ?_
          refine lv_iload (pc := 84) hx hb dX8_says_84 (lv_at hl 3 rfl) ?_
          obtain ⟨q13, hf⟩ := ck hf
          refine zk_iald (pc := 86) C hw 4 rfl q13 dX8_says_86 ?_
          refine lv_istore (pc := 87) (lv' := [(4, .int ((b_above v4.toNatClampNeg))), (0, .ref ((M 0))), (2, .int v2), (3, .int v3)]) hx hb dX8_says_87 hl (by decide) rfl (fun ls hl => ?_)
          refine lv_goto (pc := 89) (tgt := 68) hx hb dX8_says_89 (by decide) ?_
          exact ih v2 v3 ((b_above v4.toNatClampNeg)) b_refused _ _ _ hf hw (lv_sub hl [1, 2, 3, 0] rfl)
  have J66 : ∀ (v2 : Int32) (v3 : Int32) (t0 : Int32) (b_refused : Nat → Int32) (H : Heap) (locs : List Loc) (ls : Array Slot), zf_X8_says_66 b_now b_holds b_above v2 v3 t0 b_refused = some res → zWd G A s.heap H locs [xM M b_isKept b_size b_at b_from b_sort b_fled b_flights b_firstFlight b_bestHarms b_bestRage b_harmed b_raged, xI cy ((M 1)) 7 b_refused, xI cy ((M 2)) 39 b_now, xI cy ((M 7)) 8 b_holds, xI cy ((M 11)) 6 b_above] → lv_has ls 5 [(0, .ref ((M 0))), (2, .int v2), (3, .int v3)] → W p l e zr_X8_says s m args below meth c H locs 0 0 Q (F0 m 66 ls [.int t0]) := by
    intro v2 v3 t0 b_refused H locs ls hf hw hl
    rw [zf_X8_says_66] at hf
    refine lv_istore (pc := 66) (lv' := [(4, .int t0), (0, .ref ((M 0))), (2, .int v2), (3, .int v3)]) hx hb dX8_says_66 hl (by decide) rfl (fun ls hl => ?_)
    exact J68 FU v2 v3 t0 b_refused _ _ _ hf hw (lv_sub hl [1, 2, 3, 0] rfl)
  rw [zf_X8_says] at hf
  refine lv_iload_n (pc := 0) hx hb dX8_says_0 rfl (lv_at hl 1 rfl) ?_
  obtain ⟨u1, u1e, hf⟩ := bd hf
  refine zk_cS (pc := 1) (rest := []) (st1 := [.int (bI u1)]) (w' := [xM M b_isKept b_size b_at b_from b_sort b_fled b_flights b_firstFlight b_bestHarms b_bestRage b_harmed b_raged, xI cy ((M 1)) 7 b_refused, xI cy ((M 2)) 39 b_now, xI cy ((M 7)) 8 b_holds, xI cy ((M 11)) 6 b_above]) (mk := [none, none, none, none, none]) C hw (c_X8_isShelf l G cy tt x1 _ u1e) zy_X8_isShelf zm_X8_200 [] rfl rfl rfl rfl rfl rfl rfl rfl hl.1 ⟨rfl, rfl⟩ ⟨Nat.le_of_ble_eq_true rfl, Nat.le_of_ble_eq_true rfl⟩ rfl (Nat.le_of_ble_eq_true rfl) ⟨Nat.zero_le _, Nat.zero_le _⟩ dX8_says_1 (fun H locs hw => ?_)
  refine zk_ifz (pc := 4) (tgt := 19) hx hb dX8_says_4 (by decide) (fun q2 => ?_) (fun q2 => ?_)
  · replace hf := if_f q2 hf
    exact J19 b_refused _ _ _ hf hw (lv_sub hl [0] rfl)
  · replace hf := if_t q2 hf
    refine lv_iload_n (pc := 7) hx hb dX8_says_7 rfl (lv_at hl 2 rfl) ?_
    refine lv_i2l (pc := 8) (v := x2.toInt64) hx hb dX8_says_8 rfl ?_
    refine lv_lconst (pc := 9) (v := 0) hx hb dX8_says_9 (by decide) ?_
    refine lv_ldc2 (pc := 10) (v := 5) hx hb C.1.2.2.2.1 (C.1.2.2.2.2 _ zc_X8_84) dX8_says_10 ?_
    obtain ⟨u3, u3e, hf⟩ := bd hf
    refine zk_cS (pc := 13) (rest := []) (st1 := [.int (bI u3)]) (w' := [xM M b_isKept b_size b_at b_from b_sort b_fled b_flights b_firstFlight b_bestHarms b_bestRage b_harmed b_raged, xI cy ((M 1)) 7 b_refused, xI cy ((M 2)) 39 b_now, xI cy ((M 7)) 8 b_holds, xI cy ((M 11)) 6 b_above]) (mk := [none, none, none, none, none]) C hw (c_X8_isIn l G cy tt x2.toInt64 (((0 : Int64))) (((5 : Int64))) _ u3e) zy_X8_isIn zm_X8_68 [] rfl rfl rfl rfl rfl rfl rfl rfl hl.1 ⟨rfl, rfl⟩ ⟨Nat.le_of_ble_eq_true rfl, Nat.le_of_ble_eq_true rfl⟩ rfl (Nat.le_of_ble_eq_true rfl) ⟨Nat.zero_le _, Nat.zero_le _⟩ dX8_says_13 (fun H locs hw => ?_)
    refine zk_ifnz (pc := 16) (tgt := 26) hx hb dX8_says_16 (by decide) (fun q4 => ?_) (fun q4 => ?_)
    · replace hf := if_t q4 hf
      refine lv_aload_n (pc := 26) hx hb dX8_says_26 rfl (lv_at hl 0 rfl) ?_
      refine zk_gt (pc := 27) C hw zl_X8_33 0 rfl rfl dX8_says_27 ?_
      refine lv_iload_n (pc := 30) hx hb dX8_says_30 rfl (lv_at hl 1 rfl) ?_
      obtain ⟨q5, hf⟩ := ck hf
      refine zk_iald (pc := 31) C hw 3 rfl q5 dX8_says_31 ?_
      refine lv_iconst (pc := 32) (v := -1) hx hb dX8_says_32 (by decide) ?_
      refine lv_icmp_ne (pc := 33) (tgt := 43) hx hb dX8_says_33 (by decide) (fun q6 => ?_) (fun q6 => ?_)
      · replace hf := if_f q6 hf
        refine lv_aload_n (pc := 43) hx hb dX8_says_43 rfl (lv_at hl 0 rfl) ?_
        refine zk_gt (pc := 44) C hw zl_X8_33 0 rfl rfl dX8_says_44 ?_
        refine lv_iload_n (pc := 47) hx hb dX8_says_47 rfl (lv_at hl 1 rfl) ?_
        obtain ⟨q7, hf⟩ := ck hf
        refine zk_iald (pc := 48) C hw 3 rfl q7 dX8_says_48 ?_
        refine lv_bipush (pc := 49) (v := 10) hx hb dX8_says_49 (by decide) ?_
        refine lv_isub (pc := 51) hx hb dX8_says_51 ?_
        refine lv_istore_n (pc := 52) (lv' := [(3, .int (((b_holds x1.toNatClampNeg) - (10 : Int32)))), (0, .ref ((M 0))), (1, .int x1), (2, .int x2)]) hx hb dX8_says_52 rfl hl (by decide) rfl (fun ls hl => ?_)
        refine lv_iload_n (pc := 53) hx hb dX8_says_53 rfl (lv_at hl 0 rfl) ?_
        refine lv_if_ge (pc := 54) (tgt := 61) hx hb dX8_says_54 (by decide) (fun q8 => ?_) (fun q8 => ?_)
        · replace hf := if_t q8 hf
          refine lv_aload_n (pc := 61) hx hb dX8_says_61 rfl (lv_at hl 1 rfl) ?_
          refine lv_iload_n (pc := 62) hx hb dX8_says_62 rfl (lv_at hl 0 rfl) ?_
          obtain ⟨u9, u9e, hf⟩ := bd hf
          refine zk_cV (pc := 63) (ci := 8) (q0 := 0) (rest := []) (st1 := [.int u9]) (w' := [xM M b_isKept b_size b_at b_from b_sort b_fled b_flights b_firstFlight b_bestHarms b_bestRage b_harmed b_raged, xI cy ((M 1)) 7 b_refused, xI cy ((M 2)) 39 b_now, xI cy ((M 7)) 8 b_holds, xI cy ((M 11)) 6 b_above]) (mk := [none, none, none, none, none]) C hw (c_X8_kind l G cy tt M b_isKept b_size b_at b_from b_sort b_fled b_flights b_firstFlight b_bestHarms b_bestRage b_harmed b_raged ((((b_holds x1.toNatClampNeg) - (10 : Int32)))) b_now _ u9e) zy_X8_kind zm_X8_153 rfl rfl rfl [0, 2] rfl rfl rfl rfl rfl rfl rfl rfl hl.1 ⟨rfl, rfl⟩ ⟨Nat.le_of_ble_eq_true rfl, Nat.le_of_ble_eq_true rfl⟩ rfl (Nat.le_of_ble_eq_true rfl) ⟨Nat.zero_le _, Nat.zero_le _⟩ dX8_says_63 (fun H locs hw => ?_)
          exact J66 x2 (((b_holds x1.toNatClampNeg) - (10 : Int32))) u9 b_refused _ _ _ hf hw (lv_sub hl [1, 3, 0] rfl)
        · replace hf := if_f q8 hf
          refine lv_iconst (pc := 57) (v := -1) hx hb dX8_says_57 (by decide) ?_
          refine lv_goto (pc := 58) (tgt := 66) hx hb dX8_says_58 (by decide) ?_
          exact J66 x2 (((b_holds x1.toNatClampNeg) - (10 : Int32))) ((-1 : Int32)) b_refused _ _ _ hf hw (lv_sub hl [1, 3, 0] rfl)
      · replace hf := if_t q6 hf
        refine lv_aload_n (pc := 36) hx hb dX8_says_36 rfl (lv_at hl 0 rfl) ?_
        refine lv_bipush (pc := 37) (v := -4) hx hb dX8_says_37 (by decide) ?_
        obtain ⟨u10, u10e, hf⟩ := bd hf
        refine zk_cV (pc := 39) (ci := 8) (q0 := 0) (rest := []) (st1 := [.int u10.1]) (w' := [xM M b_isKept b_size b_at b_from b_sort b_fled b_flights b_firstFlight b_bestHarms b_bestRage b_harmed b_raged, xI cy ((M 1)) 7 u10.2, xI cy ((M 2)) 39 b_now, xI cy ((M 7)) 8 b_holds, xI cy ((M 11)) 6 b_above]) (mk := [none, some (xI cy ((M 1)) 7 u10.2), none, none, none]) C hw (c_X8_refuse l G cy tt M b_isKept b_size b_at b_from b_sort b_fled b_flights b_firstFlight b_bestHarms b_bestRage b_harmed b_raged (((-4 : Int32))) b_refused _ u10e) zy_X8_refuse zm_X8_90 rfl rfl rfl [0, 1] rfl rfl rfl rfl rfl rfl rfl rfl hl.1 ⟨rfl, rfl⟩ ⟨Nat.le_of_ble_eq_true rfl, Nat.le_of_ble_eq_true rfl⟩ rfl (Nat.le_of_ble_eq_true rfl) ⟨Nat.zero_le _, Nat.zero_le _⟩ dX8_says_39 (fun H locs hw => ?_)
        have hf := Option.some.inj hf
        subst hf
        exact zk_reti (pc := 42) (ww := [xM M b_isKept b_size b_at b_from b_sort b_fled b_flights b_firstFlight b_bestHarms b_bestRage b_harmed b_raged, xI cy ((M 1)) 7 u10.2, xI cy ((M 2)) 39 b_now, xI cy ((M 7)) 8 b_holds, xI cy ((M 11)) 6 b_above]) C hw hr hQ dX8_says_42
    · replace hf := if_f q4 hf
      exact J19 b_refused _ _ _ hf hw (lv_sub hl [0] rfl)
def zf_X8_told (x1 : Int32) (x2 : Int32) (b_elements : Nat → Int64) : Option (Int64) := (if ix ((((40 : Int32) * x1) + x2)) 320 then some ((b_elements ((((40 : Int32) * x1) + x2)).toNatClampNeg)) else none)
abbrev zr_X8_told : Room := { frames := 0, cells := 0, slots := 0, locals := 0 }
set_option maxHeartbeats 4000000 in
set_option maxRecDepth 100000 in
theorem c_X8_told (l : Launch) (G : va_G) (cy : Nat → ClassId) (tt : Nat → Nat) (M : Nat → Nat) (b_isKept : Bool) (b_size : Int32) (b_at : Int32) (b_from : Int32) (b_sort : Int32) (b_fled : Bool) (b_flights : Int32) (b_firstFlight : Int32) (b_bestHarms : Int32) (b_bestRage : Int32) (b_harmed : Int64) (b_raged : Int64) (x1 : Int32) (x2 : Int32) (b_elements : Nat → Int64) (res : Int64) (hf : zf_X8_told x1 x2 b_elements = some res) : zCT l yX8_told cX8_told 3 (some .long) zr_X8_told G cy tt [.ref ((M 0)), .int x1, .int x2] [xM M b_isKept b_size b_at b_from b_sort b_fled b_flights b_firstFlight b_bestHarms b_bestRage b_harmed b_raged, xJ cy ((M 9)) 320 b_elements] (some (.long res)) [xM M b_isKept b_size b_at b_from b_sort b_fled b_flights b_firstFlight b_bestHarms b_bestRage b_harmed b_raged, xJ cy ((M 9)) 320 b_elements] := by
  refine zk_start zn_X8 (Nat.le_of_ble_eq_true rfl) ?_
  intro p e s m args below meth c A ls Q C hr hQ hw hl
  have C : zCx p m c s args meth cX8_told 3 RX8 G cy tt A := C
  have hx := C.1.1
  have hb := C.1.2.1
  have hl : lv_has ls 3 [(0, .ref ((M 0))), (1, .int x1), (2, .int x2)] := hl
  rw [zf_X8_told] at hf
  refine lv_aload_n (pc := 0) hx hb dX8_told_0 rfl (lv_at hl 0 rfl) ?_
  refine zk_gt (pc := 1) C hw zl_X8_39 0 rfl rfl dX8_told_1 ?_
  refine lv_bipush (pc := 4) (v := 40) hx hb dX8_told_4 (by decide) ?_
  refine lv_iload_n (pc := 6) hx hb dX8_told_6 rfl (lv_at hl 1 rfl) ?_
  refine lv_imul (pc := 7) hx hb dX8_told_7 ?_
  refine lv_iload_n (pc := 8) hx hb dX8_told_8 rfl (lv_at hl 2 rfl) ?_
  refine lv_iadd (pc := 9) hx hb dX8_told_9 ?_
  obtain ⟨q1, hf⟩ := ck hf
  refine zk_lald (pc := 10) C hw 1 rfl q1 dX8_told_10 ?_
  have hf := Option.some.inj hf
  subst hf
  exact zk_retl (pc := 11) (ww := [xM M b_isKept b_size b_at b_from b_sort b_fled b_flights b_firstFlight b_bestHarms b_bestRage b_harmed b_raged, xJ cy ((M 9)) 320 b_elements]) C hw hr hQ dX8_told_11
def zf_X8_rows_23 (b_holds : Nat → Int32) (b_sizes : Nat → Int32) : Option (Int32) := some ((-2 : Int32))
def zf_X8_rows (x1 : Bool) (x2 : Int32) (x3 : Int32) (b_holds : Nat → Int32) (b_sizes : Nat → Int32) : Option (Int32) := (Option.bind (zf_X8_isShelf x2) (fun u1 => (if u1 then (Option.bind (zf_X8_isIn x3.toInt64 (((0 : Int64))) (((40 : Int64)))) (fun u3 => (if u3 then (if x1 then (Option.bind (zf_X8_rowIn x2 b_holds) (fun u6 => (if 0 ≤ u6 then (if ix x2 8 then (if x3 ≤ (b_sizes x2.toNatClampNeg) then some ((1 : Int32)) else some ((-2 : Int32))) else none) else (Option.bind (zf_X8_rowIn x2 b_holds) (fun u10 => some (u10)))))) else zf_X8_rows_23 b_holds b_sizes ) else zf_X8_rows_23 b_holds b_sizes ))) else zf_X8_rows_23 b_holds b_sizes )))
abbrev zr_X8_rows : Room := { frames := 2, cells := 0, slots := 0, locals := 45 }
set_option maxHeartbeats 4000000 in
set_option maxRecDepth 100000 in
theorem c_X8_rows (l : Launch) (G : va_G) (cy : Nat → ClassId) (tt : Nat → Nat) (M : Nat → Nat) (b_isKept : Bool) (b_size : Int32) (b_at : Int32) (b_from : Int32) (b_sort : Int32) (b_fled : Bool) (b_flights : Int32) (b_firstFlight : Int32) (b_bestHarms : Int32) (b_bestRage : Int32) (b_harmed : Int64) (b_raged : Int64) (x1 : Bool) (x2 : Int32) (x3 : Int32) (b_holds : Nat → Int32) (b_sizes : Nat → Int32) (res : Int32) (hf : zf_X8_rows x1 x2 x3 b_holds b_sizes = some res) : zCT l yX8_rows cX8_rows 4 (some .int) zr_X8_rows G cy tt [.ref ((M 0)), .int (bI x1), .int x2, .int x3] [xM M b_isKept b_size b_at b_from b_sort b_fled b_flights b_firstFlight b_bestHarms b_bestRage b_harmed b_raged, xI cy ((M 7)) 8 b_holds, xI cy ((M 8)) 8 b_sizes] (some (.int res)) [xM M b_isKept b_size b_at b_from b_sort b_fled b_flights b_firstFlight b_bestHarms b_bestRage b_harmed b_raged, xI cy ((M 7)) 8 b_holds, xI cy ((M 8)) 8 b_sizes] := by
  refine zk_start zn_X8 (Nat.le_of_ble_eq_true rfl) ?_
  intro p e s m args below meth c A ls Q C hr hQ hw hl
  have C : zCx p m c s args meth cX8_rows 4 RX8 G cy tt A := C
  have hx := C.1.1
  have hb := C.1.2.1
  have hl : lv_has ls 4 [(0, .ref ((M 0))), (1, .int (bI x1)), (2, .int x2), (3, .int x3)] := hl
  have J23 : ∀ (H : Heap) (locs : List Loc) (ls : Array Slot), zf_X8_rows_23 b_holds b_sizes = some res → zWd G A s.heap H locs [xM M b_isKept b_size b_at b_from b_sort b_fled b_flights b_firstFlight b_bestHarms b_bestRage b_harmed b_raged, xI cy ((M 7)) 8 b_holds, xI cy ((M 8)) 8 b_sizes] → lv_has ls 4 [] → W p l e zr_X8_rows s m args below meth c H locs 0 0 Q (F0 m 23 ls []) := by
    intro H locs ls hf hw hl
    rw [zf_X8_rows_23] at hf
    refine lv_bipush (pc := 23) (v := -2) hx hb dX8_rows_23 (by decide) ?_
    refine lv_goto (pc := 25) (tgt := 60) hx hb dX8_rows_25 (by decide) ?_
    have hf := Option.some.inj hf
    subst hf
    exact zk_reti (pc := 60) (ww := [xM M b_isKept b_size b_at b_from b_sort b_fled b_flights b_firstFlight b_bestHarms b_bestRage b_harmed b_raged, xI cy ((M 7)) 8 b_holds, xI cy ((M 8)) 8 b_sizes]) C hw hr hQ dX8_rows_60
  rw [zf_X8_rows] at hf
  refine lv_iload_n (pc := 0) hx hb dX8_rows_0 rfl (lv_at hl 2 rfl) ?_
  obtain ⟨u1, u1e, hf⟩ := bd hf
  refine zk_cS (pc := 1) (rest := []) (st1 := [.int (bI u1)]) (w' := [xM M b_isKept b_size b_at b_from b_sort b_fled b_flights b_firstFlight b_bestHarms b_bestRage b_harmed b_raged, xI cy ((M 7)) 8 b_holds, xI cy ((M 8)) 8 b_sizes]) (mk := [none, none, none]) C hw (c_X8_isShelf l G cy tt x2 _ u1e) zy_X8_isShelf zm_X8_200 [] rfl rfl rfl rfl rfl rfl rfl rfl hl.1 ⟨rfl, rfl⟩ ⟨Nat.le_of_ble_eq_true rfl, Nat.le_of_ble_eq_true rfl⟩ rfl (Nat.le_of_ble_eq_true rfl) ⟨Nat.zero_le _, Nat.zero_le _⟩ dX8_rows_1 (fun H locs hw => ?_)
  refine zk_ifz (pc := 4) (tgt := 23) hx hb dX8_rows_4 (by decide) (fun q2 => ?_) (fun q2 => ?_)
  · replace hf := if_f q2 hf
    exact J23  _ _ _ hf hw (lv_sub hl [] rfl)
  · replace hf := if_t q2 hf
    refine lv_iload_n (pc := 7) hx hb dX8_rows_7 rfl (lv_at hl 3 rfl) ?_
    refine lv_i2l (pc := 8) (v := x3.toInt64) hx hb dX8_rows_8 rfl ?_
    refine lv_lconst (pc := 9) (v := 0) hx hb dX8_rows_9 (by decide) ?_
    refine lv_ldc2 (pc := 10) (v := 40) hx hb C.1.2.2.2.1 (C.1.2.2.2.2 _ zc_X8_88) dX8_rows_10 ?_
    obtain ⟨u3, u3e, hf⟩ := bd hf
    refine zk_cS (pc := 13) (rest := []) (st1 := [.int (bI u3)]) (w' := [xM M b_isKept b_size b_at b_from b_sort b_fled b_flights b_firstFlight b_bestHarms b_bestRage b_harmed b_raged, xI cy ((M 7)) 8 b_holds, xI cy ((M 8)) 8 b_sizes]) (mk := [none, none, none]) C hw (c_X8_isIn l G cy tt x3.toInt64 (((0 : Int64))) (((40 : Int64))) _ u3e) zy_X8_isIn zm_X8_68 [] rfl rfl rfl rfl rfl rfl rfl rfl hl.1 ⟨rfl, rfl⟩ ⟨Nat.le_of_ble_eq_true rfl, Nat.le_of_ble_eq_true rfl⟩ rfl (Nat.le_of_ble_eq_true rfl) ⟨Nat.zero_le _, Nat.zero_le _⟩ dX8_rows_13 (fun H locs hw => ?_)
    refine zk_ifz (pc := 16) (tgt := 23) hx hb dX8_rows_16 (by decide) (fun q4 => ?_) (fun q4 => ?_)
    · replace hf := if_f q4 hf
      exact J23  _ _ _ hf hw (lv_sub hl [] rfl)
    · replace hf := if_t q4 hf
      refine lv_iload_n (pc := 19) hx hb dX8_rows_19 rfl (lv_at hl 1 rfl) ?_
      refine zk_ifnz (pc := 20) (tgt := 28) hx hb dX8_rows_20 (by decide) (fun q5 => ?_) (fun q5 => ?_)
      · replace hf := if_t q5 hf
        refine lv_aload_n (pc := 28) hx hb dX8_rows_28 rfl (lv_at hl 0 rfl) ?_
        refine lv_iload_n (pc := 29) hx hb dX8_rows_29 rfl (lv_at hl 2 rfl) ?_
        obtain ⟨u6, u6e, hf⟩ := bd hf
        refine zk_cV (pc := 30) (ci := 8) (q0 := 0) (rest := []) (st1 := [.int u6]) (w' := [xM M b_isKept b_size b_at b_from b_sort b_fled b_flights b_firstFlight b_bestHarms b_bestRage b_harmed b_raged, xI cy ((M 7)) 8 b_holds, xI cy ((M 8)) 8 b_sizes]) (mk := [none, none, none]) C hw (c_X8_rowIn l G cy tt M b_isKept b_size b_at b_from b_sort b_fled b_flights b_firstFlight b_bestHarms b_bestRage b_harmed b_raged x2 b_holds _ u6e) zy_X8_rowIn zm_X8_203 rfl rfl rfl [0, 1] rfl rfl rfl rfl rfl rfl rfl rfl hl.1 ⟨rfl, rfl⟩ ⟨Nat.le_of_ble_eq_true rfl, Nat.le_of_ble_eq_true rfl⟩ rfl (Nat.le_of_ble_eq_true rfl) ⟨Nat.zero_le _, Nat.zero_le _⟩ dX8_rows_30 (fun H locs hw => ?_)
        refine lv_if_ge (pc := 33) (tgt := 44) hx hb dX8_rows_33 (by decide) (fun q7 => ?_) (fun q7 => ?_)
        · replace hf := if_t q7 hf
          refine lv_iload_n (pc := 44) hx hb dX8_rows_44 rfl (lv_at hl 3 rfl) ?_
          refine lv_aload_n (pc := 45) hx hb dX8_rows_45 rfl (lv_at hl 0 rfl) ?_
          refine zk_gt (pc := 46) C hw zl_X8_36 0 rfl rfl dX8_rows_46 ?_
          refine lv_iload_n (pc := 49) hx hb dX8_rows_49 rfl (lv_at hl 2 rfl) ?_
          obtain ⟨q8, hf⟩ := ck hf
          refine zk_iald (pc := 50) C hw 2 rfl q8 dX8_rows_50 ?_
          refine lv_icmp_le (pc := 51) (tgt := 59) hx hb dX8_rows_51 (by decide) (fun q9 => ?_) (fun q9 => ?_)
          · replace hf := if_t q9 hf
            refine lv_iconst (pc := 59) (v := 1) hx hb dX8_rows_59 (by decide) ?_
            have hf := Option.some.inj hf
            subst hf
            exact zk_reti (pc := 60) (ww := [xM M b_isKept b_size b_at b_from b_sort b_fled b_flights b_firstFlight b_bestHarms b_bestRage b_harmed b_raged, xI cy ((M 7)) 8 b_holds, xI cy ((M 8)) 8 b_sizes]) C hw hr hQ dX8_rows_60
          · replace hf := if_f q9 hf
            refine lv_bipush (pc := 54) (v := -2) hx hb dX8_rows_54 (by decide) ?_
            refine lv_goto (pc := 56) (tgt := 60) hx hb dX8_rows_56 (by decide) ?_
            have hf := Option.some.inj hf
            subst hf
            exact zk_reti (pc := 60) (ww := [xM M b_isKept b_size b_at b_from b_sort b_fled b_flights b_firstFlight b_bestHarms b_bestRage b_harmed b_raged, xI cy ((M 7)) 8 b_holds, xI cy ((M 8)) 8 b_sizes]) C hw hr hQ dX8_rows_60
        · replace hf := if_f q7 hf
          refine lv_aload_n (pc := 36) hx hb dX8_rows_36 rfl (lv_at hl 0 rfl) ?_
          refine lv_iload_n (pc := 37) hx hb dX8_rows_37 rfl (lv_at hl 2 rfl) ?_
          obtain ⟨u10, u10e, hf⟩ := bd hf
          refine zk_cV (pc := 38) (ci := 8) (q0 := 0) (rest := []) (st1 := [.int u10]) (w' := [xM M b_isKept b_size b_at b_from b_sort b_fled b_flights b_firstFlight b_bestHarms b_bestRage b_harmed b_raged, xI cy ((M 7)) 8 b_holds, xI cy ((M 8)) 8 b_sizes]) (mk := [none, none, none]) C hw (c_X8_rowIn l G cy tt M b_isKept b_size b_at b_from b_sort b_fled b_flights b_firstFlight b_bestHarms b_bestRage b_harmed b_raged x2 b_holds _ u10e) zy_X8_rowIn zm_X8_203 rfl rfl rfl [0, 1] rfl rfl rfl rfl rfl rfl rfl rfl hl.1 ⟨rfl, rfl⟩ ⟨Nat.le_of_ble_eq_true rfl, Nat.le_of_ble_eq_true rfl⟩ rfl (Nat.le_of_ble_eq_true rfl) ⟨Nat.zero_le _, Nat.zero_le _⟩ dX8_rows_38 (fun H locs hw => ?_)
          refine lv_goto (pc := 41) (tgt := 60) hx hb dX8_rows_41 (by decide) ?_
          have hf := Option.some.inj hf
          subst hf
          exact zk_reti (pc := 60) (ww := [xM M b_isKept b_size b_at b_from b_sort b_fled b_flights b_firstFlight b_bestHarms b_bestRage b_harmed b_raged, xI cy ((M 7)) 8 b_holds, xI cy ((M 8)) 8 b_sizes]) C hw hr hQ dX8_rows_60
      · replace hf := if_f q5 hf
        exact J23  _ _ _ hf hw (lv_sub hl [] rfl)
def zf_X8_wrong_2 (b_now : Nat → Int32) (b_elements : Nat → Int64) : Nat → Int32 → Int32 → Int32 → (Nat → Int32) → Option (Int32 × (Nat → Int32))
  | 0, _, _, _, _ => none
  | n + 1, v1, v2, v3, b_roster => (if v2 ≤ v3 then some ((-1 : Int32), b_roster) else (Option.bind (zf_X8_told v1 v3 b_elements) (fun u2 => (Option.bind (zf_X8_isOrder u2 b_now) (fun u3 => (if u3 then (Option.bind (zf_X8_told v1 v3 b_elements) (fun u5 => (if ix v3 40 then zf_X8_wrong_2 b_now b_elements n v1 v2 ((v3 + 1)) ((upd b_roster v3.toNatClampNeg u5.toInt32)) else none))) else some (v3, b_roster)))))))
def zf_X8_wrong (x1 : Int32) (x2 : Int32) (b_now : Nat → Int32) (b_elements : Nat → Int64) (b_roster : Nat → Int32) : Option (Int32 × (Nat → Int32)) := zf_X8_wrong_2 b_now b_elements FU x1 x2 ((0 : Int32)) b_roster
abbrev zr_X8_wrong : Room := { frames := 3, cells := 0, slots := 0, locals := 69 }
set_option maxHeartbeats 4000000 in
set_option maxRecDepth 100000 in
theorem c_X8_wrong (l : Launch) (G : va_G) (cy : Nat → ClassId) (tt : Nat → Nat) (M : Nat → Nat) (b_isKept : Bool) (b_size : Int32) (b_at : Int32) (b_from : Int32) (b_sort : Int32) (b_fled : Bool) (b_flights : Int32) (b_firstFlight : Int32) (b_bestHarms : Int32) (b_bestRage : Int32) (b_harmed : Int64) (b_raged : Int64) (x1 : Int32) (x2 : Int32) (b_now : Nat → Int32) (b_elements : Nat → Int64) (b_roster : Nat → Int32) (res : Int32 × (Nat → Int32)) (hf : zf_X8_wrong x1 x2 b_now b_elements b_roster = some res) : zCT l yX8_wrong cX8_wrong 4 (some .int) zr_X8_wrong G cy tt [.ref ((M 0)), .int x1, .int x2] [xM M b_isKept b_size b_at b_from b_sort b_fled b_flights b_firstFlight b_bestHarms b_bestRage b_harmed b_raged, xI cy ((M 2)) 39 b_now, xJ cy ((M 9)) 320 b_elements, xI cy ((M 12)) 40 b_roster] (some (.int res.1)) [xM M b_isKept b_size b_at b_from b_sort b_fled b_flights b_firstFlight b_bestHarms b_bestRage b_harmed b_raged, xI cy ((M 2)) 39 b_now, xJ cy ((M 9)) 320 b_elements, xI cy ((M 12)) 40 res.2] := by
  refine zk_start zn_X8 (Nat.le_of_ble_eq_true rfl) ?_
  intro p e s m args below meth c A ls Q C hr hQ hw hl
  have C : zCx p m c s args meth cX8_wrong 4 RX8 G cy tt A := C
  have hx := C.1.1
  have hb := C.1.2.1
  have hl : lv_has ls 4 [(0, .ref ((M 0))), (1, .int x1), (2, .int x2)] := hl
  have J2 : ∀ (n : Nat), ∀ (v1 : Int32) (v2 : Int32) (v3 : Int32) (b_roster : Nat → Int32) (H : Heap) (locs : List Loc) (ls : Array Slot), zf_X8_wrong_2 b_now b_elements n v1 v2 v3 b_roster = some res → zWd G A s.heap H locs [xM M b_isKept b_size b_at b_from b_sort b_fled b_flights b_firstFlight b_bestHarms b_bestRage b_harmed b_raged, xI cy ((M 2)) 39 b_now, xJ cy ((M 9)) 320 b_elements, xI cy ((M 12)) 40 b_roster] → lv_has ls 4 [(0, .ref ((M 0))), (1, .int v1), (2, .int v2), (3, .int v3)] → W p l e zr_X8_wrong s m args below meth c H locs 0 0 Q (F0 m 2 ls []) := by
    intro n
    induction n with
    | zero =>
      intro v1 v2 v3 b_roster H locs ls hf hw hl
      rw [zf_X8_wrong_2] at hf
      cases hf
    | succ n ih =>
      intro v1 v2 v3 b_roster H locs ls hf hw hl
      rw [zf_X8_wrong_2] at hf
      refine lv_iload_n (pc := 2) hx hb dX8_wrong_2 rfl (lv_at hl 3 rfl) ?_
      refine lv_iload_n (pc := 3) hx hb dX8_wrong_3 rfl (lv_at hl 2 rfl) ?_
      refine lv_icmp_ge (pc := 4) (tgt := 41) hx hb dX8_wrong_4 (by decide) (fun q1 => ?_) (fun q1 => ?_)
      · replace hf := if_t q1 hf
        refine lv_iconst (pc := 41) (v := -1) hx hb dX8_wrong_41 (by decide) ?_
        have hf := Option.some.inj hf
        subst hf
        exact zk_reti (pc := 42) (ww := [xM M b_isKept b_size b_at b_from b_sort b_fled b_flights b_firstFlight b_bestHarms b_bestRage b_harmed b_raged, xI cy ((M 2)) 39 b_now, xJ cy ((M 9)) 320 b_elements, xI cy ((M 12)) 40 b_roster]) C hw hr hQ dX8_wrong_42
      · replace hf := if_f q1 hf
        refine lv_aload_n (pc := 7) hx hb dX8_wrong_7 rfl (lv_at hl 0 rfl) ?_
        refine lv_aload_n (pc := 8) hx hb dX8_wrong_8 rfl (lv_at hl 0 rfl) ?_
        refine lv_iload_n (pc := 9) hx hb dX8_wrong_9 rfl (lv_at hl 1 rfl) ?_
        refine lv_iload_n (pc := 10) hx hb dX8_wrong_10 rfl (lv_at hl 3 rfl) ?_
        obtain ⟨u2, u2e, hf⟩ := bd hf
        refine zk_cV (pc := 11) (ci := 8) (q0 := 0) (rest := [.ref ((M 0))]) (st1 := [.long u2, .ref ((M 0))]) (w' := [xM M b_isKept b_size b_at b_from b_sort b_fled b_flights b_firstFlight b_bestHarms b_bestRage b_harmed b_raged, xI cy ((M 2)) 39 b_now, xJ cy ((M 9)) 320 b_elements, xI cy ((M 12)) 40 b_roster]) (mk := [none, none, none, none]) C hw (c_X8_told l G cy tt M b_isKept b_size b_at b_from b_sort b_fled b_flights b_firstFlight b_bestHarms b_bestRage b_harmed b_raged v1 v3 b_elements _ u2e) zy_X8_told zm_X8_206 rfl rfl rfl [0, 2] rfl rfl rfl rfl rfl rfl rfl rfl hl.1 ⟨rfl, rfl⟩ ⟨Nat.le_of_ble_eq_true rfl, Nat.le_of_ble_eq_true rfl⟩ rfl (Nat.le_of_ble_eq_true rfl) ⟨Nat.zero_le _, Nat.zero_le _⟩ dX8_wrong_11 (fun H locs hw => ?_)
        obtain ⟨u3, u3e, hf⟩ := bd hf
        refine zk_cV (pc := 14) (ci := 8) (q0 := 0) (rest := []) (st1 := [.int (bI u3)]) (w' := [xM M b_isKept b_size b_at b_from b_sort b_fled b_flights b_firstFlight b_bestHarms b_bestRage b_harmed b_raged, xI cy ((M 2)) 39 b_now, xJ cy ((M 9)) 320 b_elements, xI cy ((M 12)) 40 b_roster]) (mk := [none, none, none, none]) C hw (c_X8_isOrder l G cy tt M b_isKept b_size b_at b_from b_sort b_fled b_flights b_firstFlight b_bestHarms b_bestRage b_harmed b_raged u2 b_now _ u3e) zy_X8_isOrder zm_X8_184 rfl rfl rfl [0, 1] rfl rfl rfl rfl rfl rfl rfl rfl hl.1 ⟨rfl, rfl⟩ ⟨Nat.le_of_ble_eq_true rfl, Nat.le_of_ble_eq_true rfl⟩ rfl (Nat.le_of_ble_eq_true rfl) ⟨Nat.zero_le _, Nat.zero_le _⟩ dX8_wrong_14 (fun H locs hw => ?_)
        refine zk_ifnz (pc := 17) (tgt := 22) hx hb dX8_wrong_17 (by decide) (fun q4 => ?_) (fun q4 => ?_)
        · replace hf := if_t q4 hf
          refine lv_aload_n (pc := 22) hx hb dX8_wrong_22 rfl (lv_at hl 0 rfl) ?_
          refine zk_gt (pc := 23) C hw zl_X8_49 0 rfl rfl dX8_wrong_23 ?_
          refine lv_iload_n (pc := 26) hx hb dX8_wrong_26 rfl (lv_at hl 3 rfl) ?_
          refine lv_aload_n (pc := 27) hx hb dX8_wrong_27 rfl (lv_at hl 0 rfl) ?_
          refine lv_iload_n (pc := 28) hx hb dX8_wrong_28 rfl (lv_at hl 1 rfl) ?_
          refine lv_iload_n (pc := 29) hx hb dX8_wrong_29 rfl (lv_at hl 3 rfl) ?_
          obtain ⟨u5, u5e, hf⟩ := bd hf
          refine zk_cV (pc := 30) (ci := 8) (q0 := 0) (rest := [.int v3, .ref ((M 12))]) (st1 := [.long u5, .int v3, .ref ((M 12))]) (w' := [xM M b_isKept b_size b_at b_from b_sort b_fled b_flights b_firstFlight b_bestHarms b_bestRage b_harmed b_raged, xI cy ((M 2)) 39 b_now, xJ cy ((M 9)) 320 b_elements, xI cy ((M 12)) 40 b_roster]) (mk := [none, none, none, none]) C hw (c_X8_told l G cy tt M b_isKept b_size b_at b_from b_sort b_fled b_flights b_firstFlight b_bestHarms b_bestRage b_harmed b_raged v1 v3 b_elements _ u5e) zy_X8_told zm_X8_206 rfl rfl rfl [0, 2] rfl rfl rfl rfl rfl rfl rfl rfl hl.1 ⟨rfl, rfl⟩ ⟨Nat.le_of_ble_eq_true rfl, Nat.le_of_ble_eq_true rfl⟩ rfl (Nat.le_of_ble_eq_true rfl) ⟨Nat.zero_le _, Nat.zero_le _⟩ dX8_wrong_30 (fun H locs hw => ?_)
          refine lv_l2i (pc := 33) (v := u5.toInt32) hx hb dX8_wrong_33 rfl ?_
          obtain ⟨q6, hf⟩ := ck hf
          refine zk_iast (pc := 34) (w' := [xM M b_isKept b_size b_at b_from b_sort b_fled b_flights b_firstFlight b_bestHarms b_bestRage b_harmed b_raged, xI cy ((M 2)) 39 b_now, xJ cy ((M 9)) 320 b_elements, xI cy ((M 12)) 40 ((upd b_roster v3.toNatClampNeg u5.toInt32))]) C hw 3 rfl q6 rfl dX8_wrong_34 (fun H locs hw => ?_)
          refine lv_iinc (pc := 35) (v := (v3 + 1)) (lv' := [(3, .int ((v3 + 1))), (0, .ref ((M 0))), (1, .int v1), (2, .int v2)]) hx hb dX8_wrong_35 hl (k := 3) rfl rfl (by decide) rfl (fun ls hl => ?_)
          refine lv_goto (pc := 38) (tgt := 2) hx hb dX8_wrong_38 (by decide) ?_
          exact ih v1 v2 ((v3 + 1)) ((upd b_roster v3.toNatClampNeg u5.toInt32)) _ _ _ hf hw (lv_sub hl [1, 2, 3, 0] rfl)
        · replace hf := if_f q4 hf
          refine lv_iload_n (pc := 20) hx hb dX8_wrong_20 rfl (lv_at hl 3 rfl) ?_
          have hf := Option.some.inj hf
          subst hf
          exact zk_reti (pc := 21) (ww := [xM M b_isKept b_size b_at b_from b_sort b_fled b_flights b_firstFlight b_bestHarms b_bestRage b_harmed b_raged, xI cy ((M 2)) 39 b_now, xJ cy ((M 9)) 320 b_elements, xI cy ((M 12)) 40 b_roster]) C hw hr hQ dX8_wrong_21
  rw [zf_X8_wrong] at hf
  refine lv_iconst (pc := 0) (v := 0) hx hb dX8_wrong_0 (by decide) ?_
  refine lv_istore_n (pc := 1) (lv' := [(3, .int ((0 : Int32))), (0, .ref ((M 0))), (1, .int x1), (2, .int x2)]) hx hb dX8_wrong_1 rfl hl (by decide) rfl (fun ls hl => ?_)
  exact J2 FU x1 x2 ((0 : Int32)) b_roster _ _ _ hf hw (lv_sub hl [1, 2, 3, 0] rfl)
def zf_X8_load (x1 : Bool) (x2 : Int32) (x3 : Int32) (b_now : Nat → Int32) (b_holds : Nat → Int32) (b_sizes : Nat → Int32) (b_elements : Nat → Int64) (b_roster : Nat → Int32) : Option (Int32 × (Nat → Int32)) := (Option.bind (zf_X8_rows x1 x2 x3 b_holds b_sizes) (fun u1 => (if u1 = (1 : Int32) then (Option.bind (zf_X8_wrong x2 x3 b_now b_elements b_roster) (fun u3 => (if u3.1 = (-1 : Int32) then some (u1, u3.2) else some ((-5 : Int32), u3.2)))) else some (u1, b_roster))))
abbrev zr_X8_load : Room := { frames := 4, cells := 0, slots := 0, locals := 92 }
set_option maxHeartbeats 4000000 in
set_option maxRecDepth 100000 in
theorem c_X8_load (l : Launch) (G : va_G) (cy : Nat → ClassId) (tt : Nat → Nat) (M : Nat → Nat) (b_isKept : Bool) (b_size : Int32) (b_at : Int32) (b_from : Int32) (b_sort : Int32) (b_fled : Bool) (b_flights : Int32) (b_firstFlight : Int32) (b_bestHarms : Int32) (b_bestRage : Int32) (b_harmed : Int64) (b_raged : Int64) (x1 : Bool) (x2 : Int32) (x3 : Int32) (b_now : Nat → Int32) (b_holds : Nat → Int32) (b_sizes : Nat → Int32) (b_elements : Nat → Int64) (b_roster : Nat → Int32) (res : Int32 × (Nat → Int32)) (hf : zf_X8_load x1 x2 x3 b_now b_holds b_sizes b_elements b_roster = some res) : zCT l yX8_load cX8_load 5 (some .int) zr_X8_load G cy tt [.ref ((M 0)), .int (bI x1), .int x2, .int x3] [xM M b_isKept b_size b_at b_from b_sort b_fled b_flights b_firstFlight b_bestHarms b_bestRage b_harmed b_raged, xI cy ((M 2)) 39 b_now, xI cy ((M 7)) 8 b_holds, xI cy ((M 8)) 8 b_sizes, xJ cy ((M 9)) 320 b_elements, xI cy ((M 12)) 40 b_roster] (some (.int res.1)) [xM M b_isKept b_size b_at b_from b_sort b_fled b_flights b_firstFlight b_bestHarms b_bestRage b_harmed b_raged, xI cy ((M 2)) 39 b_now, xI cy ((M 7)) 8 b_holds, xI cy ((M 8)) 8 b_sizes, xJ cy ((M 9)) 320 b_elements, xI cy ((M 12)) 40 res.2] := by
  refine zk_start zn_X8 (Nat.le_of_ble_eq_true rfl) ?_
  intro p e s m args below meth c A ls Q C hr hQ hw hl
  have C : zCx p m c s args meth cX8_load 5 RX8 G cy tt A := C
  have hx := C.1.1
  have hb := C.1.2.1
  have hl : lv_has ls 5 [(0, .ref ((M 0))), (1, .int (bI x1)), (2, .int x2), (3, .int x3)] := hl
  rw [zf_X8_load] at hf
  refine lv_aload_n (pc := 0) hx hb dX8_load_0 rfl (lv_at hl 0 rfl) ?_
  refine lv_iload_n (pc := 1) hx hb dX8_load_1 rfl (lv_at hl 1 rfl) ?_
  refine lv_iload_n (pc := 2) hx hb dX8_load_2 rfl (lv_at hl 2 rfl) ?_
  refine lv_iload_n (pc := 3) hx hb dX8_load_3 rfl (lv_at hl 3 rfl) ?_
  obtain ⟨u1, u1e, hf⟩ := bd hf
  refine zk_cV (pc := 4) (ci := 8) (q0 := 0) (rest := []) (st1 := [.int u1]) (w' := [xM M b_isKept b_size b_at b_from b_sort b_fled b_flights b_firstFlight b_bestHarms b_bestRage b_harmed b_raged, xI cy ((M 2)) 39 b_now, xI cy ((M 7)) 8 b_holds, xI cy ((M 8)) 8 b_sizes, xJ cy ((M 9)) 320 b_elements, xI cy ((M 12)) 40 b_roster]) (mk := [none, none, none, none, none, none]) C hw (c_X8_rows l G cy tt M b_isKept b_size b_at b_from b_sort b_fled b_flights b_firstFlight b_bestHarms b_bestRage b_harmed b_raged x1 x2 x3 b_holds b_sizes _ u1e) zy_X8_rows zm_X8_210 rfl rfl rfl [0, 2, 3] rfl rfl rfl rfl rfl rfl rfl rfl hl.1 ⟨rfl, rfl⟩ ⟨Nat.le_of_ble_eq_true rfl, Nat.le_of_ble_eq_true rfl⟩ rfl (Nat.le_of_ble_eq_true rfl) ⟨Nat.zero_le _, Nat.zero_le _⟩ dX8_load_4 (fun H locs hw => ?_)
  refine lv_istore (pc := 7) (lv' := [(4, .int u1), (0, .ref ((M 0))), (1, .int (bI x1)), (2, .int x2), (3, .int x3)]) hx hb dX8_load_7 hl (by decide) rfl (fun ls hl => ?_)
  refine lv_iload (pc := 9) hx hb dX8_load_9 (lv_at hl 0 rfl) ?_
  refine lv_iconst (pc := 11) (v := 1) hx hb dX8_load_11 (by decide) ?_
  refine lv_icmp_ne (pc := 12) (tgt := 30) hx hb dX8_load_12 (by decide) (fun q2 => ?_) (fun q2 => ?_)
  · replace hf := if_f q2 hf
    refine lv_iload (pc := 30) hx hb dX8_load_30 (lv_at hl 0 rfl) ?_
    have hf := Option.some.inj hf
    subst hf
    exact zk_reti (pc := 32) (ww := [xM M b_isKept b_size b_at b_from b_sort b_fled b_flights b_firstFlight b_bestHarms b_bestRage b_harmed b_raged, xI cy ((M 2)) 39 b_now, xI cy ((M 7)) 8 b_holds, xI cy ((M 8)) 8 b_sizes, xJ cy ((M 9)) 320 b_elements, xI cy ((M 12)) 40 b_roster]) C hw hr hQ dX8_load_32
  · replace hf := if_t q2 hf
    refine lv_aload_n (pc := 15) hx hb dX8_load_15 rfl (lv_at hl 1 rfl) ?_
    refine lv_iload_n (pc := 16) hx hb dX8_load_16 rfl (lv_at hl 3 rfl) ?_
    refine lv_iload_n (pc := 17) hx hb dX8_load_17 rfl (lv_at hl 4 rfl) ?_
    obtain ⟨u3, u3e, hf⟩ := bd hf
    refine zk_cV (pc := 18) (ci := 8) (q0 := 0) (rest := []) (st1 := [.int u3.1]) (w' := [xM M b_isKept b_size b_at b_from b_sort b_fled b_flights b_firstFlight b_bestHarms b_bestRage b_harmed b_raged, xI cy ((M 2)) 39 b_now, xI cy ((M 7)) 8 b_holds, xI cy ((M 8)) 8 b_sizes, xJ cy ((M 9)) 320 b_elements, xI cy ((M 12)) 40 u3.2]) (mk := [none, none, none, none, none, some (xI cy ((M 12)) 40 u3.2)]) C hw (c_X8_wrong l G cy tt M b_isKept b_size b_at b_from b_sort b_fled b_flights b_firstFlight b_bestHarms b_bestRage b_harmed b_raged x2 x3 b_now b_elements b_roster _ u3e) zy_X8_wrong zm_X8_214 rfl rfl rfl [0, 1, 4, 5] rfl rfl rfl rfl rfl rfl rfl rfl hl.1 ⟨rfl, rfl⟩ ⟨Nat.le_of_ble_eq_true rfl, Nat.le_of_ble_eq_true rfl⟩ rfl (Nat.le_of_ble_eq_true rfl) ⟨Nat.zero_le _, Nat.zero_le _⟩ dX8_load_18 (fun H locs hw => ?_)
    refine lv_iconst (pc := 21) (v := -1) hx hb dX8_load_21 (by decide) ?_
    refine lv_icmp_eq (pc := 22) (tgt := 30) hx hb dX8_load_22 (by decide) (fun q4 => ?_) (fun q4 => ?_)
    · replace hf := if_t q4 hf
      refine lv_iload (pc := 30) hx hb dX8_load_30 (lv_at hl 0 rfl) ?_
      have hf := Option.some.inj hf
      subst hf
      exact zk_reti (pc := 32) (ww := [xM M b_isKept b_size b_at b_from b_sort b_fled b_flights b_firstFlight b_bestHarms b_bestRage b_harmed b_raged, xI cy ((M 2)) 39 b_now, xI cy ((M 7)) 8 b_holds, xI cy ((M 8)) 8 b_sizes, xJ cy ((M 9)) 320 b_elements, xI cy ((M 12)) 40 u3.2]) C hw hr hQ dX8_load_32
    · replace hf := if_f q4 hf
      refine lv_bipush (pc := 25) (v := -5) hx hb dX8_load_25 (by decide) ?_
      refine lv_goto (pc := 27) (tgt := 32) hx hb dX8_load_27 (by decide) ?_
      have hf := Option.some.inj hf
      subst hf
      exact zk_reti (pc := 32) (ww := [xM M b_isKept b_size b_at b_from b_sort b_fled b_flights b_firstFlight b_bestHarms b_bestRage b_harmed b_raged, xI cy ((M 2)) 39 b_now, xI cy ((M 7)) 8 b_holds, xI cy ((M 8)) 8 b_sizes, xJ cy ((M 9)) 320 b_elements, xI cy ((M 12)) 40 u3.2]) C hw hr hQ dX8_load_32
def zf_X8_go_77 (b_roster : Nat → Int32) (k14 : Int32 → Int32 → Int32 → (Nat → Int32) → Bool → Int32 → Int32 → Option (Int32 × (Nat → Int32) × Bool × Int32 × Int32)) (v1 : Int32) (v2 : Int32) (v3 : Int32) (t0 : Int32) (b_now : Nat → Int32) (b_fled : Bool) (b_flights : Int32) (b_firstFlight : Int32) : Option (Int32 × (Nat → Int32) × Bool × Int32 × Int32) := k14 v1 v2 ((v3 + 1)) b_now b_fled b_flights t0
def zf_X8_go_73 (b_roster : Nat → Int32) (k14 : Int32 → Int32 → Int32 → (Nat → Int32) → Bool → Int32 → Int32 → Option (Int32 × (Nat → Int32) × Bool × Int32 × Int32)) (v1 : Int32) (v2 : Int32) (v3 : Int32) (b_now : Nat → Int32) (b_fled : Bool) (b_flights : Int32) (b_firstFlight : Int32) : Option (Int32 × (Nat → Int32) × Bool × Int32 × Int32) := zf_X8_go_77 b_roster k14 v1 v2 v3 b_firstFlight b_now b_fled b_flights b_firstFlight
def zf_X8_go_49 (b_roster : Nat → Int32) (k14 : Int32 → Int32 → Int32 → (Nat → Int32) → Bool → Int32 → Int32 → Option (Int32 × (Nat → Int32) × Bool × Int32 × Int32)) (v1 : Int32) (v2 : Int32) (v3 : Int32) (t0 : Bool) (t1 : Int32) (b_now : Nat → Int32) (b_fled : Bool) (b_flights : Int32) (b_firstFlight : Int32) : Option (Int32 × (Nat → Int32) × Bool × Int32 × Int32) := (if b_fled then (if b_firstFlight = (-1 : Int32) then zf_X8_go_77 b_roster k14 v1 v2 v3 v3 b_now b_fled ((t1 + (bI t0))) b_firstFlight else zf_X8_go_73 b_roster k14 v1 v2 v3 b_now b_fled ((t1 + (bI t0))) b_firstFlight) else zf_X8_go_73 b_roster k14 v1 v2 v3 b_now b_fled ((t1 + (bI t0))) b_firstFlight)
def zf_X8_go_14 (b_roster : Nat → Int32) : Nat → Int32 → Int32 → Int32 → (Nat → Int32) → Bool → Int32 → Int32 → Option (Int32 × (Nat → Int32) × Bool × Int32 × Int32)
  | 0, _, _, _, _, _, _, _ => none
  | n + 1, v1, v2, v3, b_now, b_fled, b_flights, b_firstFlight => (if v1 ≤ v3 then some (v2, b_now, b_fled, b_flights, b_firstFlight) else (if ix v3 40 then (Option.bind (zf_X8_step (((b_roster v3.toNatClampNeg))) b_now b_fled) (fun u3 => (if u3.2.2 then zf_X8_go_49 b_roster (zf_X8_go_14 b_roster n) v1 ((v2 + u3.1)) v3 true b_flights u3.2.1 u3.2.2 b_flights b_firstFlight else zf_X8_go_49 b_roster (zf_X8_go_14 b_roster n) v1 ((v2 + u3.1)) v3 false b_flights u3.2.1 u3.2.2 b_flights b_firstFlight))) else none))
def zf_X8_go (x1 : Int32) (b_now : Nat → Int32) (b_fled : Bool) (b_roster : Nat → Int32) (b_flights : Int32) (b_firstFlight : Int32) : Option (Int32 × (Nat → Int32) × Bool × Int32 × Int32) := zf_X8_go_14 b_roster FU x1 ((0 : Int32)) ((0 : Int32)) b_now b_fled ((0 : Int32)) ((-1 : Int32))
abbrev zr_X8_go : Room := { frames := 3, cells := 0, slots := 0, locals := 65 }
set_option maxHeartbeats 4000000 in
set_option maxRecDepth 100000 in
theorem c_X8_go (l : Launch) (G : va_G) (cy : Nat → ClassId) (tt : Nat → Nat) (M : Nat → Nat) (b_isKept : Bool) (b_size : Int32) (b_at : Int32) (b_from : Int32) (b_sort : Int32) (b_bestHarms : Int32) (b_bestRage : Int32) (b_harmed : Int64) (b_raged : Int64) (x1 : Int32) (b_now : Nat → Int32) (b_fled : Bool) (b_roster : Nat → Int32) (b_flights : Int32) (b_firstFlight : Int32) (res : Int32 × (Nat → Int32) × Bool × Int32 × Int32) (hf : zf_X8_go x1 b_now b_fled b_roster b_flights b_firstFlight = some res) : zCT l yX8_go cX8_go 4 (some .int) zr_X8_go G cy tt [.ref ((M 0)), .int x1] [xM M b_isKept b_size b_at b_from b_sort b_fled b_flights b_firstFlight b_bestHarms b_bestRage b_harmed b_raged, xI cy ((M 2)) 39 b_now, xI cy ((M 12)) 40 b_roster] (some (.int res.1)) [xM M b_isKept b_size b_at b_from b_sort res.2.2.1 res.2.2.2.1 res.2.2.2.2 b_bestHarms b_bestRage b_harmed b_raged, xI cy ((M 2)) 39 res.2.1, xI cy ((M 12)) 40 b_roster] := by
  refine zk_start zn_X8 (Nat.le_of_ble_eq_true rfl) ?_
  intro p e s m args below meth c A ls Q C hr hQ hw hl
  have C : zCx p m c s args meth cX8_go 4 RX8 G cy tt A := C
  have hx := C.1.1
  have hb := C.1.2.1
  have hl : lv_has ls 4 [(0, .ref ((M 0))), (1, .int x1)] := hl
  have J77 : ∀ (k14 : Int32 → Int32 → Int32 → (Nat → Int32) → Bool → Int32 → Int32 → Option (Int32 × (Nat → Int32) × Bool × Int32 × Int32)) (K14 : ∀ (v1 : Int32) (v2 : Int32) (v3 : Int32) (b_now : Nat → Int32) (b_fled : Bool) (b_flights : Int32) (b_firstFlight : Int32) (H : Heap) (locs : List Loc) (ls : Array Slot), k14 v1 v2 v3 b_now b_fled b_flights b_firstFlight = some res → zWd G A s.heap H locs [xM M b_isKept b_size b_at b_from b_sort b_fled b_flights b_firstFlight b_bestHarms b_bestRage b_harmed b_raged, xI cy ((M 2)) 39 b_now, xI cy ((M 12)) 40 b_roster] → lv_has ls 4 [(0, .ref ((M 0))), (1, .int v1), (2, .int v2), (3, .int v3)] → W p l e zr_X8_go s m args below meth c H locs 0 0 Q (F0 m 14 ls [])), ∀ (v1 : Int32) (v2 : Int32) (v3 : Int32) (t0 : Int32) (b_now : Nat → Int32) (b_fled : Bool) (b_flights : Int32) (b_firstFlight : Int32) (H : Heap) (locs : List Loc) (ls : Array Slot), zf_X8_go_77 b_roster k14 v1 v2 v3 t0 b_now b_fled b_flights b_firstFlight = some res → zWd G A s.heap H locs [xM M b_isKept b_size b_at b_from b_sort b_fled b_flights b_firstFlight b_bestHarms b_bestRage b_harmed b_raged, xI cy ((M 2)) 39 b_now, xI cy ((M 12)) 40 b_roster] → lv_has ls 4 [(0, .ref ((M 0))), (1, .int v1), (2, .int v2), (3, .int v3)] → W p l e zr_X8_go s m args below meth c H locs 0 0 Q (F0 m 77 ls [.int t0, .ref ((M 0))]) := by
    intro k14 K14 v1 v2 v3 t0 b_now b_fled b_flights b_firstFlight H locs ls hf hw hl
    rw [zf_X8_go_77] at hf
    refine zk_put (pc := 77) (w' := [xM M b_isKept b_size b_at b_from b_sort b_fled b_flights t0 b_bestHarms b_bestRage b_harmed b_raged, xI cy ((M 2)) 39 b_now, xI cy ((M 12)) 40 b_roster]) C hw zp_X8_220 0 rfl rfl rfl (Nat.le_of_ble_eq_true rfl) rfl dX8_go_77 (fun H locs hw => ?_)
    refine lv_iinc (pc := 80) (v := (v3 + 1)) (lv' := [(3, .int ((v3 + 1))), (0, .ref ((M 0))), (1, .int v1), (2, .int v2)]) hx hb dX8_go_80 hl (k := 3) rfl rfl (by decide) rfl (fun ls hl => ?_)
    refine lv_goto (pc := 83) (tgt := 14) hx hb dX8_go_83 (by decide) ?_
    exact K14 v1 v2 ((v3 + 1)) b_now b_fled b_flights t0 _ _ _ hf hw (lv_sub hl [1, 2, 3, 0] rfl)
  have J73 : ∀ (k14 : Int32 → Int32 → Int32 → (Nat → Int32) → Bool → Int32 → Int32 → Option (Int32 × (Nat → Int32) × Bool × Int32 × Int32)) (K14 : ∀ (v1 : Int32) (v2 : Int32) (v3 : Int32) (b_now : Nat → Int32) (b_fled : Bool) (b_flights : Int32) (b_firstFlight : Int32) (H : Heap) (locs : List Loc) (ls : Array Slot), k14 v1 v2 v3 b_now b_fled b_flights b_firstFlight = some res → zWd G A s.heap H locs [xM M b_isKept b_size b_at b_from b_sort b_fled b_flights b_firstFlight b_bestHarms b_bestRage b_harmed b_raged, xI cy ((M 2)) 39 b_now, xI cy ((M 12)) 40 b_roster] → lv_has ls 4 [(0, .ref ((M 0))), (1, .int v1), (2, .int v2), (3, .int v3)] → W p l e zr_X8_go s m args below meth c H locs 0 0 Q (F0 m 14 ls [])), ∀ (v1 : Int32) (v2 : Int32) (v3 : Int32) (b_now : Nat → Int32) (b_fled : Bool) (b_flights : Int32) (b_firstFlight : Int32) (H : Heap) (locs : List Loc) (ls : Array Slot), zf_X8_go_73 b_roster k14 v1 v2 v3 b_now b_fled b_flights b_firstFlight = some res → zWd G A s.heap H locs [xM M b_isKept b_size b_at b_from b_sort b_fled b_flights b_firstFlight b_bestHarms b_bestRage b_harmed b_raged, xI cy ((M 2)) 39 b_now, xI cy ((M 12)) 40 b_roster] → lv_has ls 4 [(0, .ref ((M 0))), (1, .int v1), (2, .int v2), (3, .int v3)] → W p l e zr_X8_go s m args below meth c H locs 0 0 Q (F0 m 73 ls [.ref ((M 0))]) := by
    intro k14 K14 v1 v2 v3 b_now b_fled b_flights b_firstFlight H locs ls hf hw hl
    rw [zf_X8_go_73] at hf
    refine lv_aload_n (pc := 73) hx hb dX8_go_73 rfl (lv_at hl 0 rfl) ?_
    refine zk_gt (pc := 74) C hw zl_X8_220 0 rfl rfl dX8_go_74 ?_
    exact J77 k14 K14 v1 v2 v3 b_firstFlight b_now b_fled b_flights b_firstFlight _ _ _ hf hw (lv_sub hl [0, 1, 2, 3] rfl)
  have J49 : ∀ (k14 : Int32 → Int32 → Int32 → (Nat → Int32) → Bool → Int32 → Int32 → Option (Int32 × (Nat → Int32) × Bool × Int32 × Int32)) (K14 : ∀ (v1 : Int32) (v2 : Int32) (v3 : Int32) (b_now : Nat → Int32) (b_fled : Bool) (b_flights : Int32) (b_firstFlight : Int32) (H : Heap) (locs : List Loc) (ls : Array Slot), k14 v1 v2 v3 b_now b_fled b_flights b_firstFlight = some res → zWd G A s.heap H locs [xM M b_isKept b_size b_at b_from b_sort b_fled b_flights b_firstFlight b_bestHarms b_bestRage b_harmed b_raged, xI cy ((M 2)) 39 b_now, xI cy ((M 12)) 40 b_roster] → lv_has ls 4 [(0, .ref ((M 0))), (1, .int v1), (2, .int v2), (3, .int v3)] → W p l e zr_X8_go s m args below meth c H locs 0 0 Q (F0 m 14 ls [])), ∀ (v1 : Int32) (v2 : Int32) (v3 : Int32) (t0 : Bool) (t1 : Int32) (b_now : Nat → Int32) (b_fled : Bool) (b_flights : Int32) (b_firstFlight : Int32) (H : Heap) (locs : List Loc) (ls : Array Slot), zf_X8_go_49 b_roster k14 v1 v2 v3 t0 t1 b_now b_fled b_flights b_firstFlight = some res → zWd G A s.heap H locs [xM M b_isKept b_size b_at b_from b_sort b_fled b_flights b_firstFlight b_bestHarms b_bestRage b_harmed b_raged, xI cy ((M 2)) 39 b_now, xI cy ((M 12)) 40 b_roster] → lv_has ls 4 [(0, .ref ((M 0))), (1, .int v1), (2, .int v2), (3, .int v3)] → W p l e zr_X8_go s m args below meth c H locs 0 0 Q (F0 m 49 ls [.int (bI t0), .int t1, .ref ((M 0))]) := by
    intro k14 K14 v1 v2 v3 t0 t1 b_now b_fled b_flights b_firstFlight H locs ls hf hw hl
    rw [zf_X8_go_49] at hf
    refine lv_iadd (pc := 49) hx hb dX8_go_49 ?_
    refine zk_put (pc := 50) (w' := [xM M b_isKept b_size b_at b_from b_sort b_fled ((t1 + (bI t0))) b_firstFlight b_bestHarms b_bestRage b_harmed b_raged, xI cy ((M 2)) 39 b_now, xI cy ((M 12)) 40 b_roster]) C hw zp_X8_217 0 rfl rfl rfl (Nat.le_of_ble_eq_true rfl) rfl dX8_go_50 (fun H locs hw => ?_)
    refine lv_aload_n (pc := 53) hx hb dX8_go_53 rfl (lv_at hl 0 rfl) ?_
    refine lv_aload_n (pc := 54) hx hb dX8_go_54 rfl (lv_at hl 0 rfl) ?_
    refine zk_gt (pc := 55) C hw zl_X8_162 0 rfl rfl dX8_go_55 ?_
    refine zk_ifz (pc := 58) (tgt := 73) hx hb dX8_go_58 (by decide) (fun q5 => ?_) (fun q5 => ?_)
    · replace hf := if_f q5 hf
      exact J73 k14 K14 v1 v2 v3 b_now b_fled ((t1 + (bI t0))) b_firstFlight _ _ _ hf hw (lv_sub hl [0, 1, 2, 3] rfl)
    · replace hf := if_t q5 hf
      refine lv_aload_n (pc := 61) hx hb dX8_go_61 rfl (lv_at hl 0 rfl) ?_
      refine zk_gt (pc := 62) C hw zl_X8_220 0 rfl rfl dX8_go_62 ?_
      refine lv_iconst (pc := 65) (v := -1) hx hb dX8_go_65 (by decide) ?_
      refine lv_icmp_ne (pc := 66) (tgt := 73) hx hb dX8_go_66 (by decide) (fun q6 => ?_) (fun q6 => ?_)
      · replace hf := if_f q6 hf
        exact J73 k14 K14 v1 v2 v3 b_now b_fled ((t1 + (bI t0))) b_firstFlight _ _ _ hf hw (lv_sub hl [0, 1, 2, 3] rfl)
      · replace hf := if_t q6 hf
        refine lv_iload_n (pc := 69) hx hb dX8_go_69 rfl (lv_at hl 3 rfl) ?_
        refine lv_goto (pc := 70) (tgt := 77) hx hb dX8_go_70 (by decide) ?_
        exact J77 k14 K14 v1 v2 v3 v3 b_now b_fled ((t1 + (bI t0))) b_firstFlight _ _ _ hf hw (lv_sub hl [0, 1, 2, 3] rfl)
  have J14 : ∀ (n : Nat), ∀ (v1 : Int32) (v2 : Int32) (v3 : Int32) (b_now : Nat → Int32) (b_fled : Bool) (b_flights : Int32) (b_firstFlight : Int32) (H : Heap) (locs : List Loc) (ls : Array Slot), zf_X8_go_14 b_roster n v1 v2 v3 b_now b_fled b_flights b_firstFlight = some res → zWd G A s.heap H locs [xM M b_isKept b_size b_at b_from b_sort b_fled b_flights b_firstFlight b_bestHarms b_bestRage b_harmed b_raged, xI cy ((M 2)) 39 b_now, xI cy ((M 12)) 40 b_roster] → lv_has ls 4 [(0, .ref ((M 0))), (1, .int v1), (2, .int v2), (3, .int v3)] → W p l e zr_X8_go s m args below meth c H locs 0 0 Q (F0 m 14 ls []) := by
    intro n
    induction n with
    | zero =>
      intro v1 v2 v3 b_now b_fled b_flights b_firstFlight H locs ls hf hw hl
      rw [zf_X8_go_14] at hf
      cases hf
    | succ n ih =>
      intro v1 v2 v3 b_now b_fled b_flights b_firstFlight H locs ls hf hw hl
      rw [zf_X8_go_14] at hf
      refine lv_iload_n (pc := 14) hx hb dX8_go_14 rfl (lv_at hl 3 rfl) ?_
      refine lv_iload_n (pc := 15) hx hb dX8_go_15 rfl (lv_at hl 1 rfl) ?_
      refine lv_icmp_ge (pc := 16) (tgt := 86) hx hb dX8_go_16 (by decide) (fun q1 => ?_) (fun q1 => ?_)
      · replace hf := if_t q1 hf
        refine lv_iload_n (pc := 86) hx hb dX8_go_86 rfl (lv_at hl 2 rfl) ?_
        have hf := Option.some.inj hf
        subst hf
        exact zk_reti (pc := 87) (ww := [xM M b_isKept b_size b_at b_from b_sort b_fled b_flights b_firstFlight b_bestHarms b_bestRage b_harmed b_raged, xI cy ((M 2)) 39 b_now, xI cy ((M 12)) 40 b_roster]) C hw hr hQ dX8_go_87
      · replace hf := if_f q1 hf
        refine lv_iload_n (pc := 19) hx hb dX8_go_19 rfl (lv_at hl 2 rfl) ?_
        refine lv_aload_n (pc := 20) hx hb dX8_go_20 rfl (lv_at hl 0 rfl) ?_
        refine lv_aload_n (pc := 21) hx hb dX8_go_21 rfl (lv_at hl 0 rfl) ?_
        refine zk_gt (pc := 22) C hw zl_X8_49 0 rfl rfl dX8_go_22 ?_
        refine lv_iload_n (pc := 25) hx hb dX8_go_25 rfl (lv_at hl 3 rfl) ?_
        obtain ⟨q2, hf⟩ := ck hf
        refine zk_iald (pc := 26) C hw 2 rfl q2 dX8_go_26 ?_
        obtain ⟨u3, u3e, hf⟩ := bd hf
        refine zk_cV (pc := 27) (ci := 8) (q0 := 0) (rest := [.int v2]) (st1 := [.int u3.1, .int v2]) (w' := [xM M b_isKept b_size b_at b_from b_sort u3.2.2 b_flights b_firstFlight b_bestHarms b_bestRage b_harmed b_raged, xI cy ((M 2)) 39 u3.2.1, xI cy ((M 12)) 40 b_roster]) (mk := [some (xM M b_isKept b_size b_at b_from b_sort u3.2.2 b_flights b_firstFlight b_bestHarms b_bestRage b_harmed b_raged), some (xI cy ((M 2)) 39 u3.2.1), none]) C hw (c_X8_step l G cy tt M b_isKept b_size b_at b_from b_sort b_flights b_firstFlight b_bestHarms b_bestRage b_harmed b_raged (((b_roster v3.toNatClampNeg))) b_now b_fled _ u3e) zy_X8_step zm_X8_181 rfl rfl rfl [0, 1] rfl rfl rfl rfl rfl rfl rfl rfl hl.1 ⟨rfl, rfl⟩ ⟨Nat.le_of_ble_eq_true rfl, Nat.le_of_ble_eq_true rfl⟩ rfl (Nat.le_of_ble_eq_true rfl) ⟨Nat.zero_le _, Nat.zero_le _⟩ dX8_go_27 (fun H locs hw => ?_)
        refine lv_iadd (pc := 30) hx hb dX8_go_30 ?_
        refine lv_istore_n (pc := 31) (lv' := [(2, .int ((v2 + u3.1))), (0, .ref ((M 0))), (1, .int v1), (3, .int v3)]) hx hb dX8_go_31 rfl hl (by decide) rfl (fun ls hl => ?_)
        refine lv_aload_n (pc := 32) hx hb dX8_go_32 rfl (lv_at hl 1 rfl) ?_
        refine lv_dup (pc := 33) hx hb dX8_go_33 rfl ?_
        refine zk_gt (pc := 34) C hw zl_X8_217 0 rfl rfl dX8_go_34 ?_
        refine lv_aload_n (pc := 37) hx hb dX8_go_37 rfl (lv_at hl 1 rfl) ?_
        refine zk_gt (pc := 38) C hw zl_X8_162 0 rfl rfl dX8_go_38 ?_
        refine zk_ifz (pc := 41) (tgt := 48) hx hb dX8_go_41 (by decide) (fun q4 => ?_) (fun q4 => ?_)
        · replace hf := if_f q4 hf
          refine lv_iconst (pc := 48) (v := 0) hx hb dX8_go_48 (by decide) ?_
          exact J49 (zf_X8_go_14 b_roster n) ih v1 ((v2 + u3.1)) v3 false b_flights u3.2.1 u3.2.2 b_flights b_firstFlight _ _ _ hf hw (lv_sub hl [1, 2, 0, 3] rfl)
        · replace hf := if_t q4 hf
          refine lv_iconst (pc := 44) (v := 1) hx hb dX8_go_44 (by decide) ?_
          refine lv_goto (pc := 45) (tgt := 49) hx hb dX8_go_45 (by decide) ?_
          exact J49 (zf_X8_go_14 b_roster n) ih v1 ((v2 + u3.1)) v3 true b_flights u3.2.1 u3.2.2 b_flights b_firstFlight _ _ _ hf hw (lv_sub hl [1, 2, 0, 3] rfl)
  rw [zf_X8_go] at hf
  refine lv_iconst (pc := 0) (v := 0) hx hb dX8_go_0 (by decide) ?_
  refine lv_istore_n (pc := 1) (lv' := [(2, .int ((0 : Int32))), (0, .ref ((M 0))), (1, .int x1)]) hx hb dX8_go_1 rfl hl (by decide) rfl (fun ls hl => ?_)
  refine lv_aload_n (pc := 2) hx hb dX8_go_2 rfl (lv_at hl 1 rfl) ?_
  refine lv_iconst (pc := 3) (v := 0) hx hb dX8_go_3 (by decide) ?_
  refine zk_put (pc := 4) (w' := [xM M b_isKept b_size b_at b_from b_sort b_fled ((0 : Int32)) b_firstFlight b_bestHarms b_bestRage b_harmed b_raged, xI cy ((M 2)) 39 b_now, xI cy ((M 12)) 40 b_roster]) C hw zp_X8_217 0 rfl rfl rfl (Nat.le_of_ble_eq_true rfl) rfl dX8_go_4 (fun H locs hw => ?_)
  refine lv_aload_n (pc := 7) hx hb dX8_go_7 rfl (lv_at hl 1 rfl) ?_
  refine lv_iconst (pc := 8) (v := -1) hx hb dX8_go_8 (by decide) ?_
  refine zk_put (pc := 9) (w' := [xM M b_isKept b_size b_at b_from b_sort b_fled ((0 : Int32)) ((-1 : Int32)) b_bestHarms b_bestRage b_harmed b_raged, xI cy ((M 2)) 39 b_now, xI cy ((M 12)) 40 b_roster]) C hw zp_X8_220 0 rfl rfl rfl (Nat.le_of_ble_eq_true rfl) rfl dX8_go_9 (fun H locs hw => ?_)
  refine lv_iconst (pc := 12) (v := 0) hx hb dX8_go_12 (by decide) ?_
  refine lv_istore_n (pc := 13) (lv' := [(3, .int ((0 : Int32))), (2, .int ((0 : Int32))), (0, .ref ((M 0))), (1, .int x1)]) hx hb dX8_go_13 rfl hl (by decide) rfl (fun ls hl => ?_)
  exact J14 FU x1 ((0 : Int32)) ((0 : Int32)) b_now b_fled ((0 : Int32)) ((-1 : Int32)) _ _ _ hf hw (lv_sub hl [2, 3, 1, 0] rfl)
def zf_X8_behind_72 (b_holds : Nat → Int32) (b_sizes : Nat → Int32) (b_elements : Nat → Int64) (t0 : Int32) (b_refused : Nat → Int32) (b_now : Nat → Int32) (b_minds : Nat → Int32) (b_fled : Bool) (b_roster : Nat → Int32) (b_flights : Int32) (b_firstFlight : Int32) : Option (Int32 × (Nat → Int32) × (Nat → Int32) × (Nat → Int32) × Bool × (Nat → Int32) × Int32 × Int32) := (Option.bind (zf_X8_lay (((0 : Int32))) b_now b_minds) (fun u10 => some (t0, b_refused, u10, b_minds, b_fled, b_roster, b_flights, b_firstFlight)))
def zf_X8_behind (x1 : Int32) (x2 : Int32) (x3 : Int32) (b_refused : Nat → Int32) (b_now : Nat → Int32) (b_minds : Nat → Int32) (b_fled : Bool) (b_holds : Nat → Int32) (b_sizes : Nat → Int32) (b_elements : Nat → Int64) (b_roster : Nat → Int32) (b_flights : Int32) (b_firstFlight : Int32) : Option (Int32 × (Nat → Int32) × (Nat → Int32) × (Nat → Int32) × Bool × (Nat → Int32) × Int32 × Int32) := (Option.bind (zf_X8_isIn x3.toInt64 (((0 : Int64))) (((4 : Int64)))) (fun u1 => (Option.bind (zf_X8_load u1 x1 x2 b_now b_holds b_sizes b_elements b_roster) (fun u2 => (if 0 ≤ u2.1 then (Option.bind (zf_X8_keep (((0 : Int32))) b_now b_minds) (fun u4 => (Option.bind (zf_X8_go x2 b_now b_fled u2.2 b_flights b_firstFlight) (fun u5 => (if (3 : Int32) ≤ x3 then (if x3 = (3 : Int32) then zf_X8_behind_72 b_holds b_sizes b_elements u5.1 b_refused u5.2.1 u4 u5.2.2.1 u2.2 u5.2.2.2.1 u5.2.2.2.2 else zf_X8_behind_72 b_holds b_sizes b_elements u5.2.2.2.1 b_refused u5.2.1 u4 u5.2.2.1 u2.2 u5.2.2.2.1 u5.2.2.2.2) else (if ix (((33 : Int32) + x3)) 39 then zf_X8_behind_72 b_holds b_sizes b_elements ((u5.2.1 (((33 : Int32) + x3)).toNatClampNeg)) b_refused u5.2.1 u4 u5.2.2.1 u2.2 u5.2.2.2.1 u5.2.2.2.2 else none)))))) else (Option.bind (zf_X8_refuse u2.1 b_refused) (fun u9 => some (u9.1, u9.2, b_now, b_minds, b_fled, u2.2, b_flights, b_firstFlight))))))))
abbrev zr_X8_behind : Room := { frames := 5, cells := 0, slots := 0, locals := 116 }
set_option maxHeartbeats 4000000 in
set_option maxRecDepth 100000 in
theorem c_X8_behind (l : Launch) (G : va_G) (cy : Nat → ClassId) (tt : Nat → Nat) (M : Nat → Nat) (b_isKept : Bool) (b_size : Int32) (b_at : Int32) (b_from : Int32) (b_sort : Int32) (b_bestHarms : Int32) (b_bestRage : Int32) (b_harmed : Int64) (b_raged : Int64) (x1 : Int32) (x2 : Int32) (x3 : Int32) (b_refused : Nat → Int32) (b_now : Nat → Int32) (b_minds : Nat → Int32) (b_fled : Bool) (b_holds : Nat → Int32) (b_sizes : Nat → Int32) (b_elements : Nat → Int64) (b_roster : Nat → Int32) (b_flights : Int32) (b_firstFlight : Int32) (res : Int32 × (Nat → Int32) × (Nat → Int32) × (Nat → Int32) × Bool × (Nat → Int32) × Int32 × Int32) (hf : zf_X8_behind x1 x2 x3 b_refused b_now b_minds b_fled b_holds b_sizes b_elements b_roster b_flights b_firstFlight = some res) : zCT l yX8_behind cX8_behind 7 (some .int) zr_X8_behind G cy tt [.ref ((M 0)), .int x1, .int x2, .int x3] [xM M b_isKept b_size b_at b_from b_sort b_fled b_flights b_firstFlight b_bestHarms b_bestRage b_harmed b_raged, xI cy ((M 1)) 7 b_refused, xI cy ((M 2)) 39 b_now, xI cy ((M 4)) 273 b_minds, xI cy ((M 7)) 8 b_holds, xI cy ((M 8)) 8 b_sizes, xJ cy ((M 9)) 320 b_elements, xI cy ((M 12)) 40 b_roster] (some (.int res.1)) [xM M b_isKept b_size b_at b_from b_sort res.2.2.2.2.1 res.2.2.2.2.2.2.1 res.2.2.2.2.2.2.2 b_bestHarms b_bestRage b_harmed b_raged, xI cy ((M 1)) 7 res.2.1, xI cy ((M 2)) 39 res.2.2.1, xI cy ((M 4)) 273 res.2.2.2.1, xI cy ((M 7)) 8 b_holds, xI cy ((M 8)) 8 b_sizes, xJ cy ((M 9)) 320 b_elements, xI cy ((M 12)) 40 res.2.2.2.2.2.1] := by
  refine zk_start zn_X8 (Nat.le_of_ble_eq_true rfl) ?_
  intro p e s m args below meth c A ls Q C hr hQ hw hl
  have C : zCx p m c s args meth cX8_behind 7 RX8 G cy tt A := C
  have hx := C.1.1
  have hb := C.1.2.1
  have hl : lv_has ls 7 [(0, .ref ((M 0))), (1, .int x1), (2, .int x2), (3, .int x3)] := hl
  have J72 : ∀ (t0 : Int32) (b_refused : Nat → Int32) (b_now : Nat → Int32) (b_minds : Nat → Int32) (b_fled : Bool) (b_roster : Nat → Int32) (b_flights : Int32) (b_firstFlight : Int32) (H : Heap) (locs : List Loc) (ls : Array Slot), zf_X8_behind_72 b_holds b_sizes b_elements t0 b_refused b_now b_minds b_fled b_roster b_flights b_firstFlight = some res → zWd G A s.heap H locs [xM M b_isKept b_size b_at b_from b_sort b_fled b_flights b_firstFlight b_bestHarms b_bestRage b_harmed b_raged, xI cy ((M 1)) 7 b_refused, xI cy ((M 2)) 39 b_now, xI cy ((M 4)) 273 b_minds, xI cy ((M 7)) 8 b_holds, xI cy ((M 8)) 8 b_sizes, xJ cy ((M 9)) 320 b_elements, xI cy ((M 12)) 40 b_roster] → lv_has ls 7 [(0, .ref ((M 0)))] → W p l e zr_X8_behind s m args below meth c H locs 0 0 Q (F0 m 72 ls [.int t0]) := by
    intro t0 b_refused b_now b_minds b_fled b_roster b_flights b_firstFlight H locs ls hf hw hl
    rw [zf_X8_behind_72] at hf
    refine lv_istore (pc := 72) (lv' := [(6, .int t0), (0, .ref ((M 0)))]) hx hb dX8_behind_72 hl (by decide) rfl (fun ls hl => ?_)
    refine lv_aload_n (pc := 74) hx hb dX8_behind_74 rfl (lv_at hl 1 rfl) ?_
    refine lv_iconst (pc := 75) (v := 0) hx hb dX8_behind_75 (by decide) ?_
    obtain ⟨u10, u10e, hf⟩ := bd hf
    refine zk_cV (pc := 76) (ci := 8) (q0 := 0) (rest := []) (st1 := []) (w' := [xM M b_isKept b_size b_at b_from b_sort b_fled b_flights b_firstFlight b_bestHarms b_bestRage b_harmed b_raged, xI cy ((M 1)) 7 b_refused, xI cy ((M 2)) 39 u10, xI cy ((M 4)) 273 b_minds, xI cy ((M 7)) 8 b_holds, xI cy ((M 8)) 8 b_sizes, xJ cy ((M 9)) 320 b_elements, xI cy ((M 12)) 40 b_roster]) (mk := [none, none, some (xI cy ((M 2)) 39 u10), none, none, none, none, none]) C hw (c_X8_lay l G cy tt M b_isKept b_size b_at b_from b_sort b_fled b_flights b_firstFlight b_bestHarms b_bestRage b_harmed b_raged (((0 : Int32))) b_now b_minds _ u10e) zy_X8_lay zm_X8_150 rfl rfl rfl [0, 2, 3] rfl rfl rfl rfl rfl rfl rfl rfl hl.1 ⟨rfl, rfl⟩ ⟨Nat.le_of_ble_eq_true rfl, Nat.le_of_ble_eq_true rfl⟩ rfl (Nat.le_of_ble_eq_true rfl) ⟨Nat.zero_le _, Nat.zero_le _⟩ dX8_behind_76 (fun H locs hw => ?_)
    refine lv_iload (pc := 79) hx hb dX8_behind_79 (lv_at hl 0 rfl) ?_
    have hf := Option.some.inj hf
    subst hf
    exact zk_reti (pc := 81) (ww := [xM M b_isKept b_size b_at b_from b_sort b_fled b_flights b_firstFlight b_bestHarms b_bestRage b_harmed b_raged, xI cy ((M 1)) 7 b_refused, xI cy ((M 2)) 39 u10, xI cy ((M 4)) 273 b_minds, xI cy ((M 7)) 8 b_holds, xI cy ((M 8)) 8 b_sizes, xJ cy ((M 9)) 320 b_elements, xI cy ((M 12)) 40 b_roster]) C hw hr hQ dX8_behind_81
  rw [zf_X8_behind] at hf
  refine lv_aload_n (pc := 0) hx hb dX8_behind_0 rfl (lv_at hl 0 rfl) ?_
  refine lv_iload_n (pc := 1) hx hb dX8_behind_1 rfl (lv_at hl 3 rfl) ?_
  refine lv_i2l (pc := 2) (v := x3.toInt64) hx hb dX8_behind_2 rfl ?_
  refine lv_lconst (pc := 3) (v := 0) hx hb dX8_behind_3 (by decide) ?_
  refine lv_ldc2 (pc := 4) (v := 4) hx hb C.1.2.2.2.1 (C.1.2.2.2.2 _ zc_X8_101) dX8_behind_4 ?_
  obtain ⟨u1, u1e, hf⟩ := bd hf
  refine zk_cS (pc := 7) (rest := [.ref ((M 0))]) (st1 := [.int (bI u1), .ref ((M 0))]) (w' := [xM M b_isKept b_size b_at b_from b_sort b_fled b_flights b_firstFlight b_bestHarms b_bestRage b_harmed b_raged, xI cy ((M 1)) 7 b_refused, xI cy ((M 2)) 39 b_now, xI cy ((M 4)) 273 b_minds, xI cy ((M 7)) 8 b_holds, xI cy ((M 8)) 8 b_sizes, xJ cy ((M 9)) 320 b_elements, xI cy ((M 12)) 40 b_roster]) (mk := [none, none, none, none, none, none, none, none]) C hw (c_X8_isIn l G cy tt x3.toInt64 (((0 : Int64))) (((4 : Int64))) _ u1e) zy_X8_isIn zm_X8_68 [] rfl rfl rfl rfl rfl rfl rfl rfl hl.1 ⟨rfl, rfl⟩ ⟨Nat.le_of_ble_eq_true rfl, Nat.le_of_ble_eq_true rfl⟩ rfl (Nat.le_of_ble_eq_true rfl) ⟨Nat.zero_le _, Nat.zero_le _⟩ dX8_behind_7 (fun H locs hw => ?_)
  refine lv_iload_n (pc := 10) hx hb dX8_behind_10 rfl (lv_at hl 1 rfl) ?_
  refine lv_iload_n (pc := 11) hx hb dX8_behind_11 rfl (lv_at hl 2 rfl) ?_
  obtain ⟨u2, u2e, hf⟩ := bd hf
  refine zk_cV (pc := 12) (ci := 8) (q0 := 0) (rest := []) (st1 := [.int u2.1]) (w' := [xM M b_isKept b_size b_at b_from b_sort b_fled b_flights b_firstFlight b_bestHarms b_bestRage b_harmed b_raged, xI cy ((M 1)) 7 b_refused, xI cy ((M 2)) 39 b_now, xI cy ((M 4)) 273 b_minds, xI cy ((M 7)) 8 b_holds, xI cy ((M 8)) 8 b_sizes, xJ cy ((M 9)) 320 b_elements, xI cy ((M 12)) 40 u2.2]) (mk := [none, none, none, none, none, none, none, some (xI cy ((M 12)) 40 u2.2)]) C hw (c_X8_load l G cy tt M b_isKept b_size b_at b_from b_sort b_fled b_flights b_firstFlight b_bestHarms b_bestRage b_harmed b_raged u1 x1 x2 b_now b_holds b_sizes b_elements b_roster _ u2e) zy_X8_load zm_X8_223 rfl rfl rfl [0, 2, 4, 5, 6, 7] rfl rfl rfl rfl rfl rfl rfl rfl hl.1 ⟨rfl, rfl⟩ ⟨Nat.le_of_ble_eq_true rfl, Nat.le_of_ble_eq_true rfl⟩ rfl (Nat.le_of_ble_eq_true rfl) ⟨Nat.zero_le _, Nat.zero_le _⟩ dX8_behind_12 (fun H locs hw => ?_)
  refine lv_istore (pc := 15) (lv' := [(4, .int u2.1), (0, .ref ((M 0))), (1, .int x1), (2, .int x2), (3, .int x3)]) hx hb dX8_behind_15 hl (by decide) rfl (fun ls hl => ?_)
  refine lv_iload (pc := 17) hx hb dX8_behind_17 (lv_at hl 0 rfl) ?_
  refine lv_if_ge (pc := 19) (tgt := 29) hx hb dX8_behind_19 (by decide) (fun q3 => ?_) (fun q3 => ?_)
  · replace hf := if_t q3 hf
    refine lv_aload_n (pc := 29) hx hb dX8_behind_29 rfl (lv_at hl 1 rfl) ?_
    refine lv_iconst (pc := 30) (v := 0) hx hb dX8_behind_30 (by decide) ?_
    obtain ⟨u4, u4e, hf⟩ := bd hf
    refine zk_cV (pc := 31) (ci := 8) (q0 := 0) (rest := []) (st1 := []) (w' := [xM M b_isKept b_size b_at b_from b_sort b_fled b_flights b_firstFlight b_bestHarms b_bestRage b_harmed b_raged, xI cy ((M 1)) 7 b_refused, xI cy ((M 2)) 39 b_now, xI cy ((M 4)) 273 u4, xI cy ((M 7)) 8 b_holds, xI cy ((M 8)) 8 b_sizes, xJ cy ((M 9)) 320 b_elements, xI cy ((M 12)) 40 u2.2]) (mk := [none, none, none, some (xI cy ((M 4)) 273 u4), none, none, none, none]) C hw (c_X8_keep l G cy tt M b_isKept b_size b_at b_from b_sort b_fled b_flights b_firstFlight b_bestHarms b_bestRage b_harmed b_raged (((0 : Int32))) b_now b_minds _ u4e) zy_X8_keep zm_X8_142 rfl rfl rfl [0, 2, 3] rfl rfl rfl rfl rfl rfl rfl rfl hl.1 ⟨rfl, rfl⟩ ⟨Nat.le_of_ble_eq_true rfl, Nat.le_of_ble_eq_true rfl⟩ rfl (Nat.le_of_ble_eq_true rfl) ⟨Nat.zero_le _, Nat.zero_le _⟩ dX8_behind_31 (fun H locs hw => ?_)
    refine lv_aload_n (pc := 34) hx hb dX8_behind_34 rfl (lv_at hl 1 rfl) ?_
    refine lv_iload_n (pc := 35) hx hb dX8_behind_35 rfl (lv_at hl 3 rfl) ?_
    obtain ⟨u5, u5e, hf⟩ := bd hf
    refine zk_cV (pc := 36) (ci := 8) (q0 := 0) (rest := []) (st1 := [.int u5.1]) (w' := [xM M b_isKept b_size b_at b_from b_sort u5.2.2.1 u5.2.2.2.1 u5.2.2.2.2 b_bestHarms b_bestRage b_harmed b_raged, xI cy ((M 1)) 7 b_refused, xI cy ((M 2)) 39 u5.2.1, xI cy ((M 4)) 273 u4, xI cy ((M 7)) 8 b_holds, xI cy ((M 8)) 8 b_sizes, xJ cy ((M 9)) 320 b_elements, xI cy ((M 12)) 40 u2.2]) (mk := [some (xM M b_isKept b_size b_at b_from b_sort u5.2.2.1 u5.2.2.2.1 u5.2.2.2.2 b_bestHarms b_bestRage b_harmed b_raged), none, some (xI cy ((M 2)) 39 u5.2.1), none, none, none, none, none]) C hw (c_X8_go l G cy tt M b_isKept b_size b_at b_from b_sort b_bestHarms b_bestRage b_harmed b_raged x2 b_now b_fled u2.2 b_flights b_firstFlight _ u5e) zy_X8_go zm_X8_226 rfl rfl rfl [0, 2, 7] rfl rfl rfl rfl rfl rfl rfl rfl hl.1 ⟨rfl, rfl⟩ ⟨Nat.le_of_ble_eq_true rfl, Nat.le_of_ble_eq_true rfl⟩ rfl (Nat.le_of_ble_eq_true rfl) ⟨Nat.zero_le _, Nat.zero_le _⟩ dX8_behind_36 (fun H locs hw => ?_)
    refine lv_istore (pc := 39) (lv' := [(5, .int u5.1), (4, .int u2.1), (0, .ref ((M 0))), (1, .int x1), (2, .int x2), (3, .int x3)]) hx hb dX8_behind_39 hl (by decide) rfl (fun ls hl => ?_)
    refine lv_iload_n (pc := 41) hx hb dX8_behind_41 rfl (lv_at hl 5 rfl) ?_
    refine lv_iconst (pc := 42) (v := 3) hx hb dX8_behind_42 (by decide) ?_
    refine lv_icmp_ge (pc := 43) (tgt := 58) hx hb dX8_behind_43 (by decide) (fun q6 => ?_) (fun q6 => ?_)
    · replace hf := if_t q6 hf
      refine lv_iload_n (pc := 58) hx hb dX8_behind_58 rfl (lv_at hl 5 rfl) ?_
      refine lv_iconst (pc := 59) (v := 3) hx hb dX8_behind_59 (by decide) ?_
      refine lv_icmp_ne (pc := 60) (tgt := 68) hx hb dX8_behind_60 (by decide) (fun q7 => ?_) (fun q7 => ?_)
      · replace hf := if_f q7 hf
        refine lv_aload_n (pc := 68) hx hb dX8_behind_68 rfl (lv_at hl 2 rfl) ?_
        refine zk_gt (pc := 69) C hw zl_X8_217 0 rfl rfl dX8_behind_69 ?_
        exact J72 u5.2.2.2.1 b_refused u5.2.1 u4 u5.2.2.1 u2.2 u5.2.2.2.1 u5.2.2.2.2 _ _ _ hf hw (lv_sub hl [2] rfl)
      · replace hf := if_t q7 hf
        refine lv_iload (pc := 63) hx hb dX8_behind_63 (lv_at hl 0 rfl) ?_
        refine lv_goto (pc := 65) (tgt := 72) hx hb dX8_behind_65 (by decide) ?_
        exact J72 u5.1 b_refused u5.2.1 u4 u5.2.2.1 u2.2 u5.2.2.2.1 u5.2.2.2.2 _ _ _ hf hw (lv_sub hl [2] rfl)
    · replace hf := if_f q6 hf
      refine lv_aload_n (pc := 46) hx hb dX8_behind_46 rfl (lv_at hl 2 rfl) ?_
      refine zk_gt (pc := 47) C hw zl_X8_17 0 rfl rfl dX8_behind_47 ?_
      refine lv_bipush (pc := 50) (v := 33) hx hb dX8_behind_50 (by decide) ?_
      refine lv_iload_n (pc := 52) hx hb dX8_behind_52 rfl (lv_at hl 5 rfl) ?_
      refine lv_iadd (pc := 53) hx hb dX8_behind_53 ?_
      obtain ⟨q8, hf⟩ := ck hf
      refine zk_iald (pc := 54) C hw 2 rfl q8 dX8_behind_54 ?_
      refine lv_goto (pc := 55) (tgt := 72) hx hb dX8_behind_55 (by decide) ?_
      exact J72 ((u5.2.1 (((33 : Int32) + x3)).toNatClampNeg)) b_refused u5.2.1 u4 u5.2.2.1 u2.2 u5.2.2.2.1 u5.2.2.2.2 _ _ _ hf hw (lv_sub hl [2] rfl)
  · replace hf := if_f q3 hf
    refine lv_aload_n (pc := 22) hx hb dX8_behind_22 rfl (lv_at hl 1 rfl) ?_
    refine lv_iload (pc := 23) hx hb dX8_behind_23 (lv_at hl 0 rfl) ?_
    obtain ⟨u9, u9e, hf⟩ := bd hf
    refine zk_cV (pc := 25) (ci := 8) (q0 := 0) (rest := []) (st1 := [.int u9.1]) (w' := [xM M b_isKept b_size b_at b_from b_sort b_fled b_flights b_firstFlight b_bestHarms b_bestRage b_harmed b_raged, xI cy ((M 1)) 7 u9.2, xI cy ((M 2)) 39 b_now, xI cy ((M 4)) 273 b_minds, xI cy ((M 7)) 8 b_holds, xI cy ((M 8)) 8 b_sizes, xJ cy ((M 9)) 320 b_elements, xI cy ((M 12)) 40 u2.2]) (mk := [none, some (xI cy ((M 1)) 7 u9.2), none, none, none, none, none, none]) C hw (c_X8_refuse l G cy tt M b_isKept b_size b_at b_from b_sort b_fled b_flights b_firstFlight b_bestHarms b_bestRage b_harmed b_raged u2.1 b_refused _ u9e) zy_X8_refuse zm_X8_90 rfl rfl rfl [0, 1] rfl rfl rfl rfl rfl rfl rfl rfl hl.1 ⟨rfl, rfl⟩ ⟨Nat.le_of_ble_eq_true rfl, Nat.le_of_ble_eq_true rfl⟩ rfl (Nat.le_of_ble_eq_true rfl) ⟨Nat.zero_le _, Nat.zero_le _⟩ dX8_behind_25 (fun H locs hw => ?_)
    have hf := Option.some.inj hf
    subst hf
    exact zk_reti (pc := 28) (ww := [xM M b_isKept b_size b_at b_from b_sort b_fled b_flights b_firstFlight b_bestHarms b_bestRage b_harmed b_raged, xI cy ((M 1)) 7 u9.2, xI cy ((M 2)) 39 b_now, xI cy ((M 4)) 273 b_minds, xI cy ((M 7)) 8 b_holds, xI cy ((M 8)) 8 b_sizes, xJ cy ((M 9)) 320 b_elements, xI cy ((M 12)) 40 u2.2]) C hw hr hQ dX8_behind_28
def zf_X8_unkept (x1 : Int32) (x2 : Int32) (b_refused : Nat → Int32) (b_now : Nat → Int32) (b_minds : Nat → Int32) (b_fled : Bool) (b_holds : Nat → Int32) (b_sizes : Nat → Int32) (b_elements : Nat → Int64) (b_roster : Nat → Int32) (b_flights : Int32) (b_firstFlight : Int32) : Option (Int32 × (Nat → Int32) × (Nat → Int32) × (Nat → Int32) × Bool × (Nat → Int32) × Int32 × Int32) := (Option.bind (zf_X8_load true x1 x2 b_now b_holds b_sizes b_elements b_roster) (fun u1 => (if 0 ≤ u1.1 then (Option.bind (zf_X8_keep (((0 : Int32))) b_now b_minds) (fun u3 => (Option.bind (zf_X8_go x2 b_now b_fled u1.2 b_flights b_firstFlight) (fun u4 => (Option.bind (zf_X8_lay (((0 : Int32))) u4.2.1 u3) (fun u5 => some (u4.2.2.2.2, b_refused, u5, u3, u4.2.2.1, u1.2, u4.2.2.2.1, u4.2.2.2.2))))))) else (Option.bind (zf_X8_refuse u1.1 b_refused) (fun u6 => some (u6.1, u6.2, b_now, b_minds, b_fled, u1.2, b_flights, b_firstFlight))))))
abbrev zr_X8_unkept : Room := { frames := 5, cells := 0, slots := 0, locals := 116 }
set_option maxHeartbeats 4000000 in
set_option maxRecDepth 100000 in
theorem c_X8_unkept (l : Launch) (G : va_G) (cy : Nat → ClassId) (tt : Nat → Nat) (M : Nat → Nat) (b_isKept : Bool) (b_size : Int32) (b_at : Int32) (b_from : Int32) (b_sort : Int32) (b_bestHarms : Int32) (b_bestRage : Int32) (b_harmed : Int64) (b_raged : Int64) (x1 : Int32) (x2 : Int32) (b_refused : Nat → Int32) (b_now : Nat → Int32) (b_minds : Nat → Int32) (b_fled : Bool) (b_holds : Nat → Int32) (b_sizes : Nat → Int32) (b_elements : Nat → Int64) (b_roster : Nat → Int32) (b_flights : Int32) (b_firstFlight : Int32) (res : Int32 × (Nat → Int32) × (Nat → Int32) × (Nat → Int32) × Bool × (Nat → Int32) × Int32 × Int32) (hf : zf_X8_unkept x1 x2 b_refused b_now b_minds b_fled b_holds b_sizes b_elements b_roster b_flights b_firstFlight = some res) : zCT l yX8_unkept cX8_unkept 4 (some .int) zr_X8_unkept G cy tt [.ref ((M 0)), .int x1, .int x2] [xM M b_isKept b_size b_at b_from b_sort b_fled b_flights b_firstFlight b_bestHarms b_bestRage b_harmed b_raged, xI cy ((M 1)) 7 b_refused, xI cy ((M 2)) 39 b_now, xI cy ((M 4)) 273 b_minds, xI cy ((M 7)) 8 b_holds, xI cy ((M 8)) 8 b_sizes, xJ cy ((M 9)) 320 b_elements, xI cy ((M 12)) 40 b_roster] (some (.int res.1)) [xM M b_isKept b_size b_at b_from b_sort res.2.2.2.2.1 res.2.2.2.2.2.2.1 res.2.2.2.2.2.2.2 b_bestHarms b_bestRage b_harmed b_raged, xI cy ((M 1)) 7 res.2.1, xI cy ((M 2)) 39 res.2.2.1, xI cy ((M 4)) 273 res.2.2.2.1, xI cy ((M 7)) 8 b_holds, xI cy ((M 8)) 8 b_sizes, xJ cy ((M 9)) 320 b_elements, xI cy ((M 12)) 40 res.2.2.2.2.2.1] := by
  refine zk_start zn_X8 (Nat.le_of_ble_eq_true rfl) ?_
  intro p e s m args below meth c A ls Q C hr hQ hw hl
  have C : zCx p m c s args meth cX8_unkept 4 RX8 G cy tt A := C
  have hx := C.1.1
  have hb := C.1.2.1
  have hl : lv_has ls 4 [(0, .ref ((M 0))), (1, .int x1), (2, .int x2)] := hl
  rw [zf_X8_unkept] at hf
  refine lv_aload_n (pc := 0) hx hb dX8_unkept_0 rfl (lv_at hl 0 rfl) ?_
  refine lv_iconst (pc := 1) (v := 1) hx hb dX8_unkept_1 (by decide) ?_
  refine lv_iload_n (pc := 2) hx hb dX8_unkept_2 rfl (lv_at hl 1 rfl) ?_
  refine lv_iload_n (pc := 3) hx hb dX8_unkept_3 rfl (lv_at hl 2 rfl) ?_
  obtain ⟨u1, u1e, hf⟩ := bd hf
  refine zk_cV (pc := 4) (ci := 8) (q0 := 0) (rest := []) (st1 := [.int u1.1]) (w' := [xM M b_isKept b_size b_at b_from b_sort b_fled b_flights b_firstFlight b_bestHarms b_bestRage b_harmed b_raged, xI cy ((M 1)) 7 b_refused, xI cy ((M 2)) 39 b_now, xI cy ((M 4)) 273 b_minds, xI cy ((M 7)) 8 b_holds, xI cy ((M 8)) 8 b_sizes, xJ cy ((M 9)) 320 b_elements, xI cy ((M 12)) 40 u1.2]) (mk := [none, none, none, none, none, none, none, some (xI cy ((M 12)) 40 u1.2)]) C hw (c_X8_load l G cy tt M b_isKept b_size b_at b_from b_sort b_fled b_flights b_firstFlight b_bestHarms b_bestRage b_harmed b_raged true x1 x2 b_now b_holds b_sizes b_elements b_roster _ u1e) zy_X8_load zm_X8_223 rfl rfl rfl [0, 2, 4, 5, 6, 7] rfl rfl rfl rfl rfl rfl rfl rfl hl.1 ⟨rfl, rfl⟩ ⟨Nat.le_of_ble_eq_true rfl, Nat.le_of_ble_eq_true rfl⟩ rfl (Nat.le_of_ble_eq_true rfl) ⟨Nat.zero_le _, Nat.zero_le _⟩ dX8_unkept_4 (fun H locs hw => ?_)
  refine lv_istore_n (pc := 7) (lv' := [(3, .int u1.1), (0, .ref ((M 0))), (1, .int x1), (2, .int x2)]) hx hb dX8_unkept_7 rfl hl (by decide) rfl (fun ls hl => ?_)
  refine lv_iload_n (pc := 8) hx hb dX8_unkept_8 rfl (lv_at hl 0 rfl) ?_
  refine lv_if_ge (pc := 9) (tgt := 18) hx hb dX8_unkept_9 (by decide) (fun q2 => ?_) (fun q2 => ?_)
  · replace hf := if_t q2 hf
    refine lv_aload_n (pc := 18) hx hb dX8_unkept_18 rfl (lv_at hl 1 rfl) ?_
    refine lv_iconst (pc := 19) (v := 0) hx hb dX8_unkept_19 (by decide) ?_
    obtain ⟨u3, u3e, hf⟩ := bd hf
    refine zk_cV (pc := 20) (ci := 8) (q0 := 0) (rest := []) (st1 := []) (w' := [xM M b_isKept b_size b_at b_from b_sort b_fled b_flights b_firstFlight b_bestHarms b_bestRage b_harmed b_raged, xI cy ((M 1)) 7 b_refused, xI cy ((M 2)) 39 b_now, xI cy ((M 4)) 273 u3, xI cy ((M 7)) 8 b_holds, xI cy ((M 8)) 8 b_sizes, xJ cy ((M 9)) 320 b_elements, xI cy ((M 12)) 40 u1.2]) (mk := [none, none, none, some (xI cy ((M 4)) 273 u3), none, none, none, none]) C hw (c_X8_keep l G cy tt M b_isKept b_size b_at b_from b_sort b_fled b_flights b_firstFlight b_bestHarms b_bestRage b_harmed b_raged (((0 : Int32))) b_now b_minds _ u3e) zy_X8_keep zm_X8_142 rfl rfl rfl [0, 2, 3] rfl rfl rfl rfl rfl rfl rfl rfl hl.1 ⟨rfl, rfl⟩ ⟨Nat.le_of_ble_eq_true rfl, Nat.le_of_ble_eq_true rfl⟩ rfl (Nat.le_of_ble_eq_true rfl) ⟨Nat.zero_le _, Nat.zero_le _⟩ dX8_unkept_20 (fun H locs hw => ?_)
    refine lv_aload_n (pc := 23) hx hb dX8_unkept_23 rfl (lv_at hl 1 rfl) ?_
    refine lv_iload_n (pc := 24) hx hb dX8_unkept_24 rfl (lv_at hl 3 rfl) ?_
    obtain ⟨u4, u4e, hf⟩ := bd hf
    refine zk_cV (pc := 25) (ci := 8) (q0 := 0) (rest := []) (st1 := [.int u4.1]) (w' := [xM M b_isKept b_size b_at b_from b_sort u4.2.2.1 u4.2.2.2.1 u4.2.2.2.2 b_bestHarms b_bestRage b_harmed b_raged, xI cy ((M 1)) 7 b_refused, xI cy ((M 2)) 39 u4.2.1, xI cy ((M 4)) 273 u3, xI cy ((M 7)) 8 b_holds, xI cy ((M 8)) 8 b_sizes, xJ cy ((M 9)) 320 b_elements, xI cy ((M 12)) 40 u1.2]) (mk := [some (xM M b_isKept b_size b_at b_from b_sort u4.2.2.1 u4.2.2.2.1 u4.2.2.2.2 b_bestHarms b_bestRage b_harmed b_raged), none, some (xI cy ((M 2)) 39 u4.2.1), none, none, none, none, none]) C hw (c_X8_go l G cy tt M b_isKept b_size b_at b_from b_sort b_bestHarms b_bestRage b_harmed b_raged x2 b_now b_fled u1.2 b_flights b_firstFlight _ u4e) zy_X8_go zm_X8_226 rfl rfl rfl [0, 2, 7] rfl rfl rfl rfl rfl rfl rfl rfl hl.1 ⟨rfl, rfl⟩ ⟨Nat.le_of_ble_eq_true rfl, Nat.le_of_ble_eq_true rfl⟩ rfl (Nat.le_of_ble_eq_true rfl) ⟨Nat.zero_le _, Nat.zero_le _⟩ dX8_unkept_25 (fun H locs hw => ?_)
    refine lv_pop (pc := 28) hx hb dX8_unkept_28 rfl ?_
    refine lv_aload_n (pc := 29) hx hb dX8_unkept_29 rfl (lv_at hl 1 rfl) ?_
    refine lv_iconst (pc := 30) (v := 0) hx hb dX8_unkept_30 (by decide) ?_
    obtain ⟨u5, u5e, hf⟩ := bd hf
    refine zk_cV (pc := 31) (ci := 8) (q0 := 0) (rest := []) (st1 := []) (w' := [xM M b_isKept b_size b_at b_from b_sort u4.2.2.1 u4.2.2.2.1 u4.2.2.2.2 b_bestHarms b_bestRage b_harmed b_raged, xI cy ((M 1)) 7 b_refused, xI cy ((M 2)) 39 u5, xI cy ((M 4)) 273 u3, xI cy ((M 7)) 8 b_holds, xI cy ((M 8)) 8 b_sizes, xJ cy ((M 9)) 320 b_elements, xI cy ((M 12)) 40 u1.2]) (mk := [none, none, some (xI cy ((M 2)) 39 u5), none, none, none, none, none]) C hw (c_X8_lay l G cy tt M b_isKept b_size b_at b_from b_sort u4.2.2.1 u4.2.2.2.1 u4.2.2.2.2 b_bestHarms b_bestRage b_harmed b_raged (((0 : Int32))) u4.2.1 u3 _ u5e) zy_X8_lay zm_X8_150 rfl rfl rfl [0, 2, 3] rfl rfl rfl rfl rfl rfl rfl rfl hl.1 ⟨rfl, rfl⟩ ⟨Nat.le_of_ble_eq_true rfl, Nat.le_of_ble_eq_true rfl⟩ rfl (Nat.le_of_ble_eq_true rfl) ⟨Nat.zero_le _, Nat.zero_le _⟩ dX8_unkept_31 (fun H locs hw => ?_)
    refine lv_aload_n (pc := 34) hx hb dX8_unkept_34 rfl (lv_at hl 1 rfl) ?_
    refine zk_gt (pc := 35) C hw zl_X8_220 0 rfl rfl dX8_unkept_35 ?_
    have hf := Option.some.inj hf
    subst hf
    exact zk_reti (pc := 38) (ww := [xM M b_isKept b_size b_at b_from b_sort u4.2.2.1 u4.2.2.2.1 u4.2.2.2.2 b_bestHarms b_bestRage b_harmed b_raged, xI cy ((M 1)) 7 b_refused, xI cy ((M 2)) 39 u5, xI cy ((M 4)) 273 u3, xI cy ((M 7)) 8 b_holds, xI cy ((M 8)) 8 b_sizes, xJ cy ((M 9)) 320 b_elements, xI cy ((M 12)) 40 u1.2]) C hw hr hQ dX8_unkept_38
  · replace hf := if_f q2 hf
    refine lv_aload_n (pc := 12) hx hb dX8_unkept_12 rfl (lv_at hl 1 rfl) ?_
    refine lv_iload_n (pc := 13) hx hb dX8_unkept_13 rfl (lv_at hl 0 rfl) ?_
    obtain ⟨u6, u6e, hf⟩ := bd hf
    refine zk_cV (pc := 14) (ci := 8) (q0 := 0) (rest := []) (st1 := [.int u6.1]) (w' := [xM M b_isKept b_size b_at b_from b_sort b_fled b_flights b_firstFlight b_bestHarms b_bestRage b_harmed b_raged, xI cy ((M 1)) 7 u6.2, xI cy ((M 2)) 39 b_now, xI cy ((M 4)) 273 b_minds, xI cy ((M 7)) 8 b_holds, xI cy ((M 8)) 8 b_sizes, xJ cy ((M 9)) 320 b_elements, xI cy ((M 12)) 40 u1.2]) (mk := [none, some (xI cy ((M 1)) 7 u6.2), none, none, none, none, none, none]) C hw (c_X8_refuse l G cy tt M b_isKept b_size b_at b_from b_sort b_fled b_flights b_firstFlight b_bestHarms b_bestRage b_harmed b_raged u1.1 b_refused _ u6e) zy_X8_refuse zm_X8_90 rfl rfl rfl [0, 1] rfl rfl rfl rfl rfl rfl rfl rfl hl.1 ⟨rfl, rfl⟩ ⟨Nat.le_of_ble_eq_true rfl, Nat.le_of_ble_eq_true rfl⟩ rfl (Nat.le_of_ble_eq_true rfl) ⟨Nat.zero_le _, Nat.zero_le _⟩ dX8_unkept_14 (fun H locs hw => ?_)
    have hf := Option.some.inj hf
    subst hf
    exact zk_reti (pc := 17) (ww := [xM M b_isKept b_size b_at b_from b_sort b_fled b_flights b_firstFlight b_bestHarms b_bestRage b_harmed b_raged, xI cy ((M 1)) 7 u6.2, xI cy ((M 2)) 39 b_now, xI cy ((M 4)) 273 b_minds, xI cy ((M 7)) 8 b_holds, xI cy ((M 8)) 8 b_sizes, xJ cy ((M 9)) 320 b_elements, xI cy ((M 12)) 40 u1.2]) C hw hr hQ dX8_unkept_17
def zf_X8_judge (x1 : Int32) (x2 : Int32) (b_refused : Nat → Int32) (b_now : Nat → Int32) (b_holds : Nat → Int32) (b_sizes : Nat → Int32) (b_elements : Nat → Int64) (b_roster : Nat → Int32) : Option (Int32 × (Nat → Int32) × (Nat → Int32)) := (Option.bind (zf_X8_rows true x1 x2 b_holds b_sizes) (fun u1 => (if 0 ≤ u1 then (Option.bind (zf_X8_wrong x1 x2 b_now b_elements b_roster) (fun u3 => some (u3.1, b_refused, u3.2))) else (Option.bind (zf_X8_refuse u1 b_refused) (fun u4 => some (u4.1, u4.2, b_roster))))))
abbrev zr_X8_judge : Room := { frames := 4, cells := 0, slots := 0, locals := 92 }
set_option maxHeartbeats 4000000 in
set_option maxRecDepth 100000 in
theorem c_X8_judge (l : Launch) (G : va_G) (cy : Nat → ClassId) (tt : Nat → Nat) (M : Nat → Nat) (b_isKept : Bool) (b_size : Int32) (b_at : Int32) (b_from : Int32) (b_sort : Int32) (b_fled : Bool) (b_flights : Int32) (b_firstFlight : Int32) (b_bestHarms : Int32) (b_bestRage : Int32) (b_harmed : Int64) (b_raged : Int64) (x1 : Int32) (x2 : Int32) (b_refused : Nat → Int32) (b_now : Nat → Int32) (b_holds : Nat → Int32) (b_sizes : Nat → Int32) (b_elements : Nat → Int64) (b_roster : Nat → Int32) (res : Int32 × (Nat → Int32) × (Nat → Int32)) (hf : zf_X8_judge x1 x2 b_refused b_now b_holds b_sizes b_elements b_roster = some res) : zCT l yX8_judge cX8_judge 4 (some .int) zr_X8_judge G cy tt [.ref ((M 0)), .int x1, .int x2] [xM M b_isKept b_size b_at b_from b_sort b_fled b_flights b_firstFlight b_bestHarms b_bestRage b_harmed b_raged, xI cy ((M 1)) 7 b_refused, xI cy ((M 2)) 39 b_now, xI cy ((M 7)) 8 b_holds, xI cy ((M 8)) 8 b_sizes, xJ cy ((M 9)) 320 b_elements, xI cy ((M 12)) 40 b_roster] (some (.int res.1)) [xM M b_isKept b_size b_at b_from b_sort b_fled b_flights b_firstFlight b_bestHarms b_bestRage b_harmed b_raged, xI cy ((M 1)) 7 res.2.1, xI cy ((M 2)) 39 b_now, xI cy ((M 7)) 8 b_holds, xI cy ((M 8)) 8 b_sizes, xJ cy ((M 9)) 320 b_elements, xI cy ((M 12)) 40 res.2.2] := by
  refine zk_start zn_X8 (Nat.le_of_ble_eq_true rfl) ?_
  intro p e s m args below meth c A ls Q C hr hQ hw hl
  have C : zCx p m c s args meth cX8_judge 4 RX8 G cy tt A := C
  have hx := C.1.1
  have hb := C.1.2.1
  have hl : lv_has ls 4 [(0, .ref ((M 0))), (1, .int x1), (2, .int x2)] := hl
  rw [zf_X8_judge] at hf
  refine lv_aload_n (pc := 0) hx hb dX8_judge_0 rfl (lv_at hl 0 rfl) ?_
  refine lv_iconst (pc := 1) (v := 1) hx hb dX8_judge_1 (by decide) ?_
  refine lv_iload_n (pc := 2) hx hb dX8_judge_2 rfl (lv_at hl 1 rfl) ?_
  refine lv_iload_n (pc := 3) hx hb dX8_judge_3 rfl (lv_at hl 2 rfl) ?_
  obtain ⟨u1, u1e, hf⟩ := bd hf
  refine zk_cV (pc := 4) (ci := 8) (q0 := 0) (rest := []) (st1 := [.int u1]) (w' := [xM M b_isKept b_size b_at b_from b_sort b_fled b_flights b_firstFlight b_bestHarms b_bestRage b_harmed b_raged, xI cy ((M 1)) 7 b_refused, xI cy ((M 2)) 39 b_now, xI cy ((M 7)) 8 b_holds, xI cy ((M 8)) 8 b_sizes, xJ cy ((M 9)) 320 b_elements, xI cy ((M 12)) 40 b_roster]) (mk := [none, none, none, none, none, none, none]) C hw (c_X8_rows l G cy tt M b_isKept b_size b_at b_from b_sort b_fled b_flights b_firstFlight b_bestHarms b_bestRage b_harmed b_raged true x1 x2 b_holds b_sizes _ u1e) zy_X8_rows zm_X8_210 rfl rfl rfl [0, 3, 4] rfl rfl rfl rfl rfl rfl rfl rfl hl.1 ⟨rfl, rfl⟩ ⟨Nat.le_of_ble_eq_true rfl, Nat.le_of_ble_eq_true rfl⟩ rfl (Nat.le_of_ble_eq_true rfl) ⟨Nat.zero_le _, Nat.zero_le _⟩ dX8_judge_4 (fun H locs hw => ?_)
  refine lv_istore_n (pc := 7) (lv' := [(3, .int u1), (0, .ref ((M 0))), (1, .int x1), (2, .int x2)]) hx hb dX8_judge_7 rfl hl (by decide) rfl (fun ls hl => ?_)
  refine lv_iload_n (pc := 8) hx hb dX8_judge_8 rfl (lv_at hl 0 rfl) ?_
  refine lv_if_ge (pc := 9) (tgt := 20) hx hb dX8_judge_9 (by decide) (fun q2 => ?_) (fun q2 => ?_)
  · replace hf := if_t q2 hf
    refine lv_aload_n (pc := 20) hx hb dX8_judge_20 rfl (lv_at hl 1 rfl) ?_
    refine lv_iload_n (pc := 21) hx hb dX8_judge_21 rfl (lv_at hl 2 rfl) ?_
    refine lv_iload_n (pc := 22) hx hb dX8_judge_22 rfl (lv_at hl 3 rfl) ?_
    obtain ⟨u3, u3e, hf⟩ := bd hf
    refine zk_cV (pc := 23) (ci := 8) (q0 := 0) (rest := []) (st1 := [.int u3.1]) (w' := [xM M b_isKept b_size b_at b_from b_sort b_fled b_flights b_firstFlight b_bestHarms b_bestRage b_harmed b_raged, xI cy ((M 1)) 7 b_refused, xI cy ((M 2)) 39 b_now, xI cy ((M 7)) 8 b_holds, xI cy ((M 8)) 8 b_sizes, xJ cy ((M 9)) 320 b_elements, xI cy ((M 12)) 40 u3.2]) (mk := [none, none, none, none, none, none, some (xI cy ((M 12)) 40 u3.2)]) C hw (c_X8_wrong l G cy tt M b_isKept b_size b_at b_from b_sort b_fled b_flights b_firstFlight b_bestHarms b_bestRage b_harmed b_raged x1 x2 b_now b_elements b_roster _ u3e) zy_X8_wrong zm_X8_214 rfl rfl rfl [0, 2, 5, 6] rfl rfl rfl rfl rfl rfl rfl rfl hl.1 ⟨rfl, rfl⟩ ⟨Nat.le_of_ble_eq_true rfl, Nat.le_of_ble_eq_true rfl⟩ rfl (Nat.le_of_ble_eq_true rfl) ⟨Nat.zero_le _, Nat.zero_le _⟩ dX8_judge_23 (fun H locs hw => ?_)
    have hf := Option.some.inj hf
    subst hf
    exact zk_reti (pc := 26) (ww := [xM M b_isKept b_size b_at b_from b_sort b_fled b_flights b_firstFlight b_bestHarms b_bestRage b_harmed b_raged, xI cy ((M 1)) 7 b_refused, xI cy ((M 2)) 39 b_now, xI cy ((M 7)) 8 b_holds, xI cy ((M 8)) 8 b_sizes, xJ cy ((M 9)) 320 b_elements, xI cy ((M 12)) 40 u3.2]) C hw hr hQ dX8_judge_26
  · replace hf := if_f q2 hf
    refine lv_aload_n (pc := 12) hx hb dX8_judge_12 rfl (lv_at hl 1 rfl) ?_
    refine lv_iload_n (pc := 13) hx hb dX8_judge_13 rfl (lv_at hl 0 rfl) ?_
    obtain ⟨u4, u4e, hf⟩ := bd hf
    refine zk_cV (pc := 14) (ci := 8) (q0 := 0) (rest := []) (st1 := [.int u4.1]) (w' := [xM M b_isKept b_size b_at b_from b_sort b_fled b_flights b_firstFlight b_bestHarms b_bestRage b_harmed b_raged, xI cy ((M 1)) 7 u4.2, xI cy ((M 2)) 39 b_now, xI cy ((M 7)) 8 b_holds, xI cy ((M 8)) 8 b_sizes, xJ cy ((M 9)) 320 b_elements, xI cy ((M 12)) 40 b_roster]) (mk := [none, some (xI cy ((M 1)) 7 u4.2), none, none, none, none, none]) C hw (c_X8_refuse l G cy tt M b_isKept b_size b_at b_from b_sort b_fled b_flights b_firstFlight b_bestHarms b_bestRage b_harmed b_raged u1 b_refused _ u4e) zy_X8_refuse zm_X8_90 rfl rfl rfl [0, 1] rfl rfl rfl rfl rfl rfl rfl rfl hl.1 ⟨rfl, rfl⟩ ⟨Nat.le_of_ble_eq_true rfl, Nat.le_of_ble_eq_true rfl⟩ rfl (Nat.le_of_ble_eq_true rfl) ⟨Nat.zero_le _, Nat.zero_le _⟩ dX8_judge_14 (fun H locs hw => ?_)
    refine lv_goto (pc := 17) (tgt := 26) hx hb dX8_judge_17 (by decide) ?_
    have hf := Option.some.inj hf
    subst hf
    exact zk_reti (pc := 26) (ww := [xM M b_isKept b_size b_at b_from b_sort b_fled b_flights b_firstFlight b_bestHarms b_bestRage b_harmed b_raged, xI cy ((M 1)) 7 u4.2, xI cy ((M 2)) 39 b_now, xI cy ((M 7)) 8 b_holds, xI cy ((M 8)) 8 b_sizes, xJ cy ((M 9)) 320 b_elements, xI cy ((M 12)) 40 b_roster]) C hw hr hQ dX8_judge_26
def zf_X8_way_97 (b_holds : Nat → Int32) (b_sizes : Nat → Int32) (b_elements : Nat → Int64) (k58 : Int32 → Int32 → Int32 → Int32 → Int32 → Int32 → (Nat → Int32) → (Nat → Int32) → (Nat → Int32) → Bool → (Nat → Int32) → Option (Int32 × (Nat → Int32) × (Nat → Int32) × (Nat → Int32) × Bool × (Nat → Int32))) (v2 : Int32) (v3 : Int32) (v5 : Int32) (v6 : Int32) (v8 : Int32) (t0 : Int32) (b_refused : Nat → Int32) (b_now : Nat → Int32) (b_minds : Nat → Int32) (b_fled : Bool) (b_roster : Nat → Int32) : Option (Int32 × (Nat → Int32) × (Nat → Int32) × (Nat → Int32) × Bool × (Nat → Int32)) := k58 v2 v3 ((if (b_now 33) < v5 then v5 else (b_now 33))) ((if v6 < (b_now 34) then v6 else (b_now 34))) t0 ((v8 + 1)) b_refused b_now b_minds b_fled b_roster
def zf_X8_way_58 (b_holds : Nat → Int32) (b_sizes : Nat → Int32) (b_elements : Nat → Int64) : Nat → Int32 → Int32 → Int32 → Int32 → Int32 → Int32 → (Nat → Int32) → (Nat → Int32) → (Nat → Int32) → Bool → (Nat → Int32) → Option (Int32 × (Nat → Int32) × (Nat → Int32) × (Nat → Int32) × Bool × (Nat → Int32))
  | 0, _, _, _, _, _, _, _, _, _, _, _ => none
  | n + 1, v2, v3, v5, v6, v7, v8, b_refused, b_now, b_minds, b_fled, b_roster => (if v2 ≤ v8 then (Option.bind (zf_X8_lay (((0 : Int32))) b_now b_minds) (fun u7 => (if v3 = 0 then some (v5, b_refused, u7, b_minds, b_fled, b_roster) else (if v3 = (1 : Int32) then some (v6, b_refused, u7, b_minds, b_fled, b_roster) else some (v7, b_refused, u7, b_minds, b_fled, b_roster))))) else (if ix v8 40 then (Option.bind (zf_X8_step (((b_roster v8.toNatClampNeg))) b_now b_fled) (fun u11 => (if (u11.2.1 33) ≤ v5 then zf_X8_way_97 b_holds b_sizes b_elements (zf_X8_way_58 b_holds b_sizes b_elements n) v2 v3 v5 v6 v8 v7 b_refused u11.2.1 b_minds u11.2.2 b_roster else zf_X8_way_97 b_holds b_sizes b_elements (zf_X8_way_58 b_holds b_sizes b_elements n) v2 v3 v5 v6 v8 ((v8 + (1 : Int32))) b_refused u11.2.1 b_minds u11.2.2 b_roster))) else none))
def zf_X8_way (x1 : Int32) (x2 : Int32) (x3 : Int32) (b_refused : Nat → Int32) (b_now : Nat → Int32) (b_minds : Nat → Int32) (b_fled : Bool) (b_holds : Nat → Int32) (b_sizes : Nat → Int32) (b_elements : Nat → Int64) (b_roster : Nat → Int32) : Option (Int32 × (Nat → Int32) × (Nat → Int32) × (Nat → Int32) × Bool × (Nat → Int32)) := (Option.bind (zf_X8_isIn x3.toInt64 (((0 : Int64))) (((2 : Int64)))) (fun u1 => (Option.bind (zf_X8_load u1 x1 x2 b_now b_holds b_sizes b_elements b_roster) (fun u2 => (if 0 ≤ u2.1 then (Option.bind (zf_X8_keep (((0 : Int32))) b_now b_minds) (fun u4 => zf_X8_way_58 b_holds b_sizes b_elements FU x2 x3 ((b_now 33)) ((b_now 34)) ((0 : Int32)) ((0 : Int32)) b_refused b_now u4 b_fled u2.2)) else (Option.bind (zf_X8_refuse u2.1 b_refused) (fun u5 => some (u5.1, u5.2, b_now, b_minds, b_fled, u2.2))))))))
abbrev zr_X8_way : Room := { frames := 5, cells := 0, slots := 0, locals := 116 }
set_option maxHeartbeats 4000000 in
set_option maxRecDepth 100000 in
theorem c_X8_way (l : Launch) (G : va_G) (cy : Nat → ClassId) (tt : Nat → Nat) (M : Nat → Nat) (b_isKept : Bool) (b_size : Int32) (b_at : Int32) (b_from : Int32) (b_sort : Int32) (b_flights : Int32) (b_firstFlight : Int32) (b_bestHarms : Int32) (b_bestRage : Int32) (b_harmed : Int64) (b_raged : Int64) (x1 : Int32) (x2 : Int32) (x3 : Int32) (b_refused : Nat → Int32) (b_now : Nat → Int32) (b_minds : Nat → Int32) (b_fled : Bool) (b_holds : Nat → Int32) (b_sizes : Nat → Int32) (b_elements : Nat → Int64) (b_roster : Nat → Int32) (res : Int32 × (Nat → Int32) × (Nat → Int32) × (Nat → Int32) × Bool × (Nat → Int32)) (hf : zf_X8_way x1 x2 x3 b_refused b_now b_minds b_fled b_holds b_sizes b_elements b_roster = some res) : zCT l yX8_way cX8_way 9 (some .int) zr_X8_way G cy tt [.ref ((M 0)), .int x1, .int x2, .int x3] [xM M b_isKept b_size b_at b_from b_sort b_fled b_flights b_firstFlight b_bestHarms b_bestRage b_harmed b_raged, xI cy ((M 1)) 7 b_refused, xI cy ((M 2)) 39 b_now, xI cy ((M 4)) 273 b_minds, xI cy ((M 7)) 8 b_holds, xI cy ((M 8)) 8 b_sizes, xJ cy ((M 9)) 320 b_elements, xI cy ((M 12)) 40 b_roster] (some (.int res.1)) [xM M b_isKept b_size b_at b_from b_sort res.2.2.2.2.1 b_flights b_firstFlight b_bestHarms b_bestRage b_harmed b_raged, xI cy ((M 1)) 7 res.2.1, xI cy ((M 2)) 39 res.2.2.1, xI cy ((M 4)) 273 res.2.2.2.1, xI cy ((M 7)) 8 b_holds, xI cy ((M 8)) 8 b_sizes, xJ cy ((M 9)) 320 b_elements, xI cy ((M 12)) 40 res.2.2.2.2.2] := by
  refine zk_start zn_X8 (Nat.le_of_ble_eq_true rfl) ?_
  intro p e s m args below meth c A ls Q C hr hQ hw hl
  have C : zCx p m c s args meth cX8_way 9 RX8 G cy tt A := C
  have hx := C.1.1
  have hb := C.1.2.1
  have hl : lv_has ls 9 [(0, .ref ((M 0))), (1, .int x1), (2, .int x2), (3, .int x3)] := hl
  have J97 : ∀ (k58 : Int32 → Int32 → Int32 → Int32 → Int32 → Int32 → (Nat → Int32) → (Nat → Int32) → (Nat → Int32) → Bool → (Nat → Int32) → Option (Int32 × (Nat → Int32) × (Nat → Int32) × (Nat → Int32) × Bool × (Nat → Int32))) (K58 : ∀ (v2 : Int32) (v3 : Int32) (v5 : Int32) (v6 : Int32) (v7 : Int32) (v8 : Int32) (b_refused : Nat → Int32) (b_now : Nat → Int32) (b_minds : Nat → Int32) (b_fled : Bool) (b_roster : Nat → Int32) (H : Heap) (locs : List Loc) (ls : Array Slot), k58 v2 v3 v5 v6 v7 v8 b_refused b_now b_minds b_fled b_roster = some res → zWd G A s.heap H locs [xM M b_isKept b_size b_at b_from b_sort b_fled b_flights b_firstFlight b_bestHarms b_bestRage b_harmed b_raged, xI cy ((M 1)) 7 b_refused, xI cy ((M 2)) 39 b_now, xI cy ((M 4)) 273 b_minds, xI cy ((M 7)) 8 b_holds, xI cy ((M 8)) 8 b_sizes, xJ cy ((M 9)) 320 b_elements, xI cy ((M 12)) 40 b_roster] → lv_has ls 9 [(0, .ref ((M 0))), (2, .int v2), (3, .int v3), (5, .int v5), (6, .int v6), (7, .int v7), (8, .int v8)] → W p l e zr_X8_way s m args below meth c H locs 0 0 Q (F0 m 58 ls [])), ∀ (v2 : Int32) (v3 : Int32) (v5 : Int32) (v6 : Int32) (v8 : Int32) (t0 : Int32) (b_refused : Nat → Int32) (b_now : Nat → Int32) (b_minds : Nat → Int32) (b_fled : Bool) (b_roster : Nat → Int32) (H : Heap) (locs : List Loc) (ls : Array Slot), zf_X8_way_97 b_holds b_sizes b_elements k58 v2 v3 v5 v6 v8 t0 b_refused b_now b_minds b_fled b_roster = some res → zWd G A s.heap H locs [xM M b_isKept b_size b_at b_from b_sort b_fled b_flights b_firstFlight b_bestHarms b_bestRage b_harmed b_raged, xI cy ((M 1)) 7 b_refused, xI cy ((M 2)) 39 b_now, xI cy ((M 4)) 273 b_minds, xI cy ((M 7)) 8 b_holds, xI cy ((M 8)) 8 b_sizes, xJ cy ((M 9)) 320 b_elements, xI cy ((M 12)) 40 b_roster] → lv_has ls 9 [(0, .ref ((M 0))), (2, .int v2), (3, .int v3), (5, .int v5), (6, .int v6), (8, .int v8)] → W p l e zr_X8_way s m args below meth c H locs 0 0 Q (F0 m 97 ls [.int t0]) := by
    intro k58 K58 v2 v3 v5 v6 v8 t0 b_refused b_now b_minds b_fled b_roster H locs ls hf hw hl
    rw [zf_X8_way_97] at hf
    refine lv_istore (pc := 97) (lv' := [(7, .int t0), (0, .ref ((M 0))), (2, .int v2), (3, .int v3), (5, .int v5), (6, .int v6), (8, .int v8)]) hx hb dX8_way_97 hl (by decide) rfl (fun ls hl => ?_)
    refine lv_aload_n (pc := 99) hx hb dX8_way_99 rfl (lv_at hl 1 rfl) ?_
    refine zk_gt (pc := 100) C hw zl_X8_17 0 rfl rfl dX8_way_100 ?_
    refine lv_bipush (pc := 103) (v := 33) hx hb dX8_way_103 (by decide) ?_
    refine zk_ialdK (pc := 105) 33 (by decide) C hw 2 rfl (by decide) dX8_way_105 ?_
    refine lv_iload (pc := 106) hx hb dX8_way_106 (lv_at hl 4 rfl) ?_
    refine zk_max (pc := 108) C hl.1 zm_X8_65 ⟨Nat.le_of_ble_eq_true rfl, Nat.le_of_ble_eq_true rfl⟩ ⟨Nat.zero_le _, Nat.zero_le _⟩ dX8_way_108 ?_
    refine lv_istore (pc := 111) (lv' := [(5, .int ((if (b_now 33) < v5 then v5 else (b_now 33)))), (7, .int t0), (0, .ref ((M 0))), (2, .int v2), (3, .int v3), (6, .int v6), (8, .int v8)]) hx hb dX8_way_111 hl (by decide) rfl (fun ls hl => ?_)
    refine lv_aload_n (pc := 113) hx hb dX8_way_113 rfl (lv_at hl 2 rfl) ?_
    refine zk_gt (pc := 114) C hw zl_X8_17 0 rfl rfl dX8_way_114 ?_
    refine lv_bipush (pc := 117) (v := 34) hx hb dX8_way_117 (by decide) ?_
    refine zk_ialdK (pc := 119) 34 (by decide) C hw 2 rfl (by decide) dX8_way_119 ?_
    refine lv_iload (pc := 120) hx hb dX8_way_120 (lv_at hl 5 rfl) ?_
    refine zk_min (pc := 122) C hl.1 zm_X8_59 ⟨Nat.le_of_ble_eq_true rfl, Nat.le_of_ble_eq_true rfl⟩ ⟨Nat.zero_le _, Nat.zero_le _⟩ dX8_way_122 ?_
    refine lv_istore (pc := 125) (lv' := [(6, .int ((if v6 < (b_now 34) then v6 else (b_now 34)))), (5, .int ((if (b_now 33) < v5 then v5 else (b_now 33)))), (7, .int t0), (0, .ref ((M 0))), (2, .int v2), (3, .int v3), (8, .int v8)]) hx hb dX8_way_125 hl (by decide) rfl (fun ls hl => ?_)
    refine lv_iinc (pc := 127) (v := (v8 + 1)) (lv' := [(8, .int ((v8 + 1))), (6, .int ((if v6 < (b_now 34) then v6 else (b_now 34)))), (5, .int ((if (b_now 33) < v5 then v5 else (b_now 33)))), (7, .int t0), (0, .ref ((M 0))), (2, .int v2), (3, .int v3)]) hx hb dX8_way_127 hl (k := 6) rfl rfl (by decide) rfl (fun ls hl => ?_)
    refine lv_goto (pc := 130) (tgt := 58) hx hb dX8_way_130 (by decide) ?_
    exact K58 v2 v3 ((if (b_now 33) < v5 then v5 else (b_now 33))) ((if v6 < (b_now 34) then v6 else (b_now 34))) t0 ((v8 + 1)) b_refused b_now b_minds b_fled b_roster _ _ _ hf hw (lv_sub hl [4, 5, 6, 2, 1, 3, 0] rfl)
  have J58 : ∀ (n : Nat), ∀ (v2 : Int32) (v3 : Int32) (v5 : Int32) (v6 : Int32) (v7 : Int32) (v8 : Int32) (b_refused : Nat → Int32) (b_now : Nat → Int32) (b_minds : Nat → Int32) (b_fled : Bool) (b_roster : Nat → Int32) (H : Heap) (locs : List Loc) (ls : Array Slot), zf_X8_way_58 b_holds b_sizes b_elements n v2 v3 v5 v6 v7 v8 b_refused b_now b_minds b_fled b_roster = some res → zWd G A s.heap H locs [xM M b_isKept b_size b_at b_from b_sort b_fled b_flights b_firstFlight b_bestHarms b_bestRage b_harmed b_raged, xI cy ((M 1)) 7 b_refused, xI cy ((M 2)) 39 b_now, xI cy ((M 4)) 273 b_minds, xI cy ((M 7)) 8 b_holds, xI cy ((M 8)) 8 b_sizes, xJ cy ((M 9)) 320 b_elements, xI cy ((M 12)) 40 b_roster] → lv_has ls 9 [(0, .ref ((M 0))), (2, .int v2), (3, .int v3), (5, .int v5), (6, .int v6), (7, .int v7), (8, .int v8)] → W p l e zr_X8_way s m args below meth c H locs 0 0 Q (F0 m 58 ls []) := by
    intro n
    induction n with
    | zero =>
      intro v2 v3 v5 v6 v7 v8 b_refused b_now b_minds b_fled b_roster H locs ls hf hw hl
      rw [zf_X8_way_58] at hf
      cases hf
    | succ n ih =>
      intro v2 v3 v5 v6 v7 v8 b_refused b_now b_minds b_fled b_roster H locs ls hf hw hl
      rw [zf_X8_way_58] at hf
      refine lv_iload (pc := 58) hx hb dX8_way_58 (lv_at hl 6 rfl) ?_
      refine lv_iload_n (pc := 60) hx hb dX8_way_60 rfl (lv_at hl 1 rfl) ?_
      refine lv_icmp_ge (pc := 61) (tgt := 133) hx hb dX8_way_61 (by decide) (fun q6 => ?_) (fun q6 => ?_)
      · replace hf := if_t q6 hf
        refine lv_aload_n (pc := 133) hx hb dX8_way_133 rfl (lv_at hl 0 rfl) ?_
        refine lv_iconst (pc := 134) (v := 0) hx hb dX8_way_134 (by decide) ?_
        obtain ⟨u7, u7e, hf⟩ := bd hf
        refine zk_cV (pc := 135) (ci := 8) (q0 := 0) (rest := []) (st1 := []) (w' := [xM M b_isKept b_size b_at b_from b_sort b_fled b_flights b_firstFlight b_bestHarms b_bestRage b_harmed b_raged, xI cy ((M 1)) 7 b_refused, xI cy ((M 2)) 39 u7, xI cy ((M 4)) 273 b_minds, xI cy ((M 7)) 8 b_holds, xI cy ((M 8)) 8 b_sizes, xJ cy ((M 9)) 320 b_elements, xI cy ((M 12)) 40 b_roster]) (mk := [none, none, some (xI cy ((M 2)) 39 u7), none, none, none, none, none]) C hw (c_X8_lay l G cy tt M b_isKept b_size b_at b_from b_sort b_fled b_flights b_firstFlight b_bestHarms b_bestRage b_harmed b_raged (((0 : Int32))) b_now b_minds _ u7e) zy_X8_lay zm_X8_150 rfl rfl rfl [0, 2, 3] rfl rfl rfl rfl rfl rfl rfl rfl hl.1 ⟨rfl, rfl⟩ ⟨Nat.le_of_ble_eq_true rfl, Nat.le_of_ble_eq_true rfl⟩ rfl (Nat.le_of_ble_eq_true rfl) ⟨Nat.zero_le _, Nat.zero_le _⟩ dX8_way_135 (fun H locs hw => ?_)
        refine lv_iload_n (pc := 138) hx hb dX8_way_138 rfl (lv_at hl 2 rfl) ?_
        refine lv_if_ne (pc := 139) (tgt := 147) hx hb dX8_way_139 (by decide) (fun q8 => ?_) (fun q8 => ?_)
        · replace hf := if_f q8 hf
          refine lv_iload_n (pc := 147) hx hb dX8_way_147 rfl (lv_at hl 2 rfl) ?_
          refine lv_iconst (pc := 148) (v := 1) hx hb dX8_way_148 (by decide) ?_
          refine lv_icmp_ne (pc := 149) (tgt := 157) hx hb dX8_way_149 (by decide) (fun q9 => ?_) (fun q9 => ?_)
          · replace hf := if_f q9 hf
            refine lv_iload (pc := 157) hx hb dX8_way_157 (lv_at hl 5 rfl) ?_
            have hf := Option.some.inj hf
            subst hf
            exact zk_reti (pc := 159) (ww := [xM M b_isKept b_size b_at b_from b_sort b_fled b_flights b_firstFlight b_bestHarms b_bestRage b_harmed b_raged, xI cy ((M 1)) 7 b_refused, xI cy ((M 2)) 39 u7, xI cy ((M 4)) 273 b_minds, xI cy ((M 7)) 8 b_holds, xI cy ((M 8)) 8 b_sizes, xJ cy ((M 9)) 320 b_elements, xI cy ((M 12)) 40 b_roster]) C hw hr hQ dX8_way_159
          · replace hf := if_t q9 hf
            refine lv_iload (pc := 152) hx hb dX8_way_152 (lv_at hl 4 rfl) ?_
            refine lv_goto (pc := 154) (tgt := 159) hx hb dX8_way_154 (by decide) ?_
            have hf := Option.some.inj hf
            subst hf
            exact zk_reti (pc := 159) (ww := [xM M b_isKept b_size b_at b_from b_sort b_fled b_flights b_firstFlight b_bestHarms b_bestRage b_harmed b_raged, xI cy ((M 1)) 7 b_refused, xI cy ((M 2)) 39 u7, xI cy ((M 4)) 273 b_minds, xI cy ((M 7)) 8 b_holds, xI cy ((M 8)) 8 b_sizes, xJ cy ((M 9)) 320 b_elements, xI cy ((M 12)) 40 b_roster]) C hw hr hQ dX8_way_159
        · replace hf := if_t q8 hf
          refine lv_iload (pc := 142) hx hb dX8_way_142 (lv_at hl 3 rfl) ?_
          refine lv_goto (pc := 144) (tgt := 159) hx hb dX8_way_144 (by decide) ?_
          have hf := Option.some.inj hf
          subst hf
          exact zk_reti (pc := 159) (ww := [xM M b_isKept b_size b_at b_from b_sort b_fled b_flights b_firstFlight b_bestHarms b_bestRage b_harmed b_raged, xI cy ((M 1)) 7 b_refused, xI cy ((M 2)) 39 u7, xI cy ((M 4)) 273 b_minds, xI cy ((M 7)) 8 b_holds, xI cy ((M 8)) 8 b_sizes, xJ cy ((M 9)) 320 b_elements, xI cy ((M 12)) 40 b_roster]) C hw hr hQ dX8_way_159
      · replace hf := if_f q6 hf
        refine lv_aload_n (pc := 64) hx hb dX8_way_64 rfl (lv_at hl 0 rfl) ?_
        refine lv_aload_n (pc := 65) hx hb dX8_way_65 rfl (lv_at hl 0 rfl) ?_
        refine zk_gt (pc := 66) C hw zl_X8_49 0 rfl rfl dX8_way_66 ?_
        refine lv_iload (pc := 69) hx hb dX8_way_69 (lv_at hl 6 rfl) ?_
        obtain ⟨q10, hf⟩ := ck hf
        refine zk_iald (pc := 71) C hw 7 rfl q10 dX8_way_71 ?_
        obtain ⟨u11, u11e, hf⟩ := bd hf
        refine zk_cV (pc := 72) (ci := 8) (q0 := 0) (rest := []) (st1 := [.int u11.1]) (w' := [xM M b_isKept b_size b_at b_from b_sort u11.2.2 b_flights b_firstFlight b_bestHarms b_bestRage b_harmed b_raged, xI cy ((M 1)) 7 b_refused, xI cy ((M 2)) 39 u11.2.1, xI cy ((M 4)) 273 b_minds, xI cy ((M 7)) 8 b_holds, xI cy ((M 8)) 8 b_sizes, xJ cy ((M 9)) 320 b_elements, xI cy ((M 12)) 40 b_roster]) (mk := [some (xM M b_isKept b_size b_at b_from b_sort u11.2.2 b_flights b_firstFlight b_bestHarms b_bestRage b_harmed b_raged), none, some (xI cy ((M 2)) 39 u11.2.1), none, none, none, none, none]) C hw (c_X8_step l G cy tt M b_isKept b_size b_at b_from b_sort b_flights b_firstFlight b_bestHarms b_bestRage b_harmed b_raged (((b_roster v8.toNatClampNeg))) b_now b_fled _ u11e) zy_X8_step zm_X8_181 rfl rfl rfl [0, 2] rfl rfl rfl rfl rfl rfl rfl rfl hl.1 ⟨rfl, rfl⟩ ⟨Nat.le_of_ble_eq_true rfl, Nat.le_of_ble_eq_true rfl⟩ rfl (Nat.le_of_ble_eq_true rfl) ⟨Nat.zero_le _, Nat.zero_le _⟩ dX8_way_72 (fun H locs hw => ?_)
        refine lv_pop (pc := 75) hx hb dX8_way_75 rfl ?_
        refine lv_aload_n (pc := 76) hx hb dX8_way_76 rfl (lv_at hl 0 rfl) ?_
        refine zk_gt (pc := 77) C hw zl_X8_17 0 rfl rfl dX8_way_77 ?_
        refine lv_bipush (pc := 80) (v := 33) hx hb dX8_way_80 (by decide) ?_
        refine zk_ialdK (pc := 82) 33 (by decide) C hw 2 rfl (by decide) dX8_way_82 ?_
        refine lv_iload (pc := 83) hx hb dX8_way_83 (lv_at hl 3 rfl) ?_
        refine lv_icmp_le (pc := 85) (tgt := 95) hx hb dX8_way_85 (by decide) (fun q12 => ?_) (fun q12 => ?_)
        · replace hf := if_t q12 hf
          refine lv_iload (pc := 95) hx hb dX8_way_95 (lv_at hl 5 rfl) ?_
          exact J97 (zf_X8_way_58 b_holds b_sizes b_elements n) ih v2 v3 v5 v6 v8 v7 b_refused u11.2.1 b_minds u11.2.2 b_roster _ _ _ hf hw (lv_sub hl [0, 1, 2, 3, 4, 6] rfl)
        · replace hf := if_f q12 hf
          refine lv_iload (pc := 88) hx hb dX8_way_88 (lv_at hl 6 rfl) ?_
          refine lv_iconst (pc := 90) (v := 1) hx hb dX8_way_90 (by decide) ?_
          refine lv_iadd (pc := 91) hx hb dX8_way_91 ?_
          refine lv_goto (pc := 92) (tgt := 97) hx hb dX8_way_92 (by decide) ?_
          exact J97 (zf_X8_way_58 b_holds b_sizes b_elements n) ih v2 v3 v5 v6 v8 ((v8 + (1 : Int32))) b_refused u11.2.1 b_minds u11.2.2 b_roster _ _ _ hf hw (lv_sub hl [0, 1, 2, 3, 4, 6] rfl)
  rw [zf_X8_way] at hf
  refine lv_aload_n (pc := 0) hx hb dX8_way_0 rfl (lv_at hl 0 rfl) ?_
  refine lv_iload_n (pc := 1) hx hb dX8_way_1 rfl (lv_at hl 3 rfl) ?_
  refine lv_i2l (pc := 2) (v := x3.toInt64) hx hb dX8_way_2 rfl ?_
  refine lv_lconst (pc := 3) (v := 0) hx hb dX8_way_3 (by decide) ?_
  refine lv_ldc2 (pc := 4) (v := 2) hx hb C.1.2.2.2.1 (C.1.2.2.2.2 _ zc_X8_190) dX8_way_4 ?_
  obtain ⟨u1, u1e, hf⟩ := bd hf
  refine zk_cS (pc := 7) (rest := [.ref ((M 0))]) (st1 := [.int (bI u1), .ref ((M 0))]) (w' := [xM M b_isKept b_size b_at b_from b_sort b_fled b_flights b_firstFlight b_bestHarms b_bestRage b_harmed b_raged, xI cy ((M 1)) 7 b_refused, xI cy ((M 2)) 39 b_now, xI cy ((M 4)) 273 b_minds, xI cy ((M 7)) 8 b_holds, xI cy ((M 8)) 8 b_sizes, xJ cy ((M 9)) 320 b_elements, xI cy ((M 12)) 40 b_roster]) (mk := [none, none, none, none, none, none, none, none]) C hw (c_X8_isIn l G cy tt x3.toInt64 (((0 : Int64))) (((2 : Int64))) _ u1e) zy_X8_isIn zm_X8_68 [] rfl rfl rfl rfl rfl rfl rfl rfl hl.1 ⟨rfl, rfl⟩ ⟨Nat.le_of_ble_eq_true rfl, Nat.le_of_ble_eq_true rfl⟩ rfl (Nat.le_of_ble_eq_true rfl) ⟨Nat.zero_le _, Nat.zero_le _⟩ dX8_way_7 (fun H locs hw => ?_)
  refine lv_iload_n (pc := 10) hx hb dX8_way_10 rfl (lv_at hl 1 rfl) ?_
  refine lv_iload_n (pc := 11) hx hb dX8_way_11 rfl (lv_at hl 2 rfl) ?_
  obtain ⟨u2, u2e, hf⟩ := bd hf
  refine zk_cV (pc := 12) (ci := 8) (q0 := 0) (rest := []) (st1 := [.int u2.1]) (w' := [xM M b_isKept b_size b_at b_from b_sort b_fled b_flights b_firstFlight b_bestHarms b_bestRage b_harmed b_raged, xI cy ((M 1)) 7 b_refused, xI cy ((M 2)) 39 b_now, xI cy ((M 4)) 273 b_minds, xI cy ((M 7)) 8 b_holds, xI cy ((M 8)) 8 b_sizes, xJ cy ((M 9)) 320 b_elements, xI cy ((M 12)) 40 u2.2]) (mk := [none, none, none, none, none, none, none, some (xI cy ((M 12)) 40 u2.2)]) C hw (c_X8_load l G cy tt M b_isKept b_size b_at b_from b_sort b_fled b_flights b_firstFlight b_bestHarms b_bestRage b_harmed b_raged u1 x1 x2 b_now b_holds b_sizes b_elements b_roster _ u2e) zy_X8_load zm_X8_223 rfl rfl rfl [0, 2, 4, 5, 6, 7] rfl rfl rfl rfl rfl rfl rfl rfl hl.1 ⟨rfl, rfl⟩ ⟨Nat.le_of_ble_eq_true rfl, Nat.le_of_ble_eq_true rfl⟩ rfl (Nat.le_of_ble_eq_true rfl) ⟨Nat.zero_le _, Nat.zero_le _⟩ dX8_way_12 (fun H locs hw => ?_)
  refine lv_istore (pc := 15) (lv' := [(4, .int u2.1), (0, .ref ((M 0))), (1, .int x1), (2, .int x2), (3, .int x3)]) hx hb dX8_way_15 hl (by decide) rfl (fun ls hl => ?_)
  refine lv_iload (pc := 17) hx hb dX8_way_17 (lv_at hl 0 rfl) ?_
  refine lv_if_ge (pc := 19) (tgt := 29) hx hb dX8_way_19 (by decide) (fun q3 => ?_) (fun q3 => ?_)
  · replace hf := if_t q3 hf
    refine lv_aload_n (pc := 29) hx hb dX8_way_29 rfl (lv_at hl 1 rfl) ?_
    refine lv_iconst (pc := 30) (v := 0) hx hb dX8_way_30 (by decide) ?_
    obtain ⟨u4, u4e, hf⟩ := bd hf
    refine zk_cV (pc := 31) (ci := 8) (q0 := 0) (rest := []) (st1 := []) (w' := [xM M b_isKept b_size b_at b_from b_sort b_fled b_flights b_firstFlight b_bestHarms b_bestRage b_harmed b_raged, xI cy ((M 1)) 7 b_refused, xI cy ((M 2)) 39 b_now, xI cy ((M 4)) 273 u4, xI cy ((M 7)) 8 b_holds, xI cy ((M 8)) 8 b_sizes, xJ cy ((M 9)) 320 b_elements, xI cy ((M 12)) 40 u2.2]) (mk := [none, none, none, some (xI cy ((M 4)) 273 u4), none, none, none, none]) C hw (c_X8_keep l G cy tt M b_isKept b_size b_at b_from b_sort b_fled b_flights b_firstFlight b_bestHarms b_bestRage b_harmed b_raged (((0 : Int32))) b_now b_minds _ u4e) zy_X8_keep zm_X8_142 rfl rfl rfl [0, 2, 3] rfl rfl rfl rfl rfl rfl rfl rfl hl.1 ⟨rfl, rfl⟩ ⟨Nat.le_of_ble_eq_true rfl, Nat.le_of_ble_eq_true rfl⟩ rfl (Nat.le_of_ble_eq_true rfl) ⟨Nat.zero_le _, Nat.zero_le _⟩ dX8_way_31 (fun H locs hw => ?_)
    refine lv_aload_n (pc := 34) hx hb dX8_way_34 rfl (lv_at hl 1 rfl) ?_
    refine zk_gt (pc := 35) C hw zl_X8_17 0 rfl rfl dX8_way_35 ?_
    refine lv_bipush (pc := 38) (v := 33) hx hb dX8_way_38 (by decide) ?_
    refine zk_ialdK (pc := 40) 33 (by decide) C hw 2 rfl (by decide) dX8_way_40 ?_
    refine lv_istore (pc := 41) (lv' := [(5, .int ((b_now 33))), (4, .int u2.1), (0, .ref ((M 0))), (1, .int x1), (2, .int x2), (3, .int x3)]) hx hb dX8_way_41 hl (by decide) rfl (fun ls hl => ?_)
    refine lv_aload_n (pc := 43) hx hb dX8_way_43 rfl (lv_at hl 2 rfl) ?_
    refine zk_gt (pc := 44) C hw zl_X8_17 0 rfl rfl dX8_way_44 ?_
    refine lv_bipush (pc := 47) (v := 34) hx hb dX8_way_47 (by decide) ?_
    refine zk_ialdK (pc := 49) 34 (by decide) C hw 2 rfl (by decide) dX8_way_49 ?_
    refine lv_istore (pc := 50) (lv' := [(6, .int ((b_now 34))), (5, .int ((b_now 33))), (4, .int u2.1), (0, .ref ((M 0))), (1, .int x1), (2, .int x2), (3, .int x3)]) hx hb dX8_way_50 hl (by decide) rfl (fun ls hl => ?_)
    refine lv_iconst (pc := 52) (v := 0) hx hb dX8_way_52 (by decide) ?_
    refine lv_istore (pc := 53) (lv' := [(7, .int ((0 : Int32))), (6, .int ((b_now 34))), (5, .int ((b_now 33))), (4, .int u2.1), (0, .ref ((M 0))), (1, .int x1), (2, .int x2), (3, .int x3)]) hx hb dX8_way_53 hl (by decide) rfl (fun ls hl => ?_)
    refine lv_iconst (pc := 55) (v := 0) hx hb dX8_way_55 (by decide) ?_
    refine lv_istore (pc := 56) (lv' := [(8, .int ((0 : Int32))), (7, .int ((0 : Int32))), (6, .int ((b_now 34))), (5, .int ((b_now 33))), (4, .int u2.1), (0, .ref ((M 0))), (1, .int x1), (2, .int x2), (3, .int x3)]) hx hb dX8_way_56 hl (by decide) rfl (fun ls hl => ?_)
    exact J58 FU x2 x3 ((b_now 33)) ((b_now 34)) ((0 : Int32)) ((0 : Int32)) b_refused b_now u4 b_fled u2.2 _ _ _ hf hw (lv_sub hl [5, 7, 8, 3, 2, 1, 0] rfl)
  · replace hf := if_f q3 hf
    refine lv_aload_n (pc := 22) hx hb dX8_way_22 rfl (lv_at hl 1 rfl) ?_
    refine lv_iload (pc := 23) hx hb dX8_way_23 (lv_at hl 0 rfl) ?_
    obtain ⟨u5, u5e, hf⟩ := bd hf
    refine zk_cV (pc := 25) (ci := 8) (q0 := 0) (rest := []) (st1 := [.int u5.1]) (w' := [xM M b_isKept b_size b_at b_from b_sort b_fled b_flights b_firstFlight b_bestHarms b_bestRage b_harmed b_raged, xI cy ((M 1)) 7 u5.2, xI cy ((M 2)) 39 b_now, xI cy ((M 4)) 273 b_minds, xI cy ((M 7)) 8 b_holds, xI cy ((M 8)) 8 b_sizes, xJ cy ((M 9)) 320 b_elements, xI cy ((M 12)) 40 u2.2]) (mk := [none, some (xI cy ((M 1)) 7 u5.2), none, none, none, none, none, none]) C hw (c_X8_refuse l G cy tt M b_isKept b_size b_at b_from b_sort b_fled b_flights b_firstFlight b_bestHarms b_bestRage b_harmed b_raged u2.1 b_refused _ u5e) zy_X8_refuse zm_X8_90 rfl rfl rfl [0, 1] rfl rfl rfl rfl rfl rfl rfl rfl hl.1 ⟨rfl, rfl⟩ ⟨Nat.le_of_ble_eq_true rfl, Nat.le_of_ble_eq_true rfl⟩ rfl (Nat.le_of_ble_eq_true rfl) ⟨Nat.zero_le _, Nat.zero_le _⟩ dX8_way_25 (fun H locs hw => ?_)
    have hf := Option.some.inj hf
    subst hf
    exact zk_reti (pc := 28) (ww := [xM M b_isKept b_size b_at b_from b_sort b_fled b_flights b_firstFlight b_bestHarms b_bestRage b_harmed b_raged, xI cy ((M 1)) 7 u5.2, xI cy ((M 2)) 39 b_now, xI cy ((M 4)) 273 b_minds, xI cy ((M 7)) 8 b_holds, xI cy ((M 8)) 8 b_sizes, xJ cy ((M 9)) 320 b_elements, xI cy ((M 12)) 40 u2.2]) C hw hr hQ dX8_way_28
def zf_X8_rageBehind (x1 : Int32) (b_now : Nat → Int32) (b_minds : Nat → Int32) (b_fled : Bool) (b_roster : Nat → Int32) (b_flights : Int32) (b_firstFlight : Int32) : Option (Int32 × (Nat → Int32) × (Nat → Int32) × Bool × Int32 × Int32) := (Option.bind (zf_X8_keep (((0 : Int32))) b_now b_minds) (fun u1 => (Option.bind (zf_X8_go x1 b_now b_fled b_roster b_flights b_firstFlight) (fun u2 => (Option.bind (zf_X8_lay (((0 : Int32))) u2.2.1 u1) (fun u3 => some ((u2.2.1 33), u3, u1, u2.2.2.1, u2.2.2.2.1, u2.2.2.2.2)))))))
abbrev zr_X8_rageBehind : Room := { frames := 4, cells := 0, slots := 0, locals := 88 }
set_option maxHeartbeats 4000000 in
set_option maxRecDepth 100000 in
theorem c_X8_rageBehind (l : Launch) (G : va_G) (cy : Nat → ClassId) (tt : Nat → Nat) (M : Nat → Nat) (b_isKept : Bool) (b_size : Int32) (b_at : Int32) (b_from : Int32) (b_sort : Int32) (b_bestHarms : Int32) (b_bestRage : Int32) (b_harmed : Int64) (b_raged : Int64) (x1 : Int32) (b_now : Nat → Int32) (b_minds : Nat → Int32) (b_fled : Bool) (b_roster : Nat → Int32) (b_flights : Int32) (b_firstFlight : Int32) (res : Int32 × (Nat → Int32) × (Nat → Int32) × Bool × Int32 × Int32) (hf : zf_X8_rageBehind x1 b_now b_minds b_fled b_roster b_flights b_firstFlight = some res) : zCT l yX8_rageBehind cX8_rageBehind 3 (some .int) zr_X8_rageBehind G cy tt [.ref ((M 0)), .int x1] [xM M b_isKept b_size b_at b_from b_sort b_fled b_flights b_firstFlight b_bestHarms b_bestRage b_harmed b_raged, xI cy ((M 2)) 39 b_now, xI cy ((M 4)) 273 b_minds, xI cy ((M 12)) 40 b_roster] (some (.int res.1)) [xM M b_isKept b_size b_at b_from b_sort res.2.2.2.1 res.2.2.2.2.1 res.2.2.2.2.2 b_bestHarms b_bestRage b_harmed b_raged, xI cy ((M 2)) 39 res.2.1, xI cy ((M 4)) 273 res.2.2.1, xI cy ((M 12)) 40 b_roster] := by
  refine zk_start zn_X8 (Nat.le_of_ble_eq_true rfl) ?_
  intro p e s m args below meth c A ls Q C hr hQ hw hl
  have C : zCx p m c s args meth cX8_rageBehind 3 RX8 G cy tt A := C
  have hx := C.1.1
  have hb := C.1.2.1
  have hl : lv_has ls 3 [(0, .ref ((M 0))), (1, .int x1)] := hl
  rw [zf_X8_rageBehind] at hf
  refine lv_aload_n (pc := 0) hx hb dX8_rageBehind_0 rfl (lv_at hl 0 rfl) ?_
  refine lv_iconst (pc := 1) (v := 0) hx hb dX8_rageBehind_1 (by decide) ?_
  obtain ⟨u1, u1e, hf⟩ := bd hf
  refine zk_cV (pc := 2) (ci := 8) (q0 := 0) (rest := []) (st1 := []) (w' := [xM M b_isKept b_size b_at b_from b_sort b_fled b_flights b_firstFlight b_bestHarms b_bestRage b_harmed b_raged, xI cy ((M 2)) 39 b_now, xI cy ((M 4)) 273 u1, xI cy ((M 12)) 40 b_roster]) (mk := [none, none, some (xI cy ((M 4)) 273 u1), none]) C hw (c_X8_keep l G cy tt M b_isKept b_size b_at b_from b_sort b_fled b_flights b_firstFlight b_bestHarms b_bestRage b_harmed b_raged (((0 : Int32))) b_now b_minds _ u1e) zy_X8_keep zm_X8_142 rfl rfl rfl [0, 1, 2] rfl rfl rfl rfl rfl rfl rfl rfl hl.1 ⟨rfl, rfl⟩ ⟨Nat.le_of_ble_eq_true rfl, Nat.le_of_ble_eq_true rfl⟩ rfl (Nat.le_of_ble_eq_true rfl) ⟨Nat.zero_le _, Nat.zero_le _⟩ dX8_rageBehind_2 (fun H locs hw => ?_)
  refine lv_aload_n (pc := 5) hx hb dX8_rageBehind_5 rfl (lv_at hl 0 rfl) ?_
  refine lv_iload_n (pc := 6) hx hb dX8_rageBehind_6 rfl (lv_at hl 1 rfl) ?_
  obtain ⟨u2, u2e, hf⟩ := bd hf
  refine zk_cV (pc := 7) (ci := 8) (q0 := 0) (rest := []) (st1 := [.int u2.1]) (w' := [xM M b_isKept b_size b_at b_from b_sort u2.2.2.1 u2.2.2.2.1 u2.2.2.2.2 b_bestHarms b_bestRage b_harmed b_raged, xI cy ((M 2)) 39 u2.2.1, xI cy ((M 4)) 273 u1, xI cy ((M 12)) 40 b_roster]) (mk := [some (xM M b_isKept b_size b_at b_from b_sort u2.2.2.1 u2.2.2.2.1 u2.2.2.2.2 b_bestHarms b_bestRage b_harmed b_raged), some (xI cy ((M 2)) 39 u2.2.1), none, none]) C hw (c_X8_go l G cy tt M b_isKept b_size b_at b_from b_sort b_bestHarms b_bestRage b_harmed b_raged x1 b_now b_fled b_roster b_flights b_firstFlight _ u2e) zy_X8_go zm_X8_226 rfl rfl rfl [0, 1, 3] rfl rfl rfl rfl rfl rfl rfl rfl hl.1 ⟨rfl, rfl⟩ ⟨Nat.le_of_ble_eq_true rfl, Nat.le_of_ble_eq_true rfl⟩ rfl (Nat.le_of_ble_eq_true rfl) ⟨Nat.zero_le _, Nat.zero_le _⟩ dX8_rageBehind_7 (fun H locs hw => ?_)
  refine lv_pop (pc := 10) hx hb dX8_rageBehind_10 rfl ?_
  refine lv_aload_n (pc := 11) hx hb dX8_rageBehind_11 rfl (lv_at hl 0 rfl) ?_
  refine zk_gt (pc := 12) C hw zl_X8_17 0 rfl rfl dX8_rageBehind_12 ?_
  refine lv_bipush (pc := 15) (v := 33) hx hb dX8_rageBehind_15 (by decide) ?_
  refine zk_ialdK (pc := 17) 33 (by decide) C hw 1 rfl (by decide) dX8_rageBehind_17 ?_
  refine lv_istore_n (pc := 18) (lv' := [(2, .int ((u2.2.1 33))), (0, .ref ((M 0))), (1, .int x1)]) hx hb dX8_rageBehind_18 rfl hl (by decide) rfl (fun ls hl => ?_)
  refine lv_aload_n (pc := 19) hx hb dX8_rageBehind_19 rfl (lv_at hl 1 rfl) ?_
  refine lv_iconst (pc := 20) (v := 0) hx hb dX8_rageBehind_20 (by decide) ?_
  obtain ⟨u3, u3e, hf⟩ := bd hf
  refine zk_cV (pc := 21) (ci := 8) (q0 := 0) (rest := []) (st1 := []) (w' := [xM M b_isKept b_size b_at b_from b_sort u2.2.2.1 u2.2.2.2.1 u2.2.2.2.2 b_bestHarms b_bestRage b_harmed b_raged, xI cy ((M 2)) 39 u3, xI cy ((M 4)) 273 u1, xI cy ((M 12)) 40 b_roster]) (mk := [none, some (xI cy ((M 2)) 39 u3), none, none]) C hw (c_X8_lay l G cy tt M b_isKept b_size b_at b_from b_sort u2.2.2.1 u2.2.2.2.1 u2.2.2.2.2 b_bestHarms b_bestRage b_harmed b_raged (((0 : Int32))) u2.2.1 u1 _ u3e) zy_X8_lay zm_X8_150 rfl rfl rfl [0, 1, 2] rfl rfl rfl rfl rfl rfl rfl rfl hl.1 ⟨rfl, rfl⟩ ⟨Nat.le_of_ble_eq_true rfl, Nat.le_of_ble_eq_true rfl⟩ rfl (Nat.le_of_ble_eq_true rfl) ⟨Nat.zero_le _, Nat.zero_le _⟩ dX8_rageBehind_21 (fun H locs hw => ?_)
  refine lv_iload_n (pc := 24) hx hb dX8_rageBehind_24 rfl (lv_at hl 0 rfl) ?_
  have hf := Option.some.inj hf
  subst hf
  exact zk_reti (pc := 25) (ww := [xM M b_isKept b_size b_at b_from b_sort u2.2.2.1 u2.2.2.2.1 u2.2.2.2.2 b_bestHarms b_bestRage b_harmed b_raged, xI cy ((M 2)) 39 u3, xI cy ((M 4)) 273 u1, xI cy ((M 12)) 40 b_roster]) C hw hr hQ dX8_rageBehind_25
def zf_X8_matters_27 (b_holds : Nat → Int32) (b_sizes : Nat → Int32) (b_elements : Nat → Int64) (t0 : Int32) (b_refused : Nat → Int32) (b_now : Nat → Int32) (b_minds : Nat → Int32) (b_fled : Bool) (b_roster : Nat → Int32) (b_flights : Int32) (b_firstFlight : Int32) : Option (Int32 × (Nat → Int32) × (Nat → Int32) × (Nat → Int32) × Bool × (Nat → Int32) × Int32 × Int32) := (Option.bind (zf_X8_refuse t0 b_refused) (fun u11 => some (u11.1, u11.2, b_now, b_minds, b_fled, b_roster, b_flights, b_firstFlight)))
def zf_X8_matters_16 (b_holds : Nat → Int32) (b_sizes : Nat → Int32) (b_elements : Nat → Int64) (v3 : Int32) (b_refused : Nat → Int32) (b_now : Nat → Int32) (b_minds : Nat → Int32) (b_fled : Bool) (b_roster : Nat → Int32) (b_flights : Int32) (b_firstFlight : Int32) : Option (Int32 × (Nat → Int32) × (Nat → Int32) × (Nat → Int32) × Bool × (Nat → Int32) × Int32 × Int32) := (if 0 ≤ v3 then zf_X8_matters_27 b_holds b_sizes b_elements ((-5 : Int32)) b_refused b_now b_minds b_fled b_roster b_flights b_firstFlight else zf_X8_matters_27 b_holds b_sizes b_elements v3 b_refused b_now b_minds b_fled b_roster b_flights b_firstFlight)
def zf_X8_matters_93 (b_holds : Nat → Int32) (b_sizes : Nat → Int32) (b_elements : Nat → Int64) (k40 : Int32 → Int32 → Int32 → Int32 → (Nat → Int32) → (Nat → Int32) → (Nat → Int32) → Bool → (Nat → Int32) → Int32 → Int32 → Option (Int32 × (Nat → Int32) × (Nat → Int32) × (Nat → Int32) × Bool × (Nat → Int32) × Int32 × Int32)) (v2 : Int32) (v5 : Int32) (v6 : Int32) (v8 : Int32) (t0 : Int32) (b_refused : Nat → Int32) (b_now : Nat → Int32) (b_minds : Nat → Int32) (b_fled : Bool) (b_roster : Nat → Int32) (b_flights : Int32) (b_firstFlight : Int32) : Option (Int32 × (Nat → Int32) × (Nat → Int32) × (Nat → Int32) × Bool × (Nat → Int32) × Int32 × Int32) := k40 v2 t0 ((if v8 < v5 then v5 else v8)) ((v6 + 1)) b_refused b_now b_minds b_fled b_roster b_flights b_firstFlight
def zf_X8_matters_40 (b_holds : Nat → Int32) (b_sizes : Nat → Int32) (b_elements : Nat → Int64) : Nat → Int32 → Int32 → Int32 → Int32 → (Nat → Int32) → (Nat → Int32) → (Nat → Int32) → Bool → (Nat → Int32) → Int32 → Int32 → Option (Int32 × (Nat → Int32) × (Nat → Int32) × (Nat → Int32) × Bool × (Nat → Int32) × Int32 × Int32)
  | 0, _, _, _, _, _, _, _, _, _, _, _ => none
  | n + 1, v2, v4, v5, v6, b_refused, b_now, b_minds, b_fled, b_roster, b_flights, b_firstFlight => (if v2 ≤ v6 then some (v4, b_refused, b_now, b_minds, b_fled, b_roster, b_flights, b_firstFlight) else (if ix v6 40 then (if ix v6 40 then (Option.bind (zf_X8_rageBehind v2 b_now b_minds b_fled ((upd b_roster v6.toNatClampNeg ((-1 : Int32)))) b_flights b_firstFlight) (fun u7 => (if ix v6 40 then (if u7.1 ≤ v5 then zf_X8_matters_93 b_holds b_sizes b_elements (zf_X8_matters_40 b_holds b_sizes b_elements n) v2 v5 v6 u7.1 v4 b_refused u7.2.1 u7.2.2.1 u7.2.2.2.1 ((upd ((upd b_roster v6.toNatClampNeg ((-1 : Int32)))) v6.toNatClampNeg ((b_roster v6.toNatClampNeg)))) u7.2.2.2.2.1 u7.2.2.2.2.2 else zf_X8_matters_93 b_holds b_sizes b_elements (zf_X8_matters_40 b_holds b_sizes b_elements n) v2 v5 v6 u7.1 v6 b_refused u7.2.1 u7.2.2.1 u7.2.2.2.1 ((upd ((upd b_roster v6.toNatClampNeg ((-1 : Int32)))) v6.toNatClampNeg ((b_roster v6.toNatClampNeg)))) u7.2.2.2.2.1 u7.2.2.2.2.2) else none))) else none) else none))
def zf_X8_matters (x1 : Int32) (x2 : Int32) (b_refused : Nat → Int32) (b_now : Nat → Int32) (b_minds : Nat → Int32) (b_fled : Bool) (b_holds : Nat → Int32) (b_sizes : Nat → Int32) (b_elements : Nat → Int64) (b_roster : Nat → Int32) (b_flights : Int32) (b_firstFlight : Int32) : Option (Int32 × (Nat → Int32) × (Nat → Int32) × (Nat → Int32) × Bool × (Nat → Int32) × Int32 × Int32) := (Option.bind (zf_X8_load true x1 x2 b_now b_holds b_sizes b_elements b_roster) (fun u1 => (if u1.1 < 0 then zf_X8_matters_16 b_holds b_sizes b_elements u1.1 b_refused b_now b_minds b_fled u1.2 b_flights b_firstFlight else (if x2 = 0 then zf_X8_matters_16 b_holds b_sizes b_elements u1.1 b_refused b_now b_minds b_fled u1.2 b_flights b_firstFlight else zf_X8_matters_40 b_holds b_sizes b_elements FU x2 ((0 : Int32)) ((-1 : Int32)) ((0 : Int32)) b_refused b_now b_minds b_fled u1.2 b_flights b_firstFlight))))
abbrev zr_X8_matters : Room := { frames := 5, cells := 0, slots := 0, locals := 116 }
set_option maxHeartbeats 4000000 in
set_option maxRecDepth 100000 in
theorem c_X8_matters (l : Launch) (G : va_G) (cy : Nat → ClassId) (tt : Nat → Nat) (M : Nat → Nat) (b_isKept : Bool) (b_size : Int32) (b_at : Int32) (b_from : Int32) (b_sort : Int32) (b_bestHarms : Int32) (b_bestRage : Int32) (b_harmed : Int64) (b_raged : Int64) (x1 : Int32) (x2 : Int32) (b_refused : Nat → Int32) (b_now : Nat → Int32) (b_minds : Nat → Int32) (b_fled : Bool) (b_holds : Nat → Int32) (b_sizes : Nat → Int32) (b_elements : Nat → Int64) (b_roster : Nat → Int32) (b_flights : Int32) (b_firstFlight : Int32) (res : Int32 × (Nat → Int32) × (Nat → Int32) × (Nat → Int32) × Bool × (Nat → Int32) × Int32 × Int32) (hf : zf_X8_matters x1 x2 b_refused b_now b_minds b_fled b_holds b_sizes b_elements b_roster b_flights b_firstFlight = some res) : zCT l yX8_matters cX8_matters 9 (some .int) zr_X8_matters G cy tt [.ref ((M 0)), .int x1, .int x2] [xM M b_isKept b_size b_at b_from b_sort b_fled b_flights b_firstFlight b_bestHarms b_bestRage b_harmed b_raged, xI cy ((M 1)) 7 b_refused, xI cy ((M 2)) 39 b_now, xI cy ((M 4)) 273 b_minds, xI cy ((M 7)) 8 b_holds, xI cy ((M 8)) 8 b_sizes, xJ cy ((M 9)) 320 b_elements, xI cy ((M 12)) 40 b_roster] (some (.int res.1)) [xM M b_isKept b_size b_at b_from b_sort res.2.2.2.2.1 res.2.2.2.2.2.2.1 res.2.2.2.2.2.2.2 b_bestHarms b_bestRage b_harmed b_raged, xI cy ((M 1)) 7 res.2.1, xI cy ((M 2)) 39 res.2.2.1, xI cy ((M 4)) 273 res.2.2.2.1, xI cy ((M 7)) 8 b_holds, xI cy ((M 8)) 8 b_sizes, xJ cy ((M 9)) 320 b_elements, xI cy ((M 12)) 40 res.2.2.2.2.2.1] := by
  refine zk_start zn_X8 (Nat.le_of_ble_eq_true rfl) ?_
  intro p e s m args below meth c A ls Q C hr hQ hw hl
  have C : zCx p m c s args meth cX8_matters 9 RX8 G cy tt A := C
  have hx := C.1.1
  have hb := C.1.2.1
  have hl : lv_has ls 9 [(0, .ref ((M 0))), (1, .int x1), (2, .int x2)] := hl
  have J27 : ∀ (t0 : Int32) (b_refused : Nat → Int32) (b_now : Nat → Int32) (b_minds : Nat → Int32) (b_fled : Bool) (b_roster : Nat → Int32) (b_flights : Int32) (b_firstFlight : Int32) (H : Heap) (locs : List Loc) (ls : Array Slot), zf_X8_matters_27 b_holds b_sizes b_elements t0 b_refused b_now b_minds b_fled b_roster b_flights b_firstFlight = some res → zWd G A s.heap H locs [xM M b_isKept b_size b_at b_from b_sort b_fled b_flights b_firstFlight b_bestHarms b_bestRage b_harmed b_raged, xI cy ((M 1)) 7 b_refused, xI cy ((M 2)) 39 b_now, xI cy ((M 4)) 273 b_minds, xI cy ((M 7)) 8 b_holds, xI cy ((M 8)) 8 b_sizes, xJ cy ((M 9)) 320 b_elements, xI cy ((M 12)) 40 b_roster] → lv_has ls 9 [] → W p l e zr_X8_matters s m args below meth c H locs 0 0 Q (F0 m 27 ls [.int t0, .ref ((M 0))]) := by
    intro t0 b_refused b_now b_minds b_fled b_roster b_flights b_firstFlight H locs ls hf hw hl
    rw [zf_X8_matters_27] at hf
    obtain ⟨u11, u11e, hf⟩ := bd hf
    refine zk_cV (pc := 27) (ci := 8) (q0 := 0) (rest := []) (st1 := [.int u11.1]) (w' := [xM M b_isKept b_size b_at b_from b_sort b_fled b_flights b_firstFlight b_bestHarms b_bestRage b_harmed b_raged, xI cy ((M 1)) 7 u11.2, xI cy ((M 2)) 39 b_now, xI cy ((M 4)) 273 b_minds, xI cy ((M 7)) 8 b_holds, xI cy ((M 8)) 8 b_sizes, xJ cy ((M 9)) 320 b_elements, xI cy ((M 12)) 40 b_roster]) (mk := [none, some (xI cy ((M 1)) 7 u11.2), none, none, none, none, none, none]) C hw (c_X8_refuse l G cy tt M b_isKept b_size b_at b_from b_sort b_fled b_flights b_firstFlight b_bestHarms b_bestRage b_harmed b_raged t0 b_refused _ u11e) zy_X8_refuse zm_X8_90 rfl rfl rfl [0, 1] rfl rfl rfl rfl rfl rfl rfl rfl hl.1 ⟨rfl, rfl⟩ ⟨Nat.le_of_ble_eq_true rfl, Nat.le_of_ble_eq_true rfl⟩ rfl (Nat.le_of_ble_eq_true rfl) ⟨Nat.zero_le _, Nat.zero_le _⟩ dX8_matters_27 (fun H locs hw => ?_)
    have hf := Option.some.inj hf
    subst hf
    exact zk_reti (pc := 30) (ww := [xM M b_isKept b_size b_at b_from b_sort b_fled b_flights b_firstFlight b_bestHarms b_bestRage b_harmed b_raged, xI cy ((M 1)) 7 u11.2, xI cy ((M 2)) 39 b_now, xI cy ((M 4)) 273 b_minds, xI cy ((M 7)) 8 b_holds, xI cy ((M 8)) 8 b_sizes, xJ cy ((M 9)) 320 b_elements, xI cy ((M 12)) 40 b_roster]) C hw hr hQ dX8_matters_30
  have J16 : ∀ (v3 : Int32) (b_refused : Nat → Int32) (b_now : Nat → Int32) (b_minds : Nat → Int32) (b_fled : Bool) (b_roster : Nat → Int32) (b_flights : Int32) (b_firstFlight : Int32) (H : Heap) (locs : List Loc) (ls : Array Slot), zf_X8_matters_16 b_holds b_sizes b_elements v3 b_refused b_now b_minds b_fled b_roster b_flights b_firstFlight = some res → zWd G A s.heap H locs [xM M b_isKept b_size b_at b_from b_sort b_fled b_flights b_firstFlight b_bestHarms b_bestRage b_harmed b_raged, xI cy ((M 1)) 7 b_refused, xI cy ((M 2)) 39 b_now, xI cy ((M 4)) 273 b_minds, xI cy ((M 7)) 8 b_holds, xI cy ((M 8)) 8 b_sizes, xJ cy ((M 9)) 320 b_elements, xI cy ((M 12)) 40 b_roster] → lv_has ls 9 [(0, .ref ((M 0))), (3, .int v3)] → W p l e zr_X8_matters s m args below meth c H locs 0 0 Q (F0 m 16 ls []) := by
    intro v3 b_refused b_now b_minds b_fled b_roster b_flights b_firstFlight H locs ls hf hw hl
    rw [zf_X8_matters_16] at hf
    refine lv_aload_n (pc := 16) hx hb dX8_matters_16 rfl (lv_at hl 0 rfl) ?_
    refine lv_iload_n (pc := 17) hx hb dX8_matters_17 rfl (lv_at hl 1 rfl) ?_
    refine lv_if_ge (pc := 18) (tgt := 25) hx hb dX8_matters_18 (by decide) (fun q10 => ?_) (fun q10 => ?_)
    · replace hf := if_t q10 hf
      refine lv_bipush (pc := 25) (v := -5) hx hb dX8_matters_25 (by decide) ?_
      exact J27 ((-5 : Int32)) b_refused b_now b_minds b_fled b_roster b_flights b_firstFlight _ _ _ hf hw (lv_sub hl [] rfl)
    · replace hf := if_f q10 hf
      refine lv_iload_n (pc := 21) hx hb dX8_matters_21 rfl (lv_at hl 1 rfl) ?_
      refine lv_goto (pc := 22) (tgt := 27) hx hb dX8_matters_22 (by decide) ?_
      exact J27 v3 b_refused b_now b_minds b_fled b_roster b_flights b_firstFlight _ _ _ hf hw (lv_sub hl [] rfl)
  have J93 : ∀ (k40 : Int32 → Int32 → Int32 → Int32 → (Nat → Int32) → (Nat → Int32) → (Nat → Int32) → Bool → (Nat → Int32) → Int32 → Int32 → Option (Int32 × (Nat → Int32) × (Nat → Int32) × (Nat → Int32) × Bool × (Nat → Int32) × Int32 × Int32)) (K40 : ∀ (v2 : Int32) (v4 : Int32) (v5 : Int32) (v6 : Int32) (b_refused : Nat → Int32) (b_now : Nat → Int32) (b_minds : Nat → Int32) (b_fled : Bool) (b_roster : Nat → Int32) (b_flights : Int32) (b_firstFlight : Int32) (H : Heap) (locs : List Loc) (ls : Array Slot), k40 v2 v4 v5 v6 b_refused b_now b_minds b_fled b_roster b_flights b_firstFlight = some res → zWd G A s.heap H locs [xM M b_isKept b_size b_at b_from b_sort b_fled b_flights b_firstFlight b_bestHarms b_bestRage b_harmed b_raged, xI cy ((M 1)) 7 b_refused, xI cy ((M 2)) 39 b_now, xI cy ((M 4)) 273 b_minds, xI cy ((M 7)) 8 b_holds, xI cy ((M 8)) 8 b_sizes, xJ cy ((M 9)) 320 b_elements, xI cy ((M 12)) 40 b_roster] → lv_has ls 9 [(0, .ref ((M 0))), (2, .int v2), (4, .int v4), (5, .int v5), (6, .int v6)] → W p l e zr_X8_matters s m args below meth c H locs 0 0 Q (F0 m 40 ls [])), ∀ (v2 : Int32) (v5 : Int32) (v6 : Int32) (v8 : Int32) (t0 : Int32) (b_refused : Nat → Int32) (b_now : Nat → Int32) (b_minds : Nat → Int32) (b_fled : Bool) (b_roster : Nat → Int32) (b_flights : Int32) (b_firstFlight : Int32) (H : Heap) (locs : List Loc) (ls : Array Slot), zf_X8_matters_93 b_holds b_sizes b_elements k40 v2 v5 v6 v8 t0 b_refused b_now b_minds b_fled b_roster b_flights b_firstFlight = some res → zWd G A s.heap H locs [xM M b_isKept b_size b_at b_from b_sort b_fled b_flights b_firstFlight b_bestHarms b_bestRage b_harmed b_raged, xI cy ((M 1)) 7 b_refused, xI cy ((M 2)) 39 b_now, xI cy ((M 4)) 273 b_minds, xI cy ((M 7)) 8 b_holds, xI cy ((M 8)) 8 b_sizes, xJ cy ((M 9)) 320 b_elements, xI cy ((M 12)) 40 b_roster] → lv_has ls 9 [(0, .ref ((M 0))), (2, .int v2), (5, .int v5), (6, .int v6), (8, .int v8)] → W p l e zr_X8_matters s m args below meth c H locs 0 0 Q (F0 m 93 ls [.int t0]) := by
    intro k40 K40 v2 v5 v6 v8 t0 b_refused b_now b_minds b_fled b_roster b_flights b_firstFlight H locs ls hf hw hl
    rw [zf_X8_matters_93] at hf
    refine lv_istore (pc := 93) (lv' := [(4, .int t0), (0, .ref ((M 0))), (2, .int v2), (5, .int v5), (6, .int v6), (8, .int v8)]) hx hb dX8_matters_93 hl (by decide) rfl (fun ls hl => ?_)
    refine lv_iload (pc := 95) hx hb dX8_matters_95 (lv_at hl 5 rfl) ?_
    refine lv_iload (pc := 97) hx hb dX8_matters_97 (lv_at hl 3 rfl) ?_
    refine zk_max (pc := 99) C hl.1 zm_X8_65 ⟨Nat.le_of_ble_eq_true rfl, Nat.le_of_ble_eq_true rfl⟩ ⟨Nat.zero_le _, Nat.zero_le _⟩ dX8_matters_99 ?_
    refine lv_istore (pc := 102) (lv' := [(5, .int ((if v8 < v5 then v5 else v8))), (4, .int t0), (0, .ref ((M 0))), (2, .int v2), (6, .int v6), (8, .int v8)]) hx hb dX8_matters_102 hl (by decide) rfl (fun ls hl => ?_)
    refine lv_iinc (pc := 104) (v := (v6 + 1)) (lv' := [(6, .int ((v6 + 1))), (5, .int ((if v8 < v5 then v5 else v8))), (4, .int t0), (0, .ref ((M 0))), (2, .int v2), (8, .int v8)]) hx hb dX8_matters_104 hl (k := 4) rfl rfl (by decide) rfl (fun ls hl => ?_)
    refine lv_goto (pc := 107) (tgt := 40) hx hb dX8_matters_107 (by decide) ?_
    exact K40 v2 t0 ((if v8 < v5 then v5 else v8)) ((v6 + 1)) b_refused b_now b_minds b_fled b_roster b_flights b_firstFlight _ _ _ hf hw (lv_sub hl [3, 4, 2, 1, 0] rfl)
  have J40 : ∀ (n : Nat), ∀ (v2 : Int32) (v4 : Int32) (v5 : Int32) (v6 : Int32) (b_refused : Nat → Int32) (b_now : Nat → Int32) (b_minds : Nat → Int32) (b_fled : Bool) (b_roster : Nat → Int32) (b_flights : Int32) (b_firstFlight : Int32) (H : Heap) (locs : List Loc) (ls : Array Slot), zf_X8_matters_40 b_holds b_sizes b_elements n v2 v4 v5 v6 b_refused b_now b_minds b_fled b_roster b_flights b_firstFlight = some res → zWd G A s.heap H locs [xM M b_isKept b_size b_at b_from b_sort b_fled b_flights b_firstFlight b_bestHarms b_bestRage b_harmed b_raged, xI cy ((M 1)) 7 b_refused, xI cy ((M 2)) 39 b_now, xI cy ((M 4)) 273 b_minds, xI cy ((M 7)) 8 b_holds, xI cy ((M 8)) 8 b_sizes, xJ cy ((M 9)) 320 b_elements, xI cy ((M 12)) 40 b_roster] → lv_has ls 9 [(0, .ref ((M 0))), (2, .int v2), (4, .int v4), (5, .int v5), (6, .int v6)] → W p l e zr_X8_matters s m args below meth c H locs 0 0 Q (F0 m 40 ls []) := by
    intro n
    induction n with
    | zero =>
      intro v2 v4 v5 v6 b_refused b_now b_minds b_fled b_roster b_flights b_firstFlight H locs ls hf hw hl
      rw [zf_X8_matters_40] at hf
      cases hf
    | succ n ih =>
      intro v2 v4 v5 v6 b_refused b_now b_minds b_fled b_roster b_flights b_firstFlight H locs ls hf hw hl
      rw [zf_X8_matters_40] at hf
      refine lv_iload (pc := 40) hx hb dX8_matters_40 (lv_at hl 4 rfl) ?_
      refine lv_iload_n (pc := 42) hx hb dX8_matters_42 rfl (lv_at hl 1 rfl) ?_
      refine lv_icmp_ge (pc := 43) (tgt := 110) hx hb dX8_matters_43 (by decide) (fun q4 => ?_) (fun q4 => ?_)
      · replace hf := if_t q4 hf
        refine lv_iload (pc := 110) hx hb dX8_matters_110 (lv_at hl 2 rfl) ?_
        have hf := Option.some.inj hf
        subst hf
        exact zk_reti (pc := 112) (ww := [xM M b_isKept b_size b_at b_from b_sort b_fled b_flights b_firstFlight b_bestHarms b_bestRage b_harmed b_raged, xI cy ((M 1)) 7 b_refused, xI cy ((M 2)) 39 b_now, xI cy ((M 4)) 273 b_minds, xI cy ((M 7)) 8 b_holds, xI cy ((M 8)) 8 b_sizes, xJ cy ((M 9)) 320 b_elements, xI cy ((M 12)) 40 b_roster]) C hw hr hQ dX8_matters_112
      · replace hf := if_f q4 hf
        refine lv_aload_n (pc := 46) hx hb dX8_matters_46 rfl (lv_at hl 0 rfl) ?_
        refine zk_gt (pc := 47) C hw zl_X8_49 0 rfl rfl dX8_matters_47 ?_
        refine lv_iload (pc := 50) hx hb dX8_matters_50 (lv_at hl 4 rfl) ?_
        obtain ⟨q5, hf⟩ := ck hf
        refine zk_iald (pc := 52) C hw 7 rfl q5 dX8_matters_52 ?_
        refine lv_istore (pc := 53) (lv' := [(7, .int ((b_roster v6.toNatClampNeg))), (0, .ref ((M 0))), (2, .int v2), (4, .int v4), (5, .int v5), (6, .int v6)]) hx hb dX8_matters_53 hl (by decide) rfl (fun ls hl => ?_)
        refine lv_aload_n (pc := 55) hx hb dX8_matters_55 rfl (lv_at hl 1 rfl) ?_
        refine zk_gt (pc := 56) C hw zl_X8_49 0 rfl rfl dX8_matters_56 ?_
        refine lv_iload (pc := 59) hx hb dX8_matters_59 (lv_at hl 5 rfl) ?_
        refine lv_iconst (pc := 61) (v := -1) hx hb dX8_matters_61 (by decide) ?_
        obtain ⟨q6, hf⟩ := ck hf
        refine zk_iast (pc := 62) (w' := [xM M b_isKept b_size b_at b_from b_sort b_fled b_flights b_firstFlight b_bestHarms b_bestRage b_harmed b_raged, xI cy ((M 1)) 7 b_refused, xI cy ((M 2)) 39 b_now, xI cy ((M 4)) 273 b_minds, xI cy ((M 7)) 8 b_holds, xI cy ((M 8)) 8 b_sizes, xJ cy ((M 9)) 320 b_elements, xI cy ((M 12)) 40 ((upd b_roster v6.toNatClampNeg ((-1 : Int32))))]) C hw 7 rfl q6 rfl dX8_matters_62 (fun H locs hw => ?_)
        refine lv_aload_n (pc := 63) hx hb dX8_matters_63 rfl (lv_at hl 1 rfl) ?_
        refine lv_iload_n (pc := 64) hx hb dX8_matters_64 rfl (lv_at hl 2 rfl) ?_
        obtain ⟨u7, u7e, hf⟩ := bd hf
        refine zk_cV (pc := 65) (ci := 8) (q0 := 0) (rest := []) (st1 := [.int u7.1]) (w' := [xM M b_isKept b_size b_at b_from b_sort u7.2.2.2.1 u7.2.2.2.2.1 u7.2.2.2.2.2 b_bestHarms b_bestRage b_harmed b_raged, xI cy ((M 1)) 7 b_refused, xI cy ((M 2)) 39 u7.2.1, xI cy ((M 4)) 273 u7.2.2.1, xI cy ((M 7)) 8 b_holds, xI cy ((M 8)) 8 b_sizes, xJ cy ((M 9)) 320 b_elements, xI cy ((M 12)) 40 ((upd b_roster v6.toNatClampNeg ((-1 : Int32))))]) (mk := [some (xM M b_isKept b_size b_at b_from b_sort u7.2.2.2.1 u7.2.2.2.2.1 u7.2.2.2.2.2 b_bestHarms b_bestRage b_harmed b_raged), none, some (xI cy ((M 2)) 39 u7.2.1), some (xI cy ((M 4)) 273 u7.2.2.1), none, none, none, none]) C hw (c_X8_rageBehind l G cy tt M b_isKept b_size b_at b_from b_sort b_bestHarms b_bestRage b_harmed b_raged v2 b_now b_minds b_fled ((upd b_roster v6.toNatClampNeg ((-1 : Int32)))) b_flights b_firstFlight _ u7e) zy_X8_rageBehind zm_X8_229 rfl rfl rfl [0, 2, 3, 7] rfl rfl rfl rfl rfl rfl rfl rfl hl.1 ⟨rfl, rfl⟩ ⟨Nat.le_of_ble_eq_true rfl, Nat.le_of_ble_eq_true rfl⟩ rfl (Nat.le_of_ble_eq_true rfl) ⟨Nat.zero_le _, Nat.zero_le _⟩ dX8_matters_65 (fun H locs hw => ?_)
        refine lv_istore (pc := 68) (lv' := [(8, .int u7.1), (7, .int ((b_roster v6.toNatClampNeg))), (0, .ref ((M 0))), (2, .int v2), (4, .int v4), (5, .int v5), (6, .int v6)]) hx hb dX8_matters_68 hl (by decide) rfl (fun ls hl => ?_)
        refine lv_aload_n (pc := 70) hx hb dX8_matters_70 rfl (lv_at hl 2 rfl) ?_
        refine zk_gt (pc := 71) C hw zl_X8_49 0 rfl rfl dX8_matters_71 ?_
        refine lv_iload (pc := 74) hx hb dX8_matters_74 (lv_at hl 6 rfl) ?_
        refine lv_iload (pc := 76) hx hb dX8_matters_76 (lv_at hl 1 rfl) ?_
        obtain ⟨q8, hf⟩ := ck hf
        refine zk_iast (pc := 78) (w' := [xM M b_isKept b_size b_at b_from b_sort u7.2.2.2.1 u7.2.2.2.2.1 u7.2.2.2.2.2 b_bestHarms b_bestRage b_harmed b_raged, xI cy ((M 1)) 7 b_refused, xI cy ((M 2)) 39 u7.2.1, xI cy ((M 4)) 273 u7.2.2.1, xI cy ((M 7)) 8 b_holds, xI cy ((M 8)) 8 b_sizes, xJ cy ((M 9)) 320 b_elements, xI cy ((M 12)) 40 ((upd ((upd b_roster v6.toNatClampNeg ((-1 : Int32)))) v6.toNatClampNeg ((b_roster v6.toNatClampNeg))))]) C hw 7 rfl q8 rfl dX8_matters_78 (fun H locs hw => ?_)
        refine lv_iload (pc := 79) hx hb dX8_matters_79 (lv_at hl 0 rfl) ?_
        refine lv_iload (pc := 81) hx hb dX8_matters_81 (lv_at hl 5 rfl) ?_
        refine lv_icmp_le (pc := 83) (tgt := 91) hx hb dX8_matters_83 (by decide) (fun q9 => ?_) (fun q9 => ?_)
        · replace hf := if_t q9 hf
          refine lv_iload (pc := 91) hx hb dX8_matters_91 (lv_at hl 4 rfl) ?_
          exact J93 (zf_X8_matters_40 b_holds b_sizes b_elements n) ih v2 v5 v6 u7.1 v4 b_refused u7.2.1 u7.2.2.1 u7.2.2.2.1 ((upd ((upd b_roster v6.toNatClampNeg ((-1 : Int32)))) v6.toNatClampNeg ((b_roster v6.toNatClampNeg)))) u7.2.2.2.2.1 u7.2.2.2.2.2 _ _ _ hf hw (lv_sub hl [2, 3, 5, 6, 0] rfl)
        · replace hf := if_f q9 hf
          refine lv_iload (pc := 86) hx hb dX8_matters_86 (lv_at hl 6 rfl) ?_
          refine lv_goto (pc := 88) (tgt := 93) hx hb dX8_matters_88 (by decide) ?_
          exact J93 (zf_X8_matters_40 b_holds b_sizes b_elements n) ih v2 v5 v6 u7.1 v6 b_refused u7.2.1 u7.2.2.1 u7.2.2.2.1 ((upd ((upd b_roster v6.toNatClampNeg ((-1 : Int32)))) v6.toNatClampNeg ((b_roster v6.toNatClampNeg)))) u7.2.2.2.2.1 u7.2.2.2.2.2 _ _ _ hf hw (lv_sub hl [2, 3, 5, 6, 0] rfl)
  rw [zf_X8_matters] at hf
  refine lv_aload_n (pc := 0) hx hb dX8_matters_0 rfl (lv_at hl 0 rfl) ?_
  refine lv_iconst (pc := 1) (v := 1) hx hb dX8_matters_1 (by decide) ?_
  refine lv_iload_n (pc := 2) hx hb dX8_matters_2 rfl (lv_at hl 1 rfl) ?_
  refine lv_iload_n (pc := 3) hx hb dX8_matters_3 rfl (lv_at hl 2 rfl) ?_
  obtain ⟨u1, u1e, hf⟩ := bd hf
  refine zk_cV (pc := 4) (ci := 8) (q0 := 0) (rest := []) (st1 := [.int u1.1]) (w' := [xM M b_isKept b_size b_at b_from b_sort b_fled b_flights b_firstFlight b_bestHarms b_bestRage b_harmed b_raged, xI cy ((M 1)) 7 b_refused, xI cy ((M 2)) 39 b_now, xI cy ((M 4)) 273 b_minds, xI cy ((M 7)) 8 b_holds, xI cy ((M 8)) 8 b_sizes, xJ cy ((M 9)) 320 b_elements, xI cy ((M 12)) 40 u1.2]) (mk := [none, none, none, none, none, none, none, some (xI cy ((M 12)) 40 u1.2)]) C hw (c_X8_load l G cy tt M b_isKept b_size b_at b_from b_sort b_fled b_flights b_firstFlight b_bestHarms b_bestRage b_harmed b_raged true x1 x2 b_now b_holds b_sizes b_elements b_roster _ u1e) zy_X8_load zm_X8_223 rfl rfl rfl [0, 2, 4, 5, 6, 7] rfl rfl rfl rfl rfl rfl rfl rfl hl.1 ⟨rfl, rfl⟩ ⟨Nat.le_of_ble_eq_true rfl, Nat.le_of_ble_eq_true rfl⟩ rfl (Nat.le_of_ble_eq_true rfl) ⟨Nat.zero_le _, Nat.zero_le _⟩ dX8_matters_4 (fun H locs hw => ?_)
  refine lv_istore_n (pc := 7) (lv' := [(3, .int u1.1), (0, .ref ((M 0))), (1, .int x1), (2, .int x2)]) hx hb dX8_matters_7 rfl hl (by decide) rfl (fun ls hl => ?_)
  refine lv_iload_n (pc := 8) hx hb dX8_matters_8 rfl (lv_at hl 0 rfl) ?_
  refine lv_if_lt (pc := 9) (tgt := 16) hx hb dX8_matters_9 (by decide) (fun q2 => ?_) (fun q2 => ?_)
  · replace hf := if_t q2 hf
    exact J16 u1.1 b_refused b_now b_minds b_fled u1.2 b_flights b_firstFlight _ _ _ hf hw (lv_sub hl [1, 0] rfl)
  · replace hf := if_f q2 hf
    refine lv_iload_n (pc := 12) hx hb dX8_matters_12 rfl (lv_at hl 3 rfl) ?_
    refine lv_if_ne (pc := 13) (tgt := 31) hx hb dX8_matters_13 (by decide) (fun q3 => ?_) (fun q3 => ?_)
    · replace hf := if_f q3 hf
      refine lv_iconst (pc := 31) (v := 0) hx hb dX8_matters_31 (by decide) ?_
      refine lv_istore (pc := 32) (lv' := [(4, .int ((0 : Int32))), (3, .int u1.1), (0, .ref ((M 0))), (1, .int x1), (2, .int x2)]) hx hb dX8_matters_32 hl (by decide) rfl (fun ls hl => ?_)
      refine lv_iconst (pc := 34) (v := -1) hx hb dX8_matters_34 (by decide) ?_
      refine lv_istore (pc := 35) (lv' := [(5, .int ((-1 : Int32))), (4, .int ((0 : Int32))), (3, .int u1.1), (0, .ref ((M 0))), (1, .int x1), (2, .int x2)]) hx hb dX8_matters_35 hl (by decide) rfl (fun ls hl => ?_)
      refine lv_iconst (pc := 37) (v := 0) hx hb dX8_matters_37 (by decide) ?_
      refine lv_istore (pc := 38) (lv' := [(6, .int ((0 : Int32))), (5, .int ((-1 : Int32))), (4, .int ((0 : Int32))), (3, .int u1.1), (0, .ref ((M 0))), (1, .int x1), (2, .int x2)]) hx hb dX8_matters_38 hl (by decide) rfl (fun ls hl => ?_)
      exact J40 FU x2 ((0 : Int32)) ((-1 : Int32)) ((0 : Int32)) b_refused b_now b_minds b_fled u1.2 b_flights b_firstFlight _ _ _ hf hw (lv_sub hl [4, 6, 2, 1, 0] rfl)
    · replace hf := if_t q3 hf
      exact J16 u1.1 b_refused b_now b_minds b_fled u1.2 b_flights b_firstFlight _ _ _ hf hw (lv_sub hl [1, 0] rfl)
def zf_X8_instead_88 (b_holds : Nat → Int32) (b_sizes : Nat → Int32) (b_elements : Nat → Int64) (k40 : Int32 → Int32 → Int32 → Int32 → Int32 → (Nat → Int32) → (Nat → Int32) → (Nat → Int32) → Bool → (Nat → Int32) → Int32 → Int32 → Option (Int32 × (Nat → Int32) × (Nat → Int32) × (Nat → Int32) × Bool × (Nat → Int32) × Int32 × Int32)) (v2 : Int32) (v3 : Int32) (v6 : Int32) (v7 : Int32) (v8 : Int32) (t0 : Int32) (b_refused : Nat → Int32) (b_now : Nat → Int32) (b_minds : Nat → Int32) (b_fled : Bool) (b_roster : Nat → Int32) (b_flights : Int32) (b_firstFlight : Int32) : Option (Int32 × (Nat → Int32) × (Nat → Int32) × (Nat → Int32) × Bool × (Nat → Int32) × Int32 × Int32) := k40 v2 v3 t0 ((if v6 < v8 then v6 else v8)) ((v7 + 1)) b_refused b_now b_minds b_fled b_roster b_flights b_firstFlight
def zf_X8_instead_40 (b_holds : Nat → Int32) (b_sizes : Nat → Int32) (b_elements : Nat → Int64) : Nat → Int32 → Int32 → Int32 → Int32 → Int32 → (Nat → Int32) → (Nat → Int32) → (Nat → Int32) → Bool → (Nat → Int32) → Int32 → Int32 → Option (Int32 × (Nat → Int32) × (Nat → Int32) × (Nat → Int32) × Bool × (Nat → Int32) × Int32 × Int32)
  | 0, _, _, _, _, _, _, _, _, _, _, _, _ => none
  | n + 1, v2, v3, v5, v6, v7, b_refused, b_now, b_minds, b_fled, b_roster, b_flights, b_firstFlight => (Option.bind (zf_X8_many b_now) (fun u5 => (if (u5 + (2 : Int32)) ≤ v7 then some (v5, b_refused, b_now, b_minds, b_fled, b_roster, b_flights, b_firstFlight) else (Option.bind (zf_X8_orderAt v7 b_now) (fun u7 => (if ix v3 40 then (Option.bind (zf_X8_rageBehind v2 b_now b_minds b_fled ((upd b_roster v3.toNatClampNeg u7)) b_flights b_firstFlight) (fun u9 => (if v6 ≤ u9.1 then zf_X8_instead_88 b_holds b_sizes b_elements (zf_X8_instead_40 b_holds b_sizes b_elements n) v2 v3 v6 v7 u9.1 v5 b_refused u9.2.1 u9.2.2.1 u9.2.2.2.1 ((upd b_roster v3.toNatClampNeg u7)) u9.2.2.2.2.1 u9.2.2.2.2.2 else (Option.bind (zf_X8_orderAt v7 u9.2.1) (fun u11 => zf_X8_instead_88 b_holds b_sizes b_elements (zf_X8_instead_40 b_holds b_sizes b_elements n) v2 v3 v6 v7 u9.1 u11 b_refused u9.2.1 u9.2.2.1 u9.2.2.2.1 ((upd b_roster v3.toNatClampNeg u7)) u9.2.2.2.2.1 u9.2.2.2.2.2))))) else none))))))
def zf_X8_instead (x1 : Int32) (x2 : Int32) (x3 : Int32) (b_refused : Nat → Int32) (b_now : Nat → Int32) (b_minds : Nat → Int32) (b_fled : Bool) (b_holds : Nat → Int32) (b_sizes : Nat → Int32) (b_elements : Nat → Int64) (b_roster : Nat → Int32) (b_flights : Int32) (b_firstFlight : Int32) : Option (Int32 × (Nat → Int32) × (Nat → Int32) × (Nat → Int32) × Bool × (Nat → Int32) × Int32 × Int32) := (Option.bind (zf_X8_isIn x3.toInt64 (((0 : Int64))) ((((x2 - (1 : Int32))).toInt64))) (fun u1 => (Option.bind (zf_X8_load u1 x1 x2 b_now b_holds b_sizes b_elements b_roster) (fun u2 => (if 0 ≤ u2.1 then zf_X8_instead_40 b_holds b_sizes b_elements FU x2 x3 ((-1 : Int32)) ((100 : Int32)) ((0 : Int32)) b_refused b_now b_minds b_fled u2.2 b_flights b_firstFlight else (Option.bind (zf_X8_refuse u2.1 b_refused) (fun u4 => some (u4.1, u4.2, b_now, b_minds, b_fled, u2.2, b_flights, b_firstFlight))))))))
abbrev zr_X8_instead : Room := { frames := 5, cells := 0, slots := 0, locals := 116 }
set_option maxHeartbeats 4000000 in
set_option maxRecDepth 100000 in
theorem c_X8_instead (l : Launch) (G : va_G) (cy : Nat → ClassId) (tt : Nat → Nat) (M : Nat → Nat) (b_isKept : Bool) (b_size : Int32) (b_at : Int32) (b_from : Int32) (b_sort : Int32) (b_bestHarms : Int32) (b_bestRage : Int32) (b_harmed : Int64) (b_raged : Int64) (x1 : Int32) (x2 : Int32) (x3 : Int32) (b_refused : Nat → Int32) (b_now : Nat → Int32) (b_minds : Nat → Int32) (b_fled : Bool) (b_holds : Nat → Int32) (b_sizes : Nat → Int32) (b_elements : Nat → Int64) (b_roster : Nat → Int32) (b_flights : Int32) (b_firstFlight : Int32) (res : Int32 × (Nat → Int32) × (Nat → Int32) × (Nat → Int32) × Bool × (Nat → Int32) × Int32 × Int32) (hf : zf_X8_instead x1 x2 x3 b_refused b_now b_minds b_fled b_holds b_sizes b_elements b_roster b_flights b_firstFlight = some res) : zCT l yX8_instead cX8_instead 9 (some .int) zr_X8_instead G cy tt [.ref ((M 0)), .int x1, .int x2, .int x3] [xM M b_isKept b_size b_at b_from b_sort b_fled b_flights b_firstFlight b_bestHarms b_bestRage b_harmed b_raged, xI cy ((M 1)) 7 b_refused, xI cy ((M 2)) 39 b_now, xI cy ((M 4)) 273 b_minds, xI cy ((M 7)) 8 b_holds, xI cy ((M 8)) 8 b_sizes, xJ cy ((M 9)) 320 b_elements, xI cy ((M 12)) 40 b_roster] (some (.int res.1)) [xM M b_isKept b_size b_at b_from b_sort res.2.2.2.2.1 res.2.2.2.2.2.2.1 res.2.2.2.2.2.2.2 b_bestHarms b_bestRage b_harmed b_raged, xI cy ((M 1)) 7 res.2.1, xI cy ((M 2)) 39 res.2.2.1, xI cy ((M 4)) 273 res.2.2.2.1, xI cy ((M 7)) 8 b_holds, xI cy ((M 8)) 8 b_sizes, xJ cy ((M 9)) 320 b_elements, xI cy ((M 12)) 40 res.2.2.2.2.2.1] := by
  refine zk_start zn_X8 (Nat.le_of_ble_eq_true rfl) ?_
  intro p e s m args below meth c A ls Q C hr hQ hw hl
  have C : zCx p m c s args meth cX8_instead 9 RX8 G cy tt A := C
  have hx := C.1.1
  have hb := C.1.2.1
  have hl : lv_has ls 9 [(0, .ref ((M 0))), (1, .int x1), (2, .int x2), (3, .int x3)] := hl
  have J88 : ∀ (k40 : Int32 → Int32 → Int32 → Int32 → Int32 → (Nat → Int32) → (Nat → Int32) → (Nat → Int32) → Bool → (Nat → Int32) → Int32 → Int32 → Option (Int32 × (Nat → Int32) × (Nat → Int32) × (Nat → Int32) × Bool × (Nat → Int32) × Int32 × Int32)) (K40 : ∀ (v2 : Int32) (v3 : Int32) (v5 : Int32) (v6 : Int32) (v7 : Int32) (b_refused : Nat → Int32) (b_now : Nat → Int32) (b_minds : Nat → Int32) (b_fled : Bool) (b_roster : Nat → Int32) (b_flights : Int32) (b_firstFlight : Int32) (H : Heap) (locs : List Loc) (ls : Array Slot), k40 v2 v3 v5 v6 v7 b_refused b_now b_minds b_fled b_roster b_flights b_firstFlight = some res → zWd G A s.heap H locs [xM M b_isKept b_size b_at b_from b_sort b_fled b_flights b_firstFlight b_bestHarms b_bestRage b_harmed b_raged, xI cy ((M 1)) 7 b_refused, xI cy ((M 2)) 39 b_now, xI cy ((M 4)) 273 b_minds, xI cy ((M 7)) 8 b_holds, xI cy ((M 8)) 8 b_sizes, xJ cy ((M 9)) 320 b_elements, xI cy ((M 12)) 40 b_roster] → lv_has ls 9 [(0, .ref ((M 0))), (2, .int v2), (3, .int v3), (5, .int v5), (6, .int v6), (7, .int v7)] → W p l e zr_X8_instead s m args below meth c H locs 0 0 Q (F0 m 40 ls [])), ∀ (v2 : Int32) (v3 : Int32) (v6 : Int32) (v7 : Int32) (v8 : Int32) (t0 : Int32) (b_refused : Nat → Int32) (b_now : Nat → Int32) (b_minds : Nat → Int32) (b_fled : Bool) (b_roster : Nat → Int32) (b_flights : Int32) (b_firstFlight : Int32) (H : Heap) (locs : List Loc) (ls : Array Slot), zf_X8_instead_88 b_holds b_sizes b_elements k40 v2 v3 v6 v7 v8 t0 b_refused b_now b_minds b_fled b_roster b_flights b_firstFlight = some res → zWd G A s.heap H locs [xM M b_isKept b_size b_at b_from b_sort b_fled b_flights b_firstFlight b_bestHarms b_bestRage b_harmed b_raged, xI cy ((M 1)) 7 b_refused, xI cy ((M 2)) 39 b_now, xI cy ((M 4)) 273 b_minds, xI cy ((M 7)) 8 b_holds, xI cy ((M 8)) 8 b_sizes, xJ cy ((M 9)) 320 b_elements, xI cy ((M 12)) 40 b_roster] → lv_has ls 9 [(0, .ref ((M 0))), (2, .int v2), (3, .int v3), (6, .int v6), (7, .int v7), (8, .int v8)] → W p l e zr_X8_instead s m args below meth c H locs 0 0 Q (F0 m 88 ls [.int t0]) := by
    intro k40 K40 v2 v3 v6 v7 v8 t0 b_refused b_now b_minds b_fled b_roster b_flights b_firstFlight H locs ls hf hw hl
    rw [zf_X8_instead_88] at hf
    refine lv_istore (pc := 88) (lv' := [(5, .int t0), (0, .ref ((M 0))), (2, .int v2), (3, .int v3), (6, .int v6), (7, .int v7), (8, .int v8)]) hx hb dX8_instead_88 hl (by decide) rfl (fun ls hl => ?_)
    refine lv_iload (pc := 90) hx hb dX8_instead_90 (lv_at hl 6 rfl) ?_
    refine lv_iload (pc := 92) hx hb dX8_instead_92 (lv_at hl 4 rfl) ?_
    refine zk_min (pc := 94) C hl.1 zm_X8_59 ⟨Nat.le_of_ble_eq_true rfl, Nat.le_of_ble_eq_true rfl⟩ ⟨Nat.zero_le _, Nat.zero_le _⟩ dX8_instead_94 ?_
    refine lv_istore (pc := 97) (lv' := [(6, .int ((if v6 < v8 then v6 else v8))), (5, .int t0), (0, .ref ((M 0))), (2, .int v2), (3, .int v3), (7, .int v7), (8, .int v8)]) hx hb dX8_instead_97 hl (by decide) rfl (fun ls hl => ?_)
    refine lv_iinc (pc := 99) (v := (v7 + 1)) (lv' := [(7, .int ((v7 + 1))), (6, .int ((if v6 < v8 then v6 else v8))), (5, .int t0), (0, .ref ((M 0))), (2, .int v2), (3, .int v3), (8, .int v8)]) hx hb dX8_instead_99 hl (k := 5) rfl rfl (by decide) rfl (fun ls hl => ?_)
    refine lv_goto (pc := 102) (tgt := 40) hx hb dX8_instead_102 (by decide) ?_
    exact K40 v2 v3 t0 ((if v6 < v8 then v6 else v8)) ((v7 + 1)) b_refused b_now b_minds b_fled b_roster b_flights b_firstFlight _ _ _ hf hw (lv_sub hl [3, 4, 5, 2, 1, 0] rfl)
  have J40 : ∀ (n : Nat), ∀ (v2 : Int32) (v3 : Int32) (v5 : Int32) (v6 : Int32) (v7 : Int32) (b_refused : Nat → Int32) (b_now : Nat → Int32) (b_minds : Nat → Int32) (b_fled : Bool) (b_roster : Nat → Int32) (b_flights : Int32) (b_firstFlight : Int32) (H : Heap) (locs : List Loc) (ls : Array Slot), zf_X8_instead_40 b_holds b_sizes b_elements n v2 v3 v5 v6 v7 b_refused b_now b_minds b_fled b_roster b_flights b_firstFlight = some res → zWd G A s.heap H locs [xM M b_isKept b_size b_at b_from b_sort b_fled b_flights b_firstFlight b_bestHarms b_bestRage b_harmed b_raged, xI cy ((M 1)) 7 b_refused, xI cy ((M 2)) 39 b_now, xI cy ((M 4)) 273 b_minds, xI cy ((M 7)) 8 b_holds, xI cy ((M 8)) 8 b_sizes, xJ cy ((M 9)) 320 b_elements, xI cy ((M 12)) 40 b_roster] → lv_has ls 9 [(0, .ref ((M 0))), (2, .int v2), (3, .int v3), (5, .int v5), (6, .int v6), (7, .int v7)] → W p l e zr_X8_instead s m args below meth c H locs 0 0 Q (F0 m 40 ls []) := by
    intro n
    induction n with
    | zero =>
      intro v2 v3 v5 v6 v7 b_refused b_now b_minds b_fled b_roster b_flights b_firstFlight H locs ls hf hw hl
      rw [zf_X8_instead_40] at hf
      cases hf
    | succ n ih =>
      intro v2 v3 v5 v6 v7 b_refused b_now b_minds b_fled b_roster b_flights b_firstFlight H locs ls hf hw hl
      rw [zf_X8_instead_40] at hf
      refine lv_iload (pc := 40) hx hb dX8_instead_40 (lv_at hl 5 rfl) ?_
      refine lv_aload_n (pc := 42) hx hb dX8_instead_42 rfl (lv_at hl 0 rfl) ?_
      obtain ⟨u5, u5e, hf⟩ := bd hf
      refine zk_cV (pc := 43) (ci := 8) (q0 := 0) (rest := [.int v7]) (st1 := [.int u5, .int v7]) (w' := [xM M b_isKept b_size b_at b_from b_sort b_fled b_flights b_firstFlight b_bestHarms b_bestRage b_harmed b_raged, xI cy ((M 1)) 7 b_refused, xI cy ((M 2)) 39 b_now, xI cy ((M 4)) 273 b_minds, xI cy ((M 7)) 8 b_holds, xI cy ((M 8)) 8 b_sizes, xJ cy ((M 9)) 320 b_elements, xI cy ((M 12)) 40 b_roster]) (mk := [none, none, none, none, none, none, none, none]) C hw (c_X8_many l G cy tt M b_isKept b_size b_at b_from b_sort b_fled b_flights b_firstFlight b_bestHarms b_bestRage b_harmed b_raged b_now _ u5e) zy_X8_many zm_X8_80 rfl rfl rfl [0, 2] rfl rfl rfl rfl rfl rfl rfl rfl hl.1 ⟨rfl, rfl⟩ ⟨Nat.le_of_ble_eq_true rfl, Nat.le_of_ble_eq_true rfl⟩ rfl (Nat.le_of_ble_eq_true rfl) ⟨Nat.zero_le _, Nat.zero_le _⟩ dX8_instead_43 (fun H locs hw => ?_)
      refine lv_iconst (pc := 46) (v := 2) hx hb dX8_instead_46 (by decide) ?_
      refine lv_iadd (pc := 47) hx hb dX8_instead_47 ?_
      refine lv_icmp_ge (pc := 48) (tgt := 105) hx hb dX8_instead_48 (by decide) (fun q6 => ?_) (fun q6 => ?_)
      · replace hf := if_t q6 hf
        refine lv_iload (pc := 105) hx hb dX8_instead_105 (lv_at hl 3 rfl) ?_
        have hf := Option.some.inj hf
        subst hf
        exact zk_reti (pc := 107) (ww := [xM M b_isKept b_size b_at b_from b_sort b_fled b_flights b_firstFlight b_bestHarms b_bestRage b_harmed b_raged, xI cy ((M 1)) 7 b_refused, xI cy ((M 2)) 39 b_now, xI cy ((M 4)) 273 b_minds, xI cy ((M 7)) 8 b_holds, xI cy ((M 8)) 8 b_sizes, xJ cy ((M 9)) 320 b_elements, xI cy ((M 12)) 40 b_roster]) C hw hr hQ dX8_instead_107
      · replace hf := if_f q6 hf
        refine lv_aload_n (pc := 51) hx hb dX8_instead_51 rfl (lv_at hl 0 rfl) ?_
        refine zk_gt (pc := 52) C hw zl_X8_49 0 rfl rfl dX8_instead_52 ?_
        refine lv_iload_n (pc := 55) hx hb dX8_instead_55 rfl (lv_at hl 2 rfl) ?_
        refine lv_aload_n (pc := 56) hx hb dX8_instead_56 rfl (lv_at hl 0 rfl) ?_
        refine lv_iload (pc := 57) hx hb dX8_instead_57 (lv_at hl 5 rfl) ?_
        obtain ⟨u7, u7e, hf⟩ := bd hf
        refine zk_cV (pc := 59) (ci := 8) (q0 := 0) (rest := [.int v3, .ref ((M 12))]) (st1 := [.int u7, .int v3, .ref ((M 12))]) (w' := [xM M b_isKept b_size b_at b_from b_sort b_fled b_flights b_firstFlight b_bestHarms b_bestRage b_harmed b_raged, xI cy ((M 1)) 7 b_refused, xI cy ((M 2)) 39 b_now, xI cy ((M 4)) 273 b_minds, xI cy ((M 7)) 8 b_holds, xI cy ((M 8)) 8 b_sizes, xJ cy ((M 9)) 320 b_elements, xI cy ((M 12)) 40 b_roster]) (mk := [none, none, none, none, none, none, none, none]) C hw (c_X8_orderAt l G cy tt M b_isKept b_size b_at b_from b_sort b_fled b_flights b_firstFlight b_bestHarms b_bestRage b_harmed b_raged v7 b_now _ u7e) zy_X8_orderAt zm_X8_195 rfl rfl rfl [0, 2] rfl rfl rfl rfl rfl rfl rfl rfl hl.1 ⟨rfl, rfl⟩ ⟨Nat.le_of_ble_eq_true rfl, Nat.le_of_ble_eq_true rfl⟩ rfl (Nat.le_of_ble_eq_true rfl) ⟨Nat.zero_le _, Nat.zero_le _⟩ dX8_instead_59 (fun H locs hw => ?_)
        obtain ⟨q8, hf⟩ := ck hf
        refine zk_iast (pc := 62) (w' := [xM M b_isKept b_size b_at b_from b_sort b_fled b_flights b_firstFlight b_bestHarms b_bestRage b_harmed b_raged, xI cy ((M 1)) 7 b_refused, xI cy ((M 2)) 39 b_now, xI cy ((M 4)) 273 b_minds, xI cy ((M 7)) 8 b_holds, xI cy ((M 8)) 8 b_sizes, xJ cy ((M 9)) 320 b_elements, xI cy ((M 12)) 40 ((upd b_roster v3.toNatClampNeg u7))]) C hw 7 rfl q8 rfl dX8_instead_62 (fun H locs hw => ?_)
        refine lv_aload_n (pc := 63) hx hb dX8_instead_63 rfl (lv_at hl 0 rfl) ?_
        refine lv_iload_n (pc := 64) hx hb dX8_instead_64 rfl (lv_at hl 1 rfl) ?_
        obtain ⟨u9, u9e, hf⟩ := bd hf
        refine zk_cV (pc := 65) (ci := 8) (q0 := 0) (rest := []) (st1 := [.int u9.1]) (w' := [xM M b_isKept b_size b_at b_from b_sort u9.2.2.2.1 u9.2.2.2.2.1 u9.2.2.2.2.2 b_bestHarms b_bestRage b_harmed b_raged, xI cy ((M 1)) 7 b_refused, xI cy ((M 2)) 39 u9.2.1, xI cy ((M 4)) 273 u9.2.2.1, xI cy ((M 7)) 8 b_holds, xI cy ((M 8)) 8 b_sizes, xJ cy ((M 9)) 320 b_elements, xI cy ((M 12)) 40 ((upd b_roster v3.toNatClampNeg u7))]) (mk := [some (xM M b_isKept b_size b_at b_from b_sort u9.2.2.2.1 u9.2.2.2.2.1 u9.2.2.2.2.2 b_bestHarms b_bestRage b_harmed b_raged), none, some (xI cy ((M 2)) 39 u9.2.1), some (xI cy ((M 4)) 273 u9.2.2.1), none, none, none, none]) C hw (c_X8_rageBehind l G cy tt M b_isKept b_size b_at b_from b_sort b_bestHarms b_bestRage b_harmed b_raged v2 b_now b_minds b_fled ((upd b_roster v3.toNatClampNeg u7)) b_flights b_firstFlight _ u9e) zy_X8_rageBehind zm_X8_229 rfl rfl rfl [0, 2, 3, 7] rfl rfl rfl rfl rfl rfl rfl rfl hl.1 ⟨rfl, rfl⟩ ⟨Nat.le_of_ble_eq_true rfl, Nat.le_of_ble_eq_true rfl⟩ rfl (Nat.le_of_ble_eq_true rfl) ⟨Nat.zero_le _, Nat.zero_le _⟩ dX8_instead_65 (fun H locs hw => ?_)
        refine lv_istore (pc := 68) (lv' := [(8, .int u9.1), (0, .ref ((M 0))), (2, .int v2), (3, .int v3), (5, .int v5), (6, .int v6), (7, .int v7)]) hx hb dX8_instead_68 hl (by decide) rfl (fun ls hl => ?_)
        refine lv_iload (pc := 70) hx hb dX8_instead_70 (lv_at hl 0 rfl) ?_
        refine lv_iload (pc := 72) hx hb dX8_instead_72 (lv_at hl 5 rfl) ?_
        refine lv_icmp_ge (pc := 74) (tgt := 86) hx hb dX8_instead_74 (by decide) (fun q10 => ?_) (fun q10 => ?_)
        · replace hf := if_t q10 hf
          refine lv_iload (pc := 86) hx hb dX8_instead_86 (lv_at hl 4 rfl) ?_
          exact J88 (zf_X8_instead_40 b_holds b_sizes b_elements n) ih v2 v3 v6 v7 u9.1 v5 b_refused u9.2.1 u9.2.2.1 u9.2.2.2.1 ((upd b_roster v3.toNatClampNeg u7)) u9.2.2.2.2.1 u9.2.2.2.2.2 _ _ _ hf hw (lv_sub hl [1, 2, 3, 5, 6, 0] rfl)
        · replace hf := if_f q10 hf
          refine lv_aload_n (pc := 77) hx hb dX8_instead_77 rfl (lv_at hl 1 rfl) ?_
          refine lv_iload (pc := 78) hx hb dX8_instead_78 (lv_at hl 6 rfl) ?_
          obtain ⟨u11, u11e, hf⟩ := bd hf
          refine zk_cV (pc := 80) (ci := 8) (q0 := 0) (rest := []) (st1 := [.int u11]) (w' := [xM M b_isKept b_size b_at b_from b_sort u9.2.2.2.1 u9.2.2.2.2.1 u9.2.2.2.2.2 b_bestHarms b_bestRage b_harmed b_raged, xI cy ((M 1)) 7 b_refused, xI cy ((M 2)) 39 u9.2.1, xI cy ((M 4)) 273 u9.2.2.1, xI cy ((M 7)) 8 b_holds, xI cy ((M 8)) 8 b_sizes, xJ cy ((M 9)) 320 b_elements, xI cy ((M 12)) 40 ((upd b_roster v3.toNatClampNeg u7))]) (mk := [none, none, none, none, none, none, none, none]) C hw (c_X8_orderAt l G cy tt M b_isKept b_size b_at b_from b_sort u9.2.2.2.1 u9.2.2.2.2.1 u9.2.2.2.2.2 b_bestHarms b_bestRage b_harmed b_raged v7 u9.2.1 _ u11e) zy_X8_orderAt zm_X8_195 rfl rfl rfl [0, 2] rfl rfl rfl rfl rfl rfl rfl rfl hl.1 ⟨rfl, rfl⟩ ⟨Nat.le_of_ble_eq_true rfl, Nat.le_of_ble_eq_true rfl⟩ rfl (Nat.le_of_ble_eq_true rfl) ⟨Nat.zero_le _, Nat.zero_le _⟩ dX8_instead_80 (fun H locs hw => ?_)
          refine lv_goto (pc := 83) (tgt := 88) hx hb dX8_instead_83 (by decide) ?_
          exact J88 (zf_X8_instead_40 b_holds b_sizes b_elements n) ih v2 v3 v6 v7 u9.1 u11 b_refused u9.2.1 u9.2.2.1 u9.2.2.2.1 ((upd b_roster v3.toNatClampNeg u7)) u9.2.2.2.2.1 u9.2.2.2.2.2 _ _ _ hf hw (lv_sub hl [1, 2, 3, 5, 6, 0] rfl)
  rw [zf_X8_instead] at hf
  refine lv_aload_n (pc := 0) hx hb dX8_instead_0 rfl (lv_at hl 0 rfl) ?_
  refine lv_iload_n (pc := 1) hx hb dX8_instead_1 rfl (lv_at hl 3 rfl) ?_
  refine lv_i2l (pc := 2) (v := x3.toInt64) hx hb dX8_instead_2 rfl ?_
  refine lv_lconst (pc := 3) (v := 0) hx hb dX8_instead_3 (by decide) ?_
  refine lv_iload_n (pc := 4) hx hb dX8_instead_4 rfl (lv_at hl 2 rfl) ?_
  refine lv_iconst (pc := 5) (v := 1) hx hb dX8_instead_5 (by decide) ?_
  refine lv_isub (pc := 6) hx hb dX8_instead_6 ?_
  refine lv_i2l (pc := 7) (v := ((x2 - (1 : Int32))).toInt64) hx hb dX8_instead_7 rfl ?_
  obtain ⟨u1, u1e, hf⟩ := bd hf
  refine zk_cS (pc := 8) (rest := [.ref ((M 0))]) (st1 := [.int (bI u1), .ref ((M 0))]) (w' := [xM M b_isKept b_size b_at b_from b_sort b_fled b_flights b_firstFlight b_bestHarms b_bestRage b_harmed b_raged, xI cy ((M 1)) 7 b_refused, xI cy ((M 2)) 39 b_now, xI cy ((M 4)) 273 b_minds, xI cy ((M 7)) 8 b_holds, xI cy ((M 8)) 8 b_sizes, xJ cy ((M 9)) 320 b_elements, xI cy ((M 12)) 40 b_roster]) (mk := [none, none, none, none, none, none, none, none]) C hw (c_X8_isIn l G cy tt x3.toInt64 (((0 : Int64))) ((((x2 - (1 : Int32))).toInt64)) _ u1e) zy_X8_isIn zm_X8_68 [] rfl rfl rfl rfl rfl rfl rfl rfl hl.1 ⟨rfl, rfl⟩ ⟨Nat.le_of_ble_eq_true rfl, Nat.le_of_ble_eq_true rfl⟩ rfl (Nat.le_of_ble_eq_true rfl) ⟨Nat.zero_le _, Nat.zero_le _⟩ dX8_instead_8 (fun H locs hw => ?_)
  refine lv_iload_n (pc := 11) hx hb dX8_instead_11 rfl (lv_at hl 1 rfl) ?_
  refine lv_iload_n (pc := 12) hx hb dX8_instead_12 rfl (lv_at hl 2 rfl) ?_
  obtain ⟨u2, u2e, hf⟩ := bd hf
  refine zk_cV (pc := 13) (ci := 8) (q0 := 0) (rest := []) (st1 := [.int u2.1]) (w' := [xM M b_isKept b_size b_at b_from b_sort b_fled b_flights b_firstFlight b_bestHarms b_bestRage b_harmed b_raged, xI cy ((M 1)) 7 b_refused, xI cy ((M 2)) 39 b_now, xI cy ((M 4)) 273 b_minds, xI cy ((M 7)) 8 b_holds, xI cy ((M 8)) 8 b_sizes, xJ cy ((M 9)) 320 b_elements, xI cy ((M 12)) 40 u2.2]) (mk := [none, none, none, none, none, none, none, some (xI cy ((M 12)) 40 u2.2)]) C hw (c_X8_load l G cy tt M b_isKept b_size b_at b_from b_sort b_fled b_flights b_firstFlight b_bestHarms b_bestRage b_harmed b_raged u1 x1 x2 b_now b_holds b_sizes b_elements b_roster _ u2e) zy_X8_load zm_X8_223 rfl rfl rfl [0, 2, 4, 5, 6, 7] rfl rfl rfl rfl rfl rfl rfl rfl hl.1 ⟨rfl, rfl⟩ ⟨Nat.le_of_ble_eq_true rfl, Nat.le_of_ble_eq_true rfl⟩ rfl (Nat.le_of_ble_eq_true rfl) ⟨Nat.zero_le _, Nat.zero_le _⟩ dX8_instead_13 (fun H locs hw => ?_)
  refine lv_istore (pc := 16) (lv' := [(4, .int u2.1), (0, .ref ((M 0))), (1, .int x1), (2, .int x2), (3, .int x3)]) hx hb dX8_instead_16 hl (by decide) rfl (fun ls hl => ?_)
  refine lv_iload (pc := 18) hx hb dX8_instead_18 (lv_at hl 0 rfl) ?_
  refine lv_if_ge (pc := 20) (tgt := 30) hx hb dX8_instead_20 (by decide) (fun q3 => ?_) (fun q3 => ?_)
  · replace hf := if_t q3 hf
    refine lv_iconst (pc := 30) (v := -1) hx hb dX8_instead_30 (by decide) ?_
    refine lv_istore (pc := 31) (lv' := [(5, .int ((-1 : Int32))), (4, .int u2.1), (0, .ref ((M 0))), (1, .int x1), (2, .int x2), (3, .int x3)]) hx hb dX8_instead_31 hl (by decide) rfl (fun ls hl => ?_)
    refine lv_bipush (pc := 33) (v := 100) hx hb dX8_instead_33 (by decide) ?_
    refine lv_istore (pc := 35) (lv' := [(6, .int ((100 : Int32))), (5, .int ((-1 : Int32))), (4, .int u2.1), (0, .ref ((M 0))), (1, .int x1), (2, .int x2), (3, .int x3)]) hx hb dX8_instead_35 hl (by decide) rfl (fun ls hl => ?_)
    refine lv_iconst (pc := 37) (v := 0) hx hb dX8_instead_37 (by decide) ?_
    refine lv_istore (pc := 38) (lv' := [(7, .int ((0 : Int32))), (6, .int ((100 : Int32))), (5, .int ((-1 : Int32))), (4, .int u2.1), (0, .ref ((M 0))), (1, .int x1), (2, .int x2), (3, .int x3)]) hx hb dX8_instead_38 hl (by decide) rfl (fun ls hl => ?_)
    exact J40 FU x2 x3 ((-1 : Int32)) ((100 : Int32)) ((0 : Int32)) b_refused b_now b_minds b_fled u2.2 b_flights b_firstFlight _ _ _ hf hw (lv_sub hl [4, 6, 7, 2, 1, 0] rfl)
  · replace hf := if_f q3 hf
    refine lv_aload_n (pc := 23) hx hb dX8_instead_23 rfl (lv_at hl 1 rfl) ?_
    refine lv_iload (pc := 24) hx hb dX8_instead_24 (lv_at hl 0 rfl) ?_
    obtain ⟨u4, u4e, hf⟩ := bd hf
    refine zk_cV (pc := 26) (ci := 8) (q0 := 0) (rest := []) (st1 := [.int u4.1]) (w' := [xM M b_isKept b_size b_at b_from b_sort b_fled b_flights b_firstFlight b_bestHarms b_bestRage b_harmed b_raged, xI cy ((M 1)) 7 u4.2, xI cy ((M 2)) 39 b_now, xI cy ((M 4)) 273 b_minds, xI cy ((M 7)) 8 b_holds, xI cy ((M 8)) 8 b_sizes, xJ cy ((M 9)) 320 b_elements, xI cy ((M 12)) 40 u2.2]) (mk := [none, some (xI cy ((M 1)) 7 u4.2), none, none, none, none, none, none]) C hw (c_X8_refuse l G cy tt M b_isKept b_size b_at b_from b_sort b_fled b_flights b_firstFlight b_bestHarms b_bestRage b_harmed b_raged u2.1 b_refused _ u4e) zy_X8_refuse zm_X8_90 rfl rfl rfl [0, 1] rfl rfl rfl rfl rfl rfl rfl rfl hl.1 ⟨rfl, rfl⟩ ⟨Nat.le_of_ble_eq_true rfl, Nat.le_of_ble_eq_true rfl⟩ rfl (Nat.le_of_ble_eq_true rfl) ⟨Nat.zero_le _, Nat.zero_le _⟩ dX8_instead_26 (fun H locs hw => ?_)
    have hf := Option.some.inj hf
    subst hf
    exact zk_reti (pc := 29) (ww := [xM M b_isKept b_size b_at b_from b_sort b_fled b_flights b_firstFlight b_bestHarms b_bestRage b_harmed b_raged, xI cy ((M 1)) 7 u4.2, xI cy ((M 2)) 39 b_now, xI cy ((M 4)) 273 b_minds, xI cy ((M 7)) 8 b_holds, xI cy ((M 8)) 8 b_sizes, xJ cy ((M 9)) 320 b_elements, xI cy ((M 12)) 40 u2.2]) C hw hr hQ dX8_instead_29
def zf_X8_tryAll_l4_54 : Nat → Int32 → Int32 → (Nat → Int32) → (Nat → Int32) → Bool → (Nat → Int32) → (Nat → Int32) → Int32 → Int32 → Option ((Nat → Int32) × (Nat → Int32) × Bool × (Nat → Int32) × (Nat → Int32) × Int32 × Int32)
  | 0, _, _, _, _, _, _, _, _, _ => none
  | n + 1, v2, v4, b_now, b_minds, b_fled, b_roster, b_bestRow, b_bestHarms, b_bestRage => (if v2 ≤ v4 then some (b_now, b_minds, b_fled, b_roster, b_bestRow, b_bestHarms, b_bestRage) else (if ix v4 40 then (if ix v4 4 then zf_X8_tryAll_l4_54 n v2 ((v4 + 1)) b_now b_minds b_fled b_roster ((upd b_bestRow v4.toNatClampNeg ((b_roster v4.toNatClampNeg)))) b_bestHarms b_bestRage else none) else none))
def zf_X8_tryAll_l4_35 (v2 : Int32) (v3 : Int32) (b_now : Nat → Int32) (b_minds : Nat → Int32) (b_fled : Bool) (b_roster : Nat → Int32) (b_bestRow : Nat → Int32) (b_bestHarms : Int32) (b_bestRage : Int32) : Option ((Nat → Int32) × (Nat → Int32) × Bool × (Nat → Int32) × (Nat → Int32) × Int32 × Int32) := zf_X8_tryAll_l4_54 FU v2 ((0 : Int32)) b_now b_minds b_fled b_roster b_bestRow v3 ((b_now 33))
def zf_X8_tryAll_l4_89 : Nat → Int32 → Int32 → Bool → (Nat → Int32) → (Nat → Int32) → Bool → (Nat → Int32) → (Nat → Int32) → Int32 → Int32 → Option ((Nat → Int32) × (Nat → Int32) × Bool × (Nat → Int32) × (Nat → Int32) × Int32 × Int32)
  | 0, _, _, _, _, _, _, _, _, _, _ => none
  | n + 1, v2, v3, v4, b_now, b_minds, b_fled, b_roster, b_bestRow, b_bestHarms, b_bestRage => (Option.bind (zf_X8_many b_now) (fun u9 => (if (u9 + (2 : Int32)) ≤ (bI v4) then some (b_now, b_minds, b_fled, b_roster, b_bestRow, b_bestHarms, b_bestRage) else (Option.bind (zf_X8_orderAt (((bI v4))) b_now) (fun u11 => (Option.bind (zf_X8_step (((((upd b_roster 4 u11)) 4))) b_now b_fled) (fun u12 => none)))))))
def zf_X8_tryAll_l4 (x2 : Int32) (x3 : Int32) (b_now : Nat → Int32) (b_minds : Nat → Int32) (b_fled : Bool) (b_roster : Nat → Int32) (b_bestRow : Nat → Int32) (b_bestHarms : Int32) (b_bestRage : Int32) : Option ((Nat → Int32) × (Nat → Int32) × Bool × (Nat → Int32) × (Nat → Int32) × Int32 × Int32) := (if (4 : Int32) = x2 then (if x3 < b_bestHarms then zf_X8_tryAll_l4_35 x2 x3 b_now b_minds b_fled b_roster b_bestRow b_bestHarms b_bestRage else (if x3 = b_bestHarms then (if b_bestRage ≤ (b_now 33) then some (b_now, b_minds, b_fled, b_roster, b_bestRow, b_bestHarms, b_bestRage) else zf_X8_tryAll_l4_35 x2 x3 b_now b_minds b_fled b_roster b_bestRow b_bestHarms b_bestRage) else some (b_now, b_minds, b_fled, b_roster, b_bestRow, b_bestHarms, b_bestRage))) else (Option.bind (zf_X8_keep (((4 : Int32))) b_now b_minds) (fun u2 => zf_X8_tryAll_l4_89 FU x2 x3 false b_now u2 b_fled b_roster b_bestRow b_bestHarms b_bestRage)))
abbrev zr_X8_tryAll_l4 : Room := { frames := 3, cells := 0, slots := 0, locals := 65 }
set_option maxHeartbeats 4000000 in
set_option maxRecDepth 100000 in
theorem c_X8_tryAll_l4 (l : Launch) (G : va_G) (cy : Nat → ClassId) (tt : Nat → Nat) (M : Nat → Nat) (b_isKept : Bool) (b_size : Int32) (b_at : Int32) (b_from : Int32) (b_sort : Int32) (b_flights : Int32) (b_firstFlight : Int32) (b_harmed : Int64) (b_raged : Int64) (x2 : Int32) (x3 : Int32) (b_now : Nat → Int32) (b_minds : Nat → Int32) (b_fled : Bool) (b_roster : Nat → Int32) (b_bestRow : Nat → Int32) (b_bestHarms : Int32) (b_bestRage : Int32) (res : (Nat → Int32) × (Nat → Int32) × Bool × (Nat → Int32) × (Nat → Int32) × Int32 × Int32) (hf : zf_X8_tryAll_l4 x2 x3 b_now b_minds b_fled b_roster b_bestRow b_bestHarms b_bestRage = some res) : zCT l yX8_tryAll cX8_tryAll 6 none zr_X8_tryAll_l4 G cy tt [.ref ((M 0)), .int ((4 : Int32)), .int x2, .int x3] [xM M b_isKept b_size b_at b_from b_sort b_fled b_flights b_firstFlight b_bestHarms b_bestRage b_harmed b_raged, xI cy ((M 2)) 39 b_now, xI cy ((M 4)) 273 b_minds, xI cy ((M 12)) 40 b_roster, xI cy ((M 13)) 4 b_bestRow] none [xM M b_isKept b_size b_at b_from b_sort res.2.2.1 b_flights b_firstFlight res.2.2.2.2.2.1 res.2.2.2.2.2.2 b_harmed b_raged, xI cy ((M 2)) 39 res.1, xI cy ((M 4)) 273 res.2.1, xI cy ((M 12)) 40 res.2.2.2.1, xI cy ((M 13)) 4 res.2.2.2.2.1] := by
  refine zk_start zn_X8 (Nat.le_of_ble_eq_true rfl) ?_
  intro p e s m args below meth c A ls Q C hr hQ hw hl
  have C : zCx p m c s args meth cX8_tryAll 6 RX8 G cy tt A := C
  have hx := C.1.1
  have hb := C.1.2.1
  have hl : lv_has ls 6 [(0, .ref ((M 0))), (1, .int ((4 : Int32))), (2, .int x2), (3, .int x3)] := hl
  have J54 : ∀ (n : Nat), ∀ (v2 : Int32) (v4 : Int32) (b_now : Nat → Int32) (b_minds : Nat → Int32) (b_fled : Bool) (b_roster : Nat → Int32) (b_bestRow : Nat → Int32) (b_bestHarms : Int32) (b_bestRage : Int32) (H : Heap) (locs : List Loc) (ls : Array Slot), zf_X8_tryAll_l4_54 n v2 v4 b_now b_minds b_fled b_roster b_bestRow b_bestHarms b_bestRage = some res → zWd G A s.heap H locs [xM M b_isKept b_size b_at b_from b_sort b_fled b_flights b_firstFlight b_bestHarms b_bestRage b_harmed b_raged, xI cy ((M 2)) 39 b_now, xI cy ((M 4)) 273 b_minds, xI cy ((M 12)) 40 b_roster, xI cy ((M 13)) 4 b_bestRow] → lv_has ls 6 [(0, .ref ((M 0))), (2, .int v2), (4, .int v4)] → W p l e zr_X8_tryAll_l4 s m args below meth c H locs 0 0 Q (F0 m 54 ls []) := by
    intro n
    induction n with
    | zero =>
      intro v2 v4 b_now b_minds b_fled b_roster b_bestRow b_bestHarms b_bestRage H locs ls hf hw hl
      rw [zf_X8_tryAll_l4_54] at hf
      cases hf
    | succ n ih =>
      intro v2 v4 b_now b_minds b_fled b_roster b_bestRow b_bestHarms b_bestRage H locs ls hf hw hl
      rw [zf_X8_tryAll_l4_54] at hf
      refine lv_iload (pc := 54) hx hb dX8_tryAll_54 (lv_at hl 2 rfl) ?_
      refine lv_iload_n (pc := 56) hx hb dX8_tryAll_56 rfl (lv_at hl 1 rfl) ?_
      refine lv_icmp_ge (pc := 57) (tgt := 80) hx hb dX8_tryAll_57 (by decide) (fun q6 => ?_) (fun q6 => ?_)
      · replace hf := if_t q6 hf
        have hf := Option.some.inj hf
        subst hf
        exact zk_retv (pc := 80) (ww := [xM M b_isKept b_size b_at b_from b_sort b_fled b_flights b_firstFlight b_bestHarms b_bestRage b_harmed b_raged, xI cy ((M 2)) 39 b_now, xI cy ((M 4)) 273 b_minds, xI cy ((M 12)) 40 b_roster, xI cy ((M 13)) 4 b_bestRow]) C hw hr hQ dX8_tryAll_80
      · replace hf := if_f q6 hf
        refine lv_aload_n (pc := 60) hx hb dX8_tryAll_60 rfl (lv_at hl 0 rfl) ?_
        refine zk_gt (pc := 61) C hw zl_X8_52 0 rfl rfl dX8_tryAll_61 ?_
        refine lv_iload (pc := 64) hx hb dX8_tryAll_64 (lv_at hl 2 rfl) ?_
        refine lv_aload_n (pc := 66) hx hb dX8_tryAll_66 rfl (lv_at hl 0 rfl) ?_
        refine zk_gt (pc := 67) C hw zl_X8_49 0 rfl rfl dX8_tryAll_67 ?_
        refine lv_iload (pc := 70) hx hb dX8_tryAll_70 (lv_at hl 2 rfl) ?_
        obtain ⟨q7, hf⟩ := ck hf
        refine zk_iald (pc := 72) C hw 3 rfl q7 dX8_tryAll_72 ?_
        obtain ⟨q8, hf⟩ := ck hf
        refine zk_iast (pc := 73) (w' := [xM M b_isKept b_size b_at b_from b_sort b_fled b_flights b_firstFlight b_bestHarms b_bestRage b_harmed b_raged, xI cy ((M 2)) 39 b_now, xI cy ((M 4)) 273 b_minds, xI cy ((M 12)) 40 b_roster, xI cy ((M 13)) 4 ((upd b_bestRow v4.toNatClampNeg ((b_roster v4.toNatClampNeg))))]) C hw 4 rfl q8 rfl dX8_tryAll_73 (fun H locs hw => ?_)
        refine lv_iinc (pc := 74) (v := (v4 + 1)) (lv' := [(4, .int ((v4 + 1))), (0, .ref ((M 0))), (2, .int v2)]) hx hb dX8_tryAll_74 hl (k := 2) rfl rfl (by decide) rfl (fun ls hl => ?_)
        refine lv_goto (pc := 77) (tgt := 54) hx hb dX8_tryAll_77 (by decide) ?_
        exact ih v2 ((v4 + 1)) b_now b_minds b_fled b_roster ((upd b_bestRow v4.toNatClampNeg ((b_roster v4.toNatClampNeg)))) b_bestHarms b_bestRage _ _ _ hf hw (lv_sub hl [1, 2, 0] rfl)
  have J35 : ∀ (v2 : Int32) (v3 : Int32) (b_now : Nat → Int32) (b_minds : Nat → Int32) (b_fled : Bool) (b_roster : Nat → Int32) (b_bestRow : Nat → Int32) (b_bestHarms : Int32) (b_bestRage : Int32) (H : Heap) (locs : List Loc) (ls : Array Slot), zf_X8_tryAll_l4_35 v2 v3 b_now b_minds b_fled b_roster b_bestRow b_bestHarms b_bestRage = some res → zWd G A s.heap H locs [xM M b_isKept b_size b_at b_from b_sort b_fled b_flights b_firstFlight b_bestHarms b_bestRage b_harmed b_raged, xI cy ((M 2)) 39 b_now, xI cy ((M 4)) 273 b_minds, xI cy ((M 12)) 40 b_roster, xI cy ((M 13)) 4 b_bestRow] → lv_has ls 6 [(0, .ref ((M 0))), (2, .int v2), (3, .int v3)] → W p l e zr_X8_tryAll_l4 s m args below meth c H locs 0 0 Q (F0 m 35 ls []) := by
    intro v2 v3 b_now b_minds b_fled b_roster b_bestRow b_bestHarms b_bestRage H locs ls hf hw hl
    rw [zf_X8_tryAll_l4_35] at hf
    refine lv_aload_n (pc := 35) hx hb dX8_tryAll_35 rfl (lv_at hl 0 rfl) ?_
    refine lv_iload_n (pc := 36) hx hb dX8_tryAll_36 rfl (lv_at hl 2 rfl) ?_
    refine zk_put (pc := 37) (w' := [xM M b_isKept b_size b_at b_from b_sort b_fled b_flights b_firstFlight v3 b_bestRage b_harmed b_raged, xI cy ((M 2)) 39 b_now, xI cy ((M 4)) 273 b_minds, xI cy ((M 12)) 40 b_roster, xI cy ((M 13)) 4 b_bestRow]) C hw zp_X8_232 0 rfl rfl rfl (Nat.le_of_ble_eq_true rfl) rfl dX8_tryAll_37 (fun H locs hw => ?_)
    refine lv_aload_n (pc := 40) hx hb dX8_tryAll_40 rfl (lv_at hl 0 rfl) ?_
    refine lv_aload_n (pc := 41) hx hb dX8_tryAll_41 rfl (lv_at hl 0 rfl) ?_
    refine zk_gt (pc := 42) C hw zl_X8_17 0 rfl rfl dX8_tryAll_42 ?_
    refine lv_bipush (pc := 45) (v := 33) hx hb dX8_tryAll_45 (by decide) ?_
    refine zk_ialdK (pc := 47) 33 (by decide) C hw 1 rfl (by decide) dX8_tryAll_47 ?_
    refine zk_put (pc := 48) (w' := [xM M b_isKept b_size b_at b_from b_sort b_fled b_flights b_firstFlight v3 ((b_now 33)) b_harmed b_raged, xI cy ((M 2)) 39 b_now, xI cy ((M 4)) 273 b_minds, xI cy ((M 12)) 40 b_roster, xI cy ((M 13)) 4 b_bestRow]) C hw zp_X8_235 0 rfl rfl rfl (Nat.le_of_ble_eq_true rfl) rfl dX8_tryAll_48 (fun H locs hw => ?_)
    refine lv_iconst (pc := 51) (v := 0) hx hb dX8_tryAll_51 (by decide) ?_
    refine lv_istore (pc := 52) (lv' := [(4, .int ((0 : Int32))), (0, .ref ((M 0))), (2, .int v2), (3, .int v3)]) hx hb dX8_tryAll_52 hl (by decide) rfl (fun ls hl => ?_)
    exact J54 FU v2 ((0 : Int32)) b_now b_minds b_fled b_roster b_bestRow v3 ((b_now 33)) _ _ _ hf hw (lv_sub hl [1, 2, 0] rfl)
  have J89 : ∀ (n : Nat), ∀ (v2 : Int32) (v3 : Int32) (v4 : Bool) (b_now : Nat → Int32) (b_minds : Nat → Int32) (b_fled : Bool) (b_roster : Nat → Int32) (b_bestRow : Nat → Int32) (b_bestHarms : Int32) (b_bestRage : Int32) (H : Heap) (locs : List Loc) (ls : Array Slot), zf_X8_tryAll_l4_89 n v2 v3 v4 b_now b_minds b_fled b_roster b_bestRow b_bestHarms b_bestRage = some res → zWd G A s.heap H locs [xM M b_isKept b_size b_at b_from b_sort b_fled b_flights b_firstFlight b_bestHarms b_bestRage b_harmed b_raged, xI cy ((M 2)) 39 b_now, xI cy ((M 4)) 273 b_minds, xI cy ((M 12)) 40 b_roster, xI cy ((M 13)) 4 b_bestRow] → lv_has ls 6 [(0, .ref ((M 0))), (1, .int ((4 : Int32))), (2, .int v2), (3, .int v3), (4, .int (bI v4))] → W p l e zr_X8_tryAll_l4 s m args below meth c H locs 0 0 Q (F0 m 89 ls []) := by
    intro n
    induction n with
    | zero =>
      intro v2 v3 v4 b_now b_minds b_fled b_roster b_bestRow b_bestHarms b_bestRage H locs ls hf hw hl
      rw [zf_X8_tryAll_l4_89] at hf
      cases hf
    | succ n ih =>
      intro v2 v3 v4 b_now b_minds b_fled b_roster b_bestRow b_bestHarms b_bestRage H locs ls hf hw hl
      rw [zf_X8_tryAll_l4_89] at hf
      refine lv_iload (pc := 89) hx hb dX8_tryAll_89 (lv_at hl 4 rfl) ?_
      refine lv_aload_n (pc := 91) hx hb dX8_tryAll_91 rfl (lv_at hl 0 rfl) ?_
      obtain ⟨u9, u9e, hf⟩ := bd hf
      refine zk_cV (pc := 92) (ci := 8) (q0 := 0) (rest := [.int (bI v4)]) (st1 := [.int u9, .int (bI v4)]) (w' := [xM M b_isKept b_size b_at b_from b_sort b_fled b_flights b_firstFlight b_bestHarms b_bestRage b_harmed b_raged, xI cy ((M 2)) 39 b_now, xI cy ((M 4)) 273 b_minds, xI cy ((M 12)) 40 b_roster, xI cy ((M 13)) 4 b_bestRow]) (mk := [none, none, none, none, none]) C hw (c_X8_many l G cy tt M b_isKept b_size b_at b_from b_sort b_fled b_flights b_firstFlight b_bestHarms b_bestRage b_harmed b_raged b_now _ u9e) zy_X8_many zm_X8_80 rfl rfl rfl [0, 1] rfl rfl rfl rfl rfl rfl rfl rfl hl.1 ⟨rfl, rfl⟩ ⟨Nat.le_of_ble_eq_true rfl, Nat.le_of_ble_eq_true rfl⟩ rfl (Nat.le_of_ble_eq_true rfl) ⟨Nat.zero_le _, Nat.zero_le _⟩ dX8_tryAll_92 (fun H locs hw => ?_)
      refine lv_iconst (pc := 95) (v := 2) hx hb dX8_tryAll_95 (by decide) ?_
      refine lv_iadd (pc := 96) hx hb dX8_tryAll_96 ?_
      refine lv_icmp_ge (pc := 97) (tgt := 147) hx hb dX8_tryAll_97 (by decide) (fun q10 => ?_) (fun q10 => ?_)
      · replace hf := if_t q10 hf
        have hf := Option.some.inj hf
        subst hf
        exact zk_retv (pc := 147) (ww := [xM M b_isKept b_size b_at b_from b_sort b_fled b_flights b_firstFlight b_bestHarms b_bestRage b_harmed b_raged, xI cy ((M 2)) 39 b_now, xI cy ((M 4)) 273 b_minds, xI cy ((M 12)) 40 b_roster, xI cy ((M 13)) 4 b_bestRow]) C hw hr hQ dX8_tryAll_147
      · replace hf := if_f q10 hf
        refine lv_aload_n (pc := 100) hx hb dX8_tryAll_100 rfl (lv_at hl 0 rfl) ?_
        refine zk_gt (pc := 101) C hw zl_X8_49 0 rfl rfl dX8_tryAll_101 ?_
        refine lv_iload_n (pc := 104) hx hb dX8_tryAll_104 rfl (lv_at hl 1 rfl) ?_
        refine lv_aload_n (pc := 105) hx hb dX8_tryAll_105 rfl (lv_at hl 0 rfl) ?_
        refine lv_iload (pc := 106) hx hb dX8_tryAll_106 (lv_at hl 4 rfl) ?_
        obtain ⟨u11, u11e, hf⟩ := bd hf
        refine zk_cV (pc := 108) (ci := 8) (q0 := 0) (rest := [.int ((4 : Int32)), .ref ((M 12))]) (st1 := [.int u11, .int ((4 : Int32)), .ref ((M 12))]) (w' := [xM M b_isKept b_size b_at b_from b_sort b_fled b_flights b_firstFlight b_bestHarms b_bestRage b_harmed b_raged, xI cy ((M 2)) 39 b_now, xI cy ((M 4)) 273 b_minds, xI cy ((M 12)) 40 b_roster, xI cy ((M 13)) 4 b_bestRow]) (mk := [none, none, none, none, none]) C hw (c_X8_orderAt l G cy tt M b_isKept b_size b_at b_from b_sort b_fled b_flights b_firstFlight b_bestHarms b_bestRage b_harmed b_raged (((bI v4))) b_now _ u11e) zy_X8_orderAt zm_X8_195 rfl rfl rfl [0, 1] rfl rfl rfl rfl rfl rfl rfl rfl hl.1 ⟨rfl, rfl⟩ ⟨Nat.le_of_ble_eq_true rfl, Nat.le_of_ble_eq_true rfl⟩ rfl (Nat.le_of_ble_eq_true rfl) ⟨Nat.zero_le _, Nat.zero_le _⟩ dX8_tryAll_108 (fun H locs hw => ?_)
        refine zk_iastK (pc := 111) (w' := [xM M b_isKept b_size b_at b_from b_sort b_fled b_flights b_firstFlight b_bestHarms b_bestRage b_harmed b_raged, xI cy ((M 2)) 39 b_now, xI cy ((M 4)) 273 b_minds, xI cy ((M 12)) 40 ((upd b_roster 4 u11)), xI cy ((M 13)) 4 b_bestRow]) 4 (by decide) C hw 3 rfl (by decide) rfl dX8_tryAll_111 (fun H locs hw => ?_)
        refine lv_aload_n (pc := 112) hx hb dX8_tryAll_112 rfl (lv_at hl 0 rfl) ?_
        refine lv_aload_n (pc := 113) hx hb dX8_tryAll_113 rfl (lv_at hl 0 rfl) ?_
        refine zk_gt (pc := 114) C hw zl_X8_49 0 rfl rfl dX8_tryAll_114 ?_
        refine lv_iload_n (pc := 117) hx hb dX8_tryAll_117 rfl (lv_at hl 1 rfl) ?_
        refine zk_ialdK (pc := 118) 4 (by decide) C hw 3 rfl (by decide) dX8_tryAll_118 ?_
        obtain ⟨u12, u12e, hf⟩ := bd hf
        refine zk_cV (pc := 119) (ci := 8) (q0 := 0) (rest := []) (st1 := [.int u12.1]) (w' := [xM M b_isKept b_size b_at b_from b_sort u12.2.2 b_flights b_firstFlight b_bestHarms b_bestRage b_harmed b_raged, xI cy ((M 2)) 39 u12.2.1, xI cy ((M 4)) 273 b_minds, xI cy ((M 12)) 40 ((upd b_roster 4 u11)), xI cy ((M 13)) 4 b_bestRow]) (mk := [some (xM M b_isKept b_size b_at b_from b_sort u12.2.2 b_flights b_firstFlight b_bestHarms b_bestRage b_harmed b_raged), some (xI cy ((M 2)) 39 u12.2.1), none, none, none]) C hw (c_X8_step l G cy tt M b_isKept b_size b_at b_from b_sort b_flights b_firstFlight b_bestHarms b_bestRage b_harmed b_raged (((((upd b_roster 4 u11)) 4))) b_now b_fled _ u12e) zy_X8_step zm_X8_181 rfl rfl rfl [0, 1] rfl rfl rfl rfl rfl rfl rfl rfl hl.1 ⟨rfl, rfl⟩ ⟨Nat.le_of_ble_eq_true rfl, Nat.le_of_ble_eq_true rfl⟩ rfl (Nat.le_of_ble_eq_true rfl) ⟨Nat.zero_le _, Nat.zero_le _⟩ dX8_tryAll_119 (fun H locs hw => ?_)
        refine lv_istore (pc := 122) (lv' := [(5, .int u12.1), (0, .ref ((M 0))), (1, .int ((4 : Int32))), (2, .int v2), (3, .int v3), (4, .int (bI v4))]) hx hb dX8_tryAll_122 hl (by decide) rfl (fun ls hl => ?_)
        refine lv_aload_n (pc := 124) hx hb dX8_tryAll_124 rfl (lv_at hl 1 rfl) ?_
        refine lv_iload_n (pc := 125) hx hb dX8_tryAll_125 rfl (lv_at hl 2 rfl) ?_
        refine lv_iconst (pc := 126) (v := 1) hx hb dX8_tryAll_126 (by decide) ?_
        refine lv_iadd (pc := 127) hx hb dX8_tryAll_127 ?_
        refine zk_eqi (v := 5) (by decide) ?_
        refine lv_iload_n (pc := 128) hx hb dX8_tryAll_128 rfl (lv_at hl 3 rfl) ?_
        refine lv_iload_n (pc := 129) hx hb dX8_tryAll_129 rfl (lv_at hl 4 rfl) ?_
        refine lv_iload (pc := 130) hx hb dX8_tryAll_130 (lv_at hl 0 rfl) ?_
        refine lv_iadd (pc := 132) hx hb dX8_tryAll_132 ?_
        cases hf
  rw [zf_X8_tryAll_l4] at hf
  refine lv_iload_n (pc := 0) hx hb dX8_tryAll_0 rfl (lv_at hl 1 rfl) ?_
  refine lv_iload_n (pc := 1) hx hb dX8_tryAll_1 rfl (lv_at hl 2 rfl) ?_
  refine lv_icmp_ne (pc := 2) (tgt := 81) hx hb dX8_tryAll_2 (by decide) (fun q1 => ?_) (fun q1 => ?_)
  · replace hf := if_f q1 hf
    refine lv_aload_n (pc := 81) hx hb dX8_tryAll_81 rfl (lv_at hl 0 rfl) ?_
    refine lv_iload_n (pc := 82) hx hb dX8_tryAll_82 rfl (lv_at hl 1 rfl) ?_
    obtain ⟨u2, u2e, hf⟩ := bd hf
    refine zk_cV (pc := 83) (ci := 8) (q0 := 0) (rest := []) (st1 := []) (w' := [xM M b_isKept b_size b_at b_from b_sort b_fled b_flights b_firstFlight b_bestHarms b_bestRage b_harmed b_raged, xI cy ((M 2)) 39 b_now, xI cy ((M 4)) 273 u2, xI cy ((M 12)) 40 b_roster, xI cy ((M 13)) 4 b_bestRow]) (mk := [none, none, some (xI cy ((M 4)) 273 u2), none, none]) C hw (c_X8_keep l G cy tt M b_isKept b_size b_at b_from b_sort b_fled b_flights b_firstFlight b_bestHarms b_bestRage b_harmed b_raged (((4 : Int32))) b_now b_minds _ u2e) zy_X8_keep zm_X8_142 rfl rfl rfl [0, 1, 2] rfl rfl rfl rfl rfl rfl rfl rfl hl.1 ⟨rfl, rfl⟩ ⟨Nat.le_of_ble_eq_true rfl, Nat.le_of_ble_eq_true rfl⟩ rfl (Nat.le_of_ble_eq_true rfl) ⟨Nat.zero_le _, Nat.zero_le _⟩ dX8_tryAll_83 (fun H locs hw => ?_)
    refine lv_iconst (pc := 86) (v := 0) hx hb dX8_tryAll_86 (by decide) ?_
    refine lv_istore (pc := 87) (lv' := [(4, .int ((0 : Int32))), (0, .ref ((M 0))), (1, .int ((4 : Int32))), (2, .int x2), (3, .int x3)]) hx hb dX8_tryAll_87 hl (by decide) rfl (fun ls hl => ?_)
    exact J89 FU x2 x3 false b_now u2 b_fled b_roster b_bestRow b_bestHarms b_bestRage _ _ _ hf hw (lv_sub hl [1, 2, 3, 4, 0] rfl)
  · replace hf := if_t q1 hf
    refine lv_iload_n (pc := 5) hx hb dX8_tryAll_5 rfl (lv_at hl 3 rfl) ?_
    refine lv_aload_n (pc := 6) hx hb dX8_tryAll_6 rfl (lv_at hl 0 rfl) ?_
    refine zk_gt (pc := 7) C hw zl_X8_232 0 rfl rfl dX8_tryAll_7 ?_
    refine lv_icmp_lt (pc := 10) (tgt := 35) hx hb dX8_tryAll_10 (by decide) (fun q3 => ?_) (fun q3 => ?_)
    · replace hf := if_t q3 hf
      exact J35 x2 x3 b_now b_minds b_fled b_roster b_bestRow b_bestHarms b_bestRage _ _ _ hf hw (lv_sub hl [0, 2, 3] rfl)
    · replace hf := if_f q3 hf
      refine lv_iload_n (pc := 13) hx hb dX8_tryAll_13 rfl (lv_at hl 3 rfl) ?_
      refine lv_aload_n (pc := 14) hx hb dX8_tryAll_14 rfl (lv_at hl 0 rfl) ?_
      refine zk_gt (pc := 15) C hw zl_X8_232 0 rfl rfl dX8_tryAll_15 ?_
      refine lv_icmp_ne (pc := 18) (tgt := 80) hx hb dX8_tryAll_18 (by decide) (fun q4 => ?_) (fun q4 => ?_)
      · replace hf := if_f q4 hf
        have hf := Option.some.inj hf
        subst hf
        exact zk_retv (pc := 80) (ww := [xM M b_isKept b_size b_at b_from b_sort b_fled b_flights b_firstFlight b_bestHarms b_bestRage b_harmed b_raged, xI cy ((M 2)) 39 b_now, xI cy ((M 4)) 273 b_minds, xI cy ((M 12)) 40 b_roster, xI cy ((M 13)) 4 b_bestRow]) C hw hr hQ dX8_tryAll_80
      · replace hf := if_t q4 hf
        refine lv_aload_n (pc := 21) hx hb dX8_tryAll_21 rfl (lv_at hl 0 rfl) ?_
        refine zk_gt (pc := 22) C hw zl_X8_17 0 rfl rfl dX8_tryAll_22 ?_
        refine lv_bipush (pc := 25) (v := 33) hx hb dX8_tryAll_25 (by decide) ?_
        refine zk_ialdK (pc := 27) 33 (by decide) C hw 1 rfl (by decide) dX8_tryAll_27 ?_
        refine lv_aload_n (pc := 28) hx hb dX8_tryAll_28 rfl (lv_at hl 0 rfl) ?_
        refine zk_gt (pc := 29) C hw zl_X8_235 0 rfl rfl dX8_tryAll_29 ?_
        refine lv_icmp_ge (pc := 32) (tgt := 80) hx hb dX8_tryAll_32 (by decide) (fun q5 => ?_) (fun q5 => ?_)
        · replace hf := if_t q5 hf
          have hf := Option.some.inj hf
          subst hf
          exact zk_retv (pc := 80) (ww := [xM M b_isKept b_size b_at b_from b_sort b_fled b_flights b_firstFlight b_bestHarms b_bestRage b_harmed b_raged, xI cy ((M 2)) 39 b_now, xI cy ((M 4)) 273 b_minds, xI cy ((M 12)) 40 b_roster, xI cy ((M 13)) 4 b_bestRow]) C hw hr hQ dX8_tryAll_80
        · replace hf := if_f q5 hf
          exact J35 x2 x3 b_now b_minds b_fled b_roster b_bestRow b_bestHarms b_bestRage _ _ _ hf hw (lv_sub hl [0, 2, 3] rfl)
def zf_X8_tryAll_l3_54 : Nat → Int32 → Int32 → (Nat → Int32) → (Nat → Int32) → Bool → (Nat → Int32) → (Nat → Int32) → Int32 → Int32 → Option ((Nat → Int32) × (Nat → Int32) × Bool × (Nat → Int32) × (Nat → Int32) × Int32 × Int32)
  | 0, _, _, _, _, _, _, _, _, _ => none
  | n + 1, v2, v4, b_now, b_minds, b_fled, b_roster, b_bestRow, b_bestHarms, b_bestRage => (if v2 ≤ v4 then some (b_now, b_minds, b_fled, b_roster, b_bestRow, b_bestHarms, b_bestRage) else (if ix v4 40 then (if ix v4 4 then zf_X8_tryAll_l3_54 n v2 ((v4 + 1)) b_now b_minds b_fled b_roster ((upd b_bestRow v4.toNatClampNeg ((b_roster v4.toNatClampNeg)))) b_bestHarms b_bestRage else none) else none))
def zf_X8_tryAll_l3_35 (v2 : Int32) (v3 : Int32) (b_now : Nat → Int32) (b_minds : Nat → Int32) (b_fled : Bool) (b_roster : Nat → Int32) (b_bestRow : Nat → Int32) (b_bestHarms : Int32) (b_bestRage : Int32) : Option ((Nat → Int32) × (Nat → Int32) × Bool × (Nat → Int32) × (Nat → Int32) × Int32 × Int32) := zf_X8_tryAll_l3_54 FU v2 ((0 : Int32)) b_now b_minds b_fled b_roster b_bestRow v3 ((b_now 33))
def zf_X8_tryAll_l3_89 : Nat → Int32 → Int32 → Int32 → (Nat → Int32) → (Nat → Int32) → Bool → (Nat → Int32) → (Nat → Int32) → Int32 → Int32 → Option ((Nat → Int32) × (Nat → Int32) × Bool × (Nat → Int32) × (Nat → Int32) × Int32 × Int32)
  | 0, _, _, _, _, _, _, _, _, _, _ => none
  | n + 1, v2, v3, v4, b_now, b_minds, b_fled, b_roster, b_bestRow, b_bestHarms, b_bestRage => (Option.bind (zf_X8_many b_now) (fun u9 => (if (u9 + (2 : Int32)) ≤ v4 then some (b_now, b_minds, b_fled, b_roster, b_bestRow, b_bestHarms, b_bestRage) else (Option.bind (zf_X8_orderAt v4 b_now) (fun u11 => (Option.bind (zf_X8_step (((((upd b_roster 3 u11)) 3))) b_now b_fled) (fun u12 => (Option.bind (zf_X8_tryAll_l4 v2 (((v3 + u12.1))) u12.2.1 b_minds u12.2.2 ((upd b_roster 3 u11)) b_bestRow b_bestHarms b_bestRage) (fun u13 => (Option.bind (zf_X8_lay (((3 : Int32))) u13.1 u13.2.1) (fun u14 => zf_X8_tryAll_l3_89 n v2 v3 ((v4 + 1)) u14 u13.2.1 u13.2.2.1 u13.2.2.2.1 u13.2.2.2.2.1 u13.2.2.2.2.2.1 u13.2.2.2.2.2.2)))))))))))
def zf_X8_tryAll_l3 (x2 : Int32) (x3 : Int32) (b_now : Nat → Int32) (b_minds : Nat → Int32) (b_fled : Bool) (b_roster : Nat → Int32) (b_bestRow : Nat → Int32) (b_bestHarms : Int32) (b_bestRage : Int32) : Option ((Nat → Int32) × (Nat → Int32) × Bool × (Nat → Int32) × (Nat → Int32) × Int32 × Int32) := (if (3 : Int32) = x2 then (if x3 < b_bestHarms then zf_X8_tryAll_l3_35 x2 x3 b_now b_minds b_fled b_roster b_bestRow b_bestHarms b_bestRage else (if x3 = b_bestHarms then (if b_bestRage ≤ (b_now 33) then some (b_now, b_minds, b_fled, b_roster, b_bestRow, b_bestHarms, b_bestRage) else zf_X8_tryAll_l3_35 x2 x3 b_now b_minds b_fled b_roster b_bestRow b_bestHarms b_bestRage) else some (b_now, b_minds, b_fled, b_roster, b_bestRow, b_bestHarms, b_bestRage))) else (Option.bind (zf_X8_keep (((3 : Int32))) b_now b_minds) (fun u2 => zf_X8_tryAll_l3_89 FU x2 x3 ((0 : Int32)) b_now u2 b_fled b_roster b_bestRow b_bestHarms b_bestRage)))
abbrev zr_X8_tryAll_l3 : Room := { frames := 4, cells := 0, slots := 0, locals := 90 }
set_option maxHeartbeats 4000000 in
set_option maxRecDepth 100000 in
theorem c_X8_tryAll_l3 (l : Launch) (G : va_G) (cy : Nat → ClassId) (tt : Nat → Nat) (M : Nat → Nat) (b_isKept : Bool) (b_size : Int32) (b_at : Int32) (b_from : Int32) (b_sort : Int32) (b_flights : Int32) (b_firstFlight : Int32) (b_harmed : Int64) (b_raged : Int64) (x2 : Int32) (x3 : Int32) (b_now : Nat → Int32) (b_minds : Nat → Int32) (b_fled : Bool) (b_roster : Nat → Int32) (b_bestRow : Nat → Int32) (b_bestHarms : Int32) (b_bestRage : Int32) (res : (Nat → Int32) × (Nat → Int32) × Bool × (Nat → Int32) × (Nat → Int32) × Int32 × Int32) (hf : zf_X8_tryAll_l3 x2 x3 b_now b_minds b_fled b_roster b_bestRow b_bestHarms b_bestRage = some res) : zCT l yX8_tryAll cX8_tryAll 6 none zr_X8_tryAll_l3 G cy tt [.ref ((M 0)), .int ((3 : Int32)), .int x2, .int x3] [xM M b_isKept b_size b_at b_from b_sort b_fled b_flights b_firstFlight b_bestHarms b_bestRage b_harmed b_raged, xI cy ((M 2)) 39 b_now, xI cy ((M 4)) 273 b_minds, xI cy ((M 12)) 40 b_roster, xI cy ((M 13)) 4 b_bestRow] none [xM M b_isKept b_size b_at b_from b_sort res.2.2.1 b_flights b_firstFlight res.2.2.2.2.2.1 res.2.2.2.2.2.2 b_harmed b_raged, xI cy ((M 2)) 39 res.1, xI cy ((M 4)) 273 res.2.1, xI cy ((M 12)) 40 res.2.2.2.1, xI cy ((M 13)) 4 res.2.2.2.2.1] := by
  refine zk_start zn_X8 (Nat.le_of_ble_eq_true rfl) ?_
  intro p e s m args below meth c A ls Q C hr hQ hw hl
  have C : zCx p m c s args meth cX8_tryAll 6 RX8 G cy tt A := C
  have hx := C.1.1
  have hb := C.1.2.1
  have hl : lv_has ls 6 [(0, .ref ((M 0))), (1, .int ((3 : Int32))), (2, .int x2), (3, .int x3)] := hl
  have J54 : ∀ (n : Nat), ∀ (v2 : Int32) (v4 : Int32) (b_now : Nat → Int32) (b_minds : Nat → Int32) (b_fled : Bool) (b_roster : Nat → Int32) (b_bestRow : Nat → Int32) (b_bestHarms : Int32) (b_bestRage : Int32) (H : Heap) (locs : List Loc) (ls : Array Slot), zf_X8_tryAll_l3_54 n v2 v4 b_now b_minds b_fled b_roster b_bestRow b_bestHarms b_bestRage = some res → zWd G A s.heap H locs [xM M b_isKept b_size b_at b_from b_sort b_fled b_flights b_firstFlight b_bestHarms b_bestRage b_harmed b_raged, xI cy ((M 2)) 39 b_now, xI cy ((M 4)) 273 b_minds, xI cy ((M 12)) 40 b_roster, xI cy ((M 13)) 4 b_bestRow] → lv_has ls 6 [(0, .ref ((M 0))), (2, .int v2), (4, .int v4)] → W p l e zr_X8_tryAll_l3 s m args below meth c H locs 0 0 Q (F0 m 54 ls []) := by
    intro n
    induction n with
    | zero =>
      intro v2 v4 b_now b_minds b_fled b_roster b_bestRow b_bestHarms b_bestRage H locs ls hf hw hl
      rw [zf_X8_tryAll_l3_54] at hf
      cases hf
    | succ n ih =>
      intro v2 v4 b_now b_minds b_fled b_roster b_bestRow b_bestHarms b_bestRage H locs ls hf hw hl
      rw [zf_X8_tryAll_l3_54] at hf
      refine lv_iload (pc := 54) hx hb dX8_tryAll_54 (lv_at hl 2 rfl) ?_
      refine lv_iload_n (pc := 56) hx hb dX8_tryAll_56 rfl (lv_at hl 1 rfl) ?_
      refine lv_icmp_ge (pc := 57) (tgt := 80) hx hb dX8_tryAll_57 (by decide) (fun q6 => ?_) (fun q6 => ?_)
      · replace hf := if_t q6 hf
        have hf := Option.some.inj hf
        subst hf
        exact zk_retv (pc := 80) (ww := [xM M b_isKept b_size b_at b_from b_sort b_fled b_flights b_firstFlight b_bestHarms b_bestRage b_harmed b_raged, xI cy ((M 2)) 39 b_now, xI cy ((M 4)) 273 b_minds, xI cy ((M 12)) 40 b_roster, xI cy ((M 13)) 4 b_bestRow]) C hw hr hQ dX8_tryAll_80
      · replace hf := if_f q6 hf
        refine lv_aload_n (pc := 60) hx hb dX8_tryAll_60 rfl (lv_at hl 0 rfl) ?_
        refine zk_gt (pc := 61) C hw zl_X8_52 0 rfl rfl dX8_tryAll_61 ?_
        refine lv_iload (pc := 64) hx hb dX8_tryAll_64 (lv_at hl 2 rfl) ?_
        refine lv_aload_n (pc := 66) hx hb dX8_tryAll_66 rfl (lv_at hl 0 rfl) ?_
        refine zk_gt (pc := 67) C hw zl_X8_49 0 rfl rfl dX8_tryAll_67 ?_
        refine lv_iload (pc := 70) hx hb dX8_tryAll_70 (lv_at hl 2 rfl) ?_
        obtain ⟨q7, hf⟩ := ck hf
        refine zk_iald (pc := 72) C hw 3 rfl q7 dX8_tryAll_72 ?_
        obtain ⟨q8, hf⟩ := ck hf
        refine zk_iast (pc := 73) (w' := [xM M b_isKept b_size b_at b_from b_sort b_fled b_flights b_firstFlight b_bestHarms b_bestRage b_harmed b_raged, xI cy ((M 2)) 39 b_now, xI cy ((M 4)) 273 b_minds, xI cy ((M 12)) 40 b_roster, xI cy ((M 13)) 4 ((upd b_bestRow v4.toNatClampNeg ((b_roster v4.toNatClampNeg))))]) C hw 4 rfl q8 rfl dX8_tryAll_73 (fun H locs hw => ?_)
        refine lv_iinc (pc := 74) (v := (v4 + 1)) (lv' := [(4, .int ((v4 + 1))), (0, .ref ((M 0))), (2, .int v2)]) hx hb dX8_tryAll_74 hl (k := 2) rfl rfl (by decide) rfl (fun ls hl => ?_)
        refine lv_goto (pc := 77) (tgt := 54) hx hb dX8_tryAll_77 (by decide) ?_
        exact ih v2 ((v4 + 1)) b_now b_minds b_fled b_roster ((upd b_bestRow v4.toNatClampNeg ((b_roster v4.toNatClampNeg)))) b_bestHarms b_bestRage _ _ _ hf hw (lv_sub hl [1, 2, 0] rfl)
  have J35 : ∀ (v2 : Int32) (v3 : Int32) (b_now : Nat → Int32) (b_minds : Nat → Int32) (b_fled : Bool) (b_roster : Nat → Int32) (b_bestRow : Nat → Int32) (b_bestHarms : Int32) (b_bestRage : Int32) (H : Heap) (locs : List Loc) (ls : Array Slot), zf_X8_tryAll_l3_35 v2 v3 b_now b_minds b_fled b_roster b_bestRow b_bestHarms b_bestRage = some res → zWd G A s.heap H locs [xM M b_isKept b_size b_at b_from b_sort b_fled b_flights b_firstFlight b_bestHarms b_bestRage b_harmed b_raged, xI cy ((M 2)) 39 b_now, xI cy ((M 4)) 273 b_minds, xI cy ((M 12)) 40 b_roster, xI cy ((M 13)) 4 b_bestRow] → lv_has ls 6 [(0, .ref ((M 0))), (2, .int v2), (3, .int v3)] → W p l e zr_X8_tryAll_l3 s m args below meth c H locs 0 0 Q (F0 m 35 ls []) := by
    intro v2 v3 b_now b_minds b_fled b_roster b_bestRow b_bestHarms b_bestRage H locs ls hf hw hl
    rw [zf_X8_tryAll_l3_35] at hf
    refine lv_aload_n (pc := 35) hx hb dX8_tryAll_35 rfl (lv_at hl 0 rfl) ?_
    refine lv_iload_n (pc := 36) hx hb dX8_tryAll_36 rfl (lv_at hl 2 rfl) ?_
    refine zk_put (pc := 37) (w' := [xM M b_isKept b_size b_at b_from b_sort b_fled b_flights b_firstFlight v3 b_bestRage b_harmed b_raged, xI cy ((M 2)) 39 b_now, xI cy ((M 4)) 273 b_minds, xI cy ((M 12)) 40 b_roster, xI cy ((M 13)) 4 b_bestRow]) C hw zp_X8_232 0 rfl rfl rfl (Nat.le_of_ble_eq_true rfl) rfl dX8_tryAll_37 (fun H locs hw => ?_)
    refine lv_aload_n (pc := 40) hx hb dX8_tryAll_40 rfl (lv_at hl 0 rfl) ?_
    refine lv_aload_n (pc := 41) hx hb dX8_tryAll_41 rfl (lv_at hl 0 rfl) ?_
    refine zk_gt (pc := 42) C hw zl_X8_17 0 rfl rfl dX8_tryAll_42 ?_
    refine lv_bipush (pc := 45) (v := 33) hx hb dX8_tryAll_45 (by decide) ?_
    refine zk_ialdK (pc := 47) 33 (by decide) C hw 1 rfl (by decide) dX8_tryAll_47 ?_
    refine zk_put (pc := 48) (w' := [xM M b_isKept b_size b_at b_from b_sort b_fled b_flights b_firstFlight v3 ((b_now 33)) b_harmed b_raged, xI cy ((M 2)) 39 b_now, xI cy ((M 4)) 273 b_minds, xI cy ((M 12)) 40 b_roster, xI cy ((M 13)) 4 b_bestRow]) C hw zp_X8_235 0 rfl rfl rfl (Nat.le_of_ble_eq_true rfl) rfl dX8_tryAll_48 (fun H locs hw => ?_)
    refine lv_iconst (pc := 51) (v := 0) hx hb dX8_tryAll_51 (by decide) ?_
    refine lv_istore (pc := 52) (lv' := [(4, .int ((0 : Int32))), (0, .ref ((M 0))), (2, .int v2), (3, .int v3)]) hx hb dX8_tryAll_52 hl (by decide) rfl (fun ls hl => ?_)
    exact J54 FU v2 ((0 : Int32)) b_now b_minds b_fled b_roster b_bestRow v3 ((b_now 33)) _ _ _ hf hw (lv_sub hl [1, 2, 0] rfl)
  have J89 : ∀ (n : Nat), ∀ (v2 : Int32) (v3 : Int32) (v4 : Int32) (b_now : Nat → Int32) (b_minds : Nat → Int32) (b_fled : Bool) (b_roster : Nat → Int32) (b_bestRow : Nat → Int32) (b_bestHarms : Int32) (b_bestRage : Int32) (H : Heap) (locs : List Loc) (ls : Array Slot), zf_X8_tryAll_l3_89 n v2 v3 v4 b_now b_minds b_fled b_roster b_bestRow b_bestHarms b_bestRage = some res → zWd G A s.heap H locs [xM M b_isKept b_size b_at b_from b_sort b_fled b_flights b_firstFlight b_bestHarms b_bestRage b_harmed b_raged, xI cy ((M 2)) 39 b_now, xI cy ((M 4)) 273 b_minds, xI cy ((M 12)) 40 b_roster, xI cy ((M 13)) 4 b_bestRow] → lv_has ls 6 [(0, .ref ((M 0))), (1, .int ((3 : Int32))), (2, .int v2), (3, .int v3), (4, .int v4)] → W p l e zr_X8_tryAll_l3 s m args below meth c H locs 0 0 Q (F0 m 89 ls []) := by
    intro n
    induction n with
    | zero =>
      intro v2 v3 v4 b_now b_minds b_fled b_roster b_bestRow b_bestHarms b_bestRage H locs ls hf hw hl
      rw [zf_X8_tryAll_l3_89] at hf
      cases hf
    | succ n ih =>
      intro v2 v3 v4 b_now b_minds b_fled b_roster b_bestRow b_bestHarms b_bestRage H locs ls hf hw hl
      rw [zf_X8_tryAll_l3_89] at hf
      refine lv_iload (pc := 89) hx hb dX8_tryAll_89 (lv_at hl 4 rfl) ?_
      refine lv_aload_n (pc := 91) hx hb dX8_tryAll_91 rfl (lv_at hl 0 rfl) ?_
      obtain ⟨u9, u9e, hf⟩ := bd hf
      refine zk_cV (pc := 92) (ci := 8) (q0 := 0) (rest := [.int v4]) (st1 := [.int u9, .int v4]) (w' := [xM M b_isKept b_size b_at b_from b_sort b_fled b_flights b_firstFlight b_bestHarms b_bestRage b_harmed b_raged, xI cy ((M 2)) 39 b_now, xI cy ((M 4)) 273 b_minds, xI cy ((M 12)) 40 b_roster, xI cy ((M 13)) 4 b_bestRow]) (mk := [none, none, none, none, none]) C hw (c_X8_many l G cy tt M b_isKept b_size b_at b_from b_sort b_fled b_flights b_firstFlight b_bestHarms b_bestRage b_harmed b_raged b_now _ u9e) zy_X8_many zm_X8_80 rfl rfl rfl [0, 1] rfl rfl rfl rfl rfl rfl rfl rfl hl.1 ⟨rfl, rfl⟩ ⟨Nat.le_of_ble_eq_true rfl, Nat.le_of_ble_eq_true rfl⟩ rfl (Nat.le_of_ble_eq_true rfl) ⟨Nat.zero_le _, Nat.zero_le _⟩ dX8_tryAll_92 (fun H locs hw => ?_)
      refine lv_iconst (pc := 95) (v := 2) hx hb dX8_tryAll_95 (by decide) ?_
      refine lv_iadd (pc := 96) hx hb dX8_tryAll_96 ?_
      refine lv_icmp_ge (pc := 97) (tgt := 147) hx hb dX8_tryAll_97 (by decide) (fun q10 => ?_) (fun q10 => ?_)
      · replace hf := if_t q10 hf
        have hf := Option.some.inj hf
        subst hf
        exact zk_retv (pc := 147) (ww := [xM M b_isKept b_size b_at b_from b_sort b_fled b_flights b_firstFlight b_bestHarms b_bestRage b_harmed b_raged, xI cy ((M 2)) 39 b_now, xI cy ((M 4)) 273 b_minds, xI cy ((M 12)) 40 b_roster, xI cy ((M 13)) 4 b_bestRow]) C hw hr hQ dX8_tryAll_147
      · replace hf := if_f q10 hf
        refine lv_aload_n (pc := 100) hx hb dX8_tryAll_100 rfl (lv_at hl 0 rfl) ?_
        refine zk_gt (pc := 101) C hw zl_X8_49 0 rfl rfl dX8_tryAll_101 ?_
        refine lv_iload_n (pc := 104) hx hb dX8_tryAll_104 rfl (lv_at hl 1 rfl) ?_
        refine lv_aload_n (pc := 105) hx hb dX8_tryAll_105 rfl (lv_at hl 0 rfl) ?_
        refine lv_iload (pc := 106) hx hb dX8_tryAll_106 (lv_at hl 4 rfl) ?_
        obtain ⟨u11, u11e, hf⟩ := bd hf
        refine zk_cV (pc := 108) (ci := 8) (q0 := 0) (rest := [.int ((3 : Int32)), .ref ((M 12))]) (st1 := [.int u11, .int ((3 : Int32)), .ref ((M 12))]) (w' := [xM M b_isKept b_size b_at b_from b_sort b_fled b_flights b_firstFlight b_bestHarms b_bestRage b_harmed b_raged, xI cy ((M 2)) 39 b_now, xI cy ((M 4)) 273 b_minds, xI cy ((M 12)) 40 b_roster, xI cy ((M 13)) 4 b_bestRow]) (mk := [none, none, none, none, none]) C hw (c_X8_orderAt l G cy tt M b_isKept b_size b_at b_from b_sort b_fled b_flights b_firstFlight b_bestHarms b_bestRage b_harmed b_raged v4 b_now _ u11e) zy_X8_orderAt zm_X8_195 rfl rfl rfl [0, 1] rfl rfl rfl rfl rfl rfl rfl rfl hl.1 ⟨rfl, rfl⟩ ⟨Nat.le_of_ble_eq_true rfl, Nat.le_of_ble_eq_true rfl⟩ rfl (Nat.le_of_ble_eq_true rfl) ⟨Nat.zero_le _, Nat.zero_le _⟩ dX8_tryAll_108 (fun H locs hw => ?_)
        refine zk_iastK (pc := 111) (w' := [xM M b_isKept b_size b_at b_from b_sort b_fled b_flights b_firstFlight b_bestHarms b_bestRage b_harmed b_raged, xI cy ((M 2)) 39 b_now, xI cy ((M 4)) 273 b_minds, xI cy ((M 12)) 40 ((upd b_roster 3 u11)), xI cy ((M 13)) 4 b_bestRow]) 3 (by decide) C hw 3 rfl (by decide) rfl dX8_tryAll_111 (fun H locs hw => ?_)
        refine lv_aload_n (pc := 112) hx hb dX8_tryAll_112 rfl (lv_at hl 0 rfl) ?_
        refine lv_aload_n (pc := 113) hx hb dX8_tryAll_113 rfl (lv_at hl 0 rfl) ?_
        refine zk_gt (pc := 114) C hw zl_X8_49 0 rfl rfl dX8_tryAll_114 ?_
        refine lv_iload_n (pc := 117) hx hb dX8_tryAll_117 rfl (lv_at hl 1 rfl) ?_
        refine zk_ialdK (pc := 118) 3 (by decide) C hw 3 rfl (by decide) dX8_tryAll_118 ?_
        obtain ⟨u12, u12e, hf⟩ := bd hf
        refine zk_cV (pc := 119) (ci := 8) (q0 := 0) (rest := []) (st1 := [.int u12.1]) (w' := [xM M b_isKept b_size b_at b_from b_sort u12.2.2 b_flights b_firstFlight b_bestHarms b_bestRage b_harmed b_raged, xI cy ((M 2)) 39 u12.2.1, xI cy ((M 4)) 273 b_minds, xI cy ((M 12)) 40 ((upd b_roster 3 u11)), xI cy ((M 13)) 4 b_bestRow]) (mk := [some (xM M b_isKept b_size b_at b_from b_sort u12.2.2 b_flights b_firstFlight b_bestHarms b_bestRage b_harmed b_raged), some (xI cy ((M 2)) 39 u12.2.1), none, none, none]) C hw (c_X8_step l G cy tt M b_isKept b_size b_at b_from b_sort b_flights b_firstFlight b_bestHarms b_bestRage b_harmed b_raged (((((upd b_roster 3 u11)) 3))) b_now b_fled _ u12e) zy_X8_step zm_X8_181 rfl rfl rfl [0, 1] rfl rfl rfl rfl rfl rfl rfl rfl hl.1 ⟨rfl, rfl⟩ ⟨Nat.le_of_ble_eq_true rfl, Nat.le_of_ble_eq_true rfl⟩ rfl (Nat.le_of_ble_eq_true rfl) ⟨Nat.zero_le _, Nat.zero_le _⟩ dX8_tryAll_119 (fun H locs hw => ?_)
        refine lv_istore (pc := 122) (lv' := [(5, .int u12.1), (0, .ref ((M 0))), (1, .int ((3 : Int32))), (2, .int v2), (3, .int v3), (4, .int v4)]) hx hb dX8_tryAll_122 hl (by decide) rfl (fun ls hl => ?_)
        refine lv_aload_n (pc := 124) hx hb dX8_tryAll_124 rfl (lv_at hl 1 rfl) ?_
        refine lv_iload_n (pc := 125) hx hb dX8_tryAll_125 rfl (lv_at hl 2 rfl) ?_
        refine lv_iconst (pc := 126) (v := 1) hx hb dX8_tryAll_126 (by decide) ?_
        refine lv_iadd (pc := 127) hx hb dX8_tryAll_127 ?_
        refine zk_eqi (v := 4) (by decide) ?_
        refine lv_iload_n (pc := 128) hx hb dX8_tryAll_128 rfl (lv_at hl 3 rfl) ?_
        refine lv_iload_n (pc := 129) hx hb dX8_tryAll_129 rfl (lv_at hl 4 rfl) ?_
        refine lv_iload (pc := 130) hx hb dX8_tryAll_130 (lv_at hl 0 rfl) ?_
        refine lv_iadd (pc := 132) hx hb dX8_tryAll_132 ?_
        obtain ⟨u13, u13e, hf⟩ := bd hf
        refine zk_cV (pc := 133) (ci := 8) (q0 := 0) (rest := []) (st1 := []) (w' := [xM M b_isKept b_size b_at b_from b_sort u13.2.2.1 b_flights b_firstFlight u13.2.2.2.2.2.1 u13.2.2.2.2.2.2 b_harmed b_raged, xI cy ((M 2)) 39 u13.1, xI cy ((M 4)) 273 u13.2.1, xI cy ((M 12)) 40 u13.2.2.2.1, xI cy ((M 13)) 4 u13.2.2.2.2.1]) (mk := [some (xM M b_isKept b_size b_at b_from b_sort u13.2.2.1 b_flights b_firstFlight u13.2.2.2.2.2.1 u13.2.2.2.2.2.2 b_harmed b_raged), some (xI cy ((M 2)) 39 u13.1), some (xI cy ((M 4)) 273 u13.2.1), some (xI cy ((M 12)) 40 u13.2.2.2.1), some (xI cy ((M 13)) 4 u13.2.2.2.2.1)]) C hw (c_X8_tryAll_l4 l G cy tt M b_isKept b_size b_at b_from b_sort b_flights b_firstFlight b_harmed b_raged v2 (((v3 + u12.1))) u12.2.1 b_minds u12.2.2 ((upd b_roster 3 u11)) b_bestRow b_bestHarms b_bestRage _ u13e) zy_X8_tryAll zm_X8_238 rfl rfl rfl [0, 1, 2, 3, 4] rfl rfl rfl rfl rfl rfl rfl rfl hl.1 ⟨rfl, rfl⟩ ⟨Nat.le_of_ble_eq_true rfl, Nat.le_of_ble_eq_true rfl⟩ rfl (Nat.le_of_ble_eq_true rfl) ⟨Nat.zero_le _, Nat.zero_le _⟩ dX8_tryAll_133 (fun H locs hw => ?_)
        refine lv_aload_n (pc := 136) hx hb dX8_tryAll_136 rfl (lv_at hl 1 rfl) ?_
        refine lv_iload_n (pc := 137) hx hb dX8_tryAll_137 rfl (lv_at hl 2 rfl) ?_
        obtain ⟨u14, u14e, hf⟩ := bd hf
        refine zk_cV (pc := 138) (ci := 8) (q0 := 0) (rest := []) (st1 := []) (w' := [xM M b_isKept b_size b_at b_from b_sort u13.2.2.1 b_flights b_firstFlight u13.2.2.2.2.2.1 u13.2.2.2.2.2.2 b_harmed b_raged, xI cy ((M 2)) 39 u14, xI cy ((M 4)) 273 u13.2.1, xI cy ((M 12)) 40 u13.2.2.2.1, xI cy ((M 13)) 4 u13.2.2.2.2.1]) (mk := [none, some (xI cy ((M 2)) 39 u14), none, none, none]) C hw (c_X8_lay l G cy tt M b_isKept b_size b_at b_from b_sort u13.2.2.1 b_flights b_firstFlight u13.2.2.2.2.2.1 u13.2.2.2.2.2.2 b_harmed b_raged (((3 : Int32))) u13.1 u13.2.1 _ u14e) zy_X8_lay zm_X8_150 rfl rfl rfl [0, 1, 2] rfl rfl rfl rfl rfl rfl rfl rfl hl.1 ⟨rfl, rfl⟩ ⟨Nat.le_of_ble_eq_true rfl, Nat.le_of_ble_eq_true rfl⟩ rfl (Nat.le_of_ble_eq_true rfl) ⟨Nat.zero_le _, Nat.zero_le _⟩ dX8_tryAll_138 (fun H locs hw => ?_)
        refine lv_iinc (pc := 141) (v := (v4 + 1)) (lv' := [(4, .int ((v4 + 1))), (5, .int u12.1), (0, .ref ((M 0))), (1, .int ((3 : Int32))), (2, .int v2), (3, .int v3)]) hx hb dX8_tryAll_141 hl (k := 5) rfl rfl (by decide) rfl (fun ls hl => ?_)
        refine lv_goto (pc := 144) (tgt := 89) hx hb dX8_tryAll_144 (by decide) ?_
        exact ih v2 v3 ((v4 + 1)) u14 u13.2.1 u13.2.2.1 u13.2.2.2.1 u13.2.2.2.2.1 u13.2.2.2.2.2.1 u13.2.2.2.2.2.2 _ _ _ hf hw (lv_sub hl [2, 3, 4, 5, 0] rfl)
  rw [zf_X8_tryAll_l3] at hf
  refine lv_iload_n (pc := 0) hx hb dX8_tryAll_0 rfl (lv_at hl 1 rfl) ?_
  refine lv_iload_n (pc := 1) hx hb dX8_tryAll_1 rfl (lv_at hl 2 rfl) ?_
  refine lv_icmp_ne (pc := 2) (tgt := 81) hx hb dX8_tryAll_2 (by decide) (fun q1 => ?_) (fun q1 => ?_)
  · replace hf := if_f q1 hf
    refine lv_aload_n (pc := 81) hx hb dX8_tryAll_81 rfl (lv_at hl 0 rfl) ?_
    refine lv_iload_n (pc := 82) hx hb dX8_tryAll_82 rfl (lv_at hl 1 rfl) ?_
    obtain ⟨u2, u2e, hf⟩ := bd hf
    refine zk_cV (pc := 83) (ci := 8) (q0 := 0) (rest := []) (st1 := []) (w' := [xM M b_isKept b_size b_at b_from b_sort b_fled b_flights b_firstFlight b_bestHarms b_bestRage b_harmed b_raged, xI cy ((M 2)) 39 b_now, xI cy ((M 4)) 273 u2, xI cy ((M 12)) 40 b_roster, xI cy ((M 13)) 4 b_bestRow]) (mk := [none, none, some (xI cy ((M 4)) 273 u2), none, none]) C hw (c_X8_keep l G cy tt M b_isKept b_size b_at b_from b_sort b_fled b_flights b_firstFlight b_bestHarms b_bestRage b_harmed b_raged (((3 : Int32))) b_now b_minds _ u2e) zy_X8_keep zm_X8_142 rfl rfl rfl [0, 1, 2] rfl rfl rfl rfl rfl rfl rfl rfl hl.1 ⟨rfl, rfl⟩ ⟨Nat.le_of_ble_eq_true rfl, Nat.le_of_ble_eq_true rfl⟩ rfl (Nat.le_of_ble_eq_true rfl) ⟨Nat.zero_le _, Nat.zero_le _⟩ dX8_tryAll_83 (fun H locs hw => ?_)
    refine lv_iconst (pc := 86) (v := 0) hx hb dX8_tryAll_86 (by decide) ?_
    refine lv_istore (pc := 87) (lv' := [(4, .int ((0 : Int32))), (0, .ref ((M 0))), (1, .int ((3 : Int32))), (2, .int x2), (3, .int x3)]) hx hb dX8_tryAll_87 hl (by decide) rfl (fun ls hl => ?_)
    exact J89 FU x2 x3 ((0 : Int32)) b_now u2 b_fled b_roster b_bestRow b_bestHarms b_bestRage _ _ _ hf hw (lv_sub hl [1, 2, 3, 4, 0] rfl)
  · replace hf := if_t q1 hf
    refine lv_iload_n (pc := 5) hx hb dX8_tryAll_5 rfl (lv_at hl 3 rfl) ?_
    refine lv_aload_n (pc := 6) hx hb dX8_tryAll_6 rfl (lv_at hl 0 rfl) ?_
    refine zk_gt (pc := 7) C hw zl_X8_232 0 rfl rfl dX8_tryAll_7 ?_
    refine lv_icmp_lt (pc := 10) (tgt := 35) hx hb dX8_tryAll_10 (by decide) (fun q3 => ?_) (fun q3 => ?_)
    · replace hf := if_t q3 hf
      exact J35 x2 x3 b_now b_minds b_fled b_roster b_bestRow b_bestHarms b_bestRage _ _ _ hf hw (lv_sub hl [0, 2, 3] rfl)
    · replace hf := if_f q3 hf
      refine lv_iload_n (pc := 13) hx hb dX8_tryAll_13 rfl (lv_at hl 3 rfl) ?_
      refine lv_aload_n (pc := 14) hx hb dX8_tryAll_14 rfl (lv_at hl 0 rfl) ?_
      refine zk_gt (pc := 15) C hw zl_X8_232 0 rfl rfl dX8_tryAll_15 ?_
      refine lv_icmp_ne (pc := 18) (tgt := 80) hx hb dX8_tryAll_18 (by decide) (fun q4 => ?_) (fun q4 => ?_)
      · replace hf := if_f q4 hf
        have hf := Option.some.inj hf
        subst hf
        exact zk_retv (pc := 80) (ww := [xM M b_isKept b_size b_at b_from b_sort b_fled b_flights b_firstFlight b_bestHarms b_bestRage b_harmed b_raged, xI cy ((M 2)) 39 b_now, xI cy ((M 4)) 273 b_minds, xI cy ((M 12)) 40 b_roster, xI cy ((M 13)) 4 b_bestRow]) C hw hr hQ dX8_tryAll_80
      · replace hf := if_t q4 hf
        refine lv_aload_n (pc := 21) hx hb dX8_tryAll_21 rfl (lv_at hl 0 rfl) ?_
        refine zk_gt (pc := 22) C hw zl_X8_17 0 rfl rfl dX8_tryAll_22 ?_
        refine lv_bipush (pc := 25) (v := 33) hx hb dX8_tryAll_25 (by decide) ?_
        refine zk_ialdK (pc := 27) 33 (by decide) C hw 1 rfl (by decide) dX8_tryAll_27 ?_
        refine lv_aload_n (pc := 28) hx hb dX8_tryAll_28 rfl (lv_at hl 0 rfl) ?_
        refine zk_gt (pc := 29) C hw zl_X8_235 0 rfl rfl dX8_tryAll_29 ?_
        refine lv_icmp_ge (pc := 32) (tgt := 80) hx hb dX8_tryAll_32 (by decide) (fun q5 => ?_) (fun q5 => ?_)
        · replace hf := if_t q5 hf
          have hf := Option.some.inj hf
          subst hf
          exact zk_retv (pc := 80) (ww := [xM M b_isKept b_size b_at b_from b_sort b_fled b_flights b_firstFlight b_bestHarms b_bestRage b_harmed b_raged, xI cy ((M 2)) 39 b_now, xI cy ((M 4)) 273 b_minds, xI cy ((M 12)) 40 b_roster, xI cy ((M 13)) 4 b_bestRow]) C hw hr hQ dX8_tryAll_80
        · replace hf := if_f q5 hf
          exact J35 x2 x3 b_now b_minds b_fled b_roster b_bestRow b_bestHarms b_bestRage _ _ _ hf hw (lv_sub hl [0, 2, 3] rfl)
def zf_X8_tryAll_l2_54 : Nat → Int32 → Int32 → (Nat → Int32) → (Nat → Int32) → Bool → (Nat → Int32) → (Nat → Int32) → Int32 → Int32 → Option ((Nat → Int32) × (Nat → Int32) × Bool × (Nat → Int32) × (Nat → Int32) × Int32 × Int32)
  | 0, _, _, _, _, _, _, _, _, _ => none
  | n + 1, v2, v4, b_now, b_minds, b_fled, b_roster, b_bestRow, b_bestHarms, b_bestRage => (if v2 ≤ v4 then some (b_now, b_minds, b_fled, b_roster, b_bestRow, b_bestHarms, b_bestRage) else (if ix v4 40 then (if ix v4 4 then zf_X8_tryAll_l2_54 n v2 ((v4 + 1)) b_now b_minds b_fled b_roster ((upd b_bestRow v4.toNatClampNeg ((b_roster v4.toNatClampNeg)))) b_bestHarms b_bestRage else none) else none))
def zf_X8_tryAll_l2_35 (v2 : Int32) (v3 : Int32) (b_now : Nat → Int32) (b_minds : Nat → Int32) (b_fled : Bool) (b_roster : Nat → Int32) (b_bestRow : Nat → Int32) (b_bestHarms : Int32) (b_bestRage : Int32) : Option ((Nat → Int32) × (Nat → Int32) × Bool × (Nat → Int32) × (Nat → Int32) × Int32 × Int32) := zf_X8_tryAll_l2_54 FU v2 ((0 : Int32)) b_now b_minds b_fled b_roster b_bestRow v3 ((b_now 33))
def zf_X8_tryAll_l2_89 : Nat → Int32 → Int32 → Int32 → (Nat → Int32) → (Nat → Int32) → Bool → (Nat → Int32) → (Nat → Int32) → Int32 → Int32 → Option ((Nat → Int32) × (Nat → Int32) × Bool × (Nat → Int32) × (Nat → Int32) × Int32 × Int32)
  | 0, _, _, _, _, _, _, _, _, _, _ => none
  | n + 1, v2, v3, v4, b_now, b_minds, b_fled, b_roster, b_bestRow, b_bestHarms, b_bestRage => (Option.bind (zf_X8_many b_now) (fun u9 => (if (u9 + (2 : Int32)) ≤ v4 then some (b_now, b_minds, b_fled, b_roster, b_bestRow, b_bestHarms, b_bestRage) else (Option.bind (zf_X8_orderAt v4 b_now) (fun u11 => (Option.bind (zf_X8_step (((((upd b_roster 2 u11)) 2))) b_now b_fled) (fun u12 => (Option.bind (zf_X8_tryAll_l3 v2 (((v3 + u12.1))) u12.2.1 b_minds u12.2.2 ((upd b_roster 2 u11)) b_bestRow b_bestHarms b_bestRage) (fun u13 => (Option.bind (zf_X8_lay (((2 : Int32))) u13.1 u13.2.1) (fun u14 => zf_X8_tryAll_l2_89 n v2 v3 ((v4 + 1)) u14 u13.2.1 u13.2.2.1 u13.2.2.2.1 u13.2.2.2.2.1 u13.2.2.2.2.2.1 u13.2.2.2.2.2.2)))))))))))
def zf_X8_tryAll_l2 (x2 : Int32) (x3 : Int32) (b_now : Nat → Int32) (b_minds : Nat → Int32) (b_fled : Bool) (b_roster : Nat → Int32) (b_bestRow : Nat → Int32) (b_bestHarms : Int32) (b_bestRage : Int32) : Option ((Nat → Int32) × (Nat → Int32) × Bool × (Nat → Int32) × (Nat → Int32) × Int32 × Int32) := (if (2 : Int32) = x2 then (if x3 < b_bestHarms then zf_X8_tryAll_l2_35 x2 x3 b_now b_minds b_fled b_roster b_bestRow b_bestHarms b_bestRage else (if x3 = b_bestHarms then (if b_bestRage ≤ (b_now 33) then some (b_now, b_minds, b_fled, b_roster, b_bestRow, b_bestHarms, b_bestRage) else zf_X8_tryAll_l2_35 x2 x3 b_now b_minds b_fled b_roster b_bestRow b_bestHarms b_bestRage) else some (b_now, b_minds, b_fled, b_roster, b_bestRow, b_bestHarms, b_bestRage))) else (Option.bind (zf_X8_keep (((2 : Int32))) b_now b_minds) (fun u2 => zf_X8_tryAll_l2_89 FU x2 x3 ((0 : Int32)) b_now u2 b_fled b_roster b_bestRow b_bestHarms b_bestRage)))
abbrev zr_X8_tryAll_l2 : Room := { frames := 5, cells := 0, slots := 0, locals := 115 }
set_option maxHeartbeats 4000000 in
set_option maxRecDepth 100000 in
theorem c_X8_tryAll_l2 (l : Launch) (G : va_G) (cy : Nat → ClassId) (tt : Nat → Nat) (M : Nat → Nat) (b_isKept : Bool) (b_size : Int32) (b_at : Int32) (b_from : Int32) (b_sort : Int32) (b_flights : Int32) (b_firstFlight : Int32) (b_harmed : Int64) (b_raged : Int64) (x2 : Int32) (x3 : Int32) (b_now : Nat → Int32) (b_minds : Nat → Int32) (b_fled : Bool) (b_roster : Nat → Int32) (b_bestRow : Nat → Int32) (b_bestHarms : Int32) (b_bestRage : Int32) (res : (Nat → Int32) × (Nat → Int32) × Bool × (Nat → Int32) × (Nat → Int32) × Int32 × Int32) (hf : zf_X8_tryAll_l2 x2 x3 b_now b_minds b_fled b_roster b_bestRow b_bestHarms b_bestRage = some res) : zCT l yX8_tryAll cX8_tryAll 6 none zr_X8_tryAll_l2 G cy tt [.ref ((M 0)), .int ((2 : Int32)), .int x2, .int x3] [xM M b_isKept b_size b_at b_from b_sort b_fled b_flights b_firstFlight b_bestHarms b_bestRage b_harmed b_raged, xI cy ((M 2)) 39 b_now, xI cy ((M 4)) 273 b_minds, xI cy ((M 12)) 40 b_roster, xI cy ((M 13)) 4 b_bestRow] none [xM M b_isKept b_size b_at b_from b_sort res.2.2.1 b_flights b_firstFlight res.2.2.2.2.2.1 res.2.2.2.2.2.2 b_harmed b_raged, xI cy ((M 2)) 39 res.1, xI cy ((M 4)) 273 res.2.1, xI cy ((M 12)) 40 res.2.2.2.1, xI cy ((M 13)) 4 res.2.2.2.2.1] := by
  refine zk_start zn_X8 (Nat.le_of_ble_eq_true rfl) ?_
  intro p e s m args below meth c A ls Q C hr hQ hw hl
  have C : zCx p m c s args meth cX8_tryAll 6 RX8 G cy tt A := C
  have hx := C.1.1
  have hb := C.1.2.1
  have hl : lv_has ls 6 [(0, .ref ((M 0))), (1, .int ((2 : Int32))), (2, .int x2), (3, .int x3)] := hl
  have J54 : ∀ (n : Nat), ∀ (v2 : Int32) (v4 : Int32) (b_now : Nat → Int32) (b_minds : Nat → Int32) (b_fled : Bool) (b_roster : Nat → Int32) (b_bestRow : Nat → Int32) (b_bestHarms : Int32) (b_bestRage : Int32) (H : Heap) (locs : List Loc) (ls : Array Slot), zf_X8_tryAll_l2_54 n v2 v4 b_now b_minds b_fled b_roster b_bestRow b_bestHarms b_bestRage = some res → zWd G A s.heap H locs [xM M b_isKept b_size b_at b_from b_sort b_fled b_flights b_firstFlight b_bestHarms b_bestRage b_harmed b_raged, xI cy ((M 2)) 39 b_now, xI cy ((M 4)) 273 b_minds, xI cy ((M 12)) 40 b_roster, xI cy ((M 13)) 4 b_bestRow] → lv_has ls 6 [(0, .ref ((M 0))), (2, .int v2), (4, .int v4)] → W p l e zr_X8_tryAll_l2 s m args below meth c H locs 0 0 Q (F0 m 54 ls []) := by
    intro n
    induction n with
    | zero =>
      intro v2 v4 b_now b_minds b_fled b_roster b_bestRow b_bestHarms b_bestRage H locs ls hf hw hl
      rw [zf_X8_tryAll_l2_54] at hf
      cases hf
    | succ n ih =>
      intro v2 v4 b_now b_minds b_fled b_roster b_bestRow b_bestHarms b_bestRage H locs ls hf hw hl
      rw [zf_X8_tryAll_l2_54] at hf
      refine lv_iload (pc := 54) hx hb dX8_tryAll_54 (lv_at hl 2 rfl) ?_
      refine lv_iload_n (pc := 56) hx hb dX8_tryAll_56 rfl (lv_at hl 1 rfl) ?_
      refine lv_icmp_ge (pc := 57) (tgt := 80) hx hb dX8_tryAll_57 (by decide) (fun q6 => ?_) (fun q6 => ?_)
      · replace hf := if_t q6 hf
        have hf := Option.some.inj hf
        subst hf
        exact zk_retv (pc := 80) (ww := [xM M b_isKept b_size b_at b_from b_sort b_fled b_flights b_firstFlight b_bestHarms b_bestRage b_harmed b_raged, xI cy ((M 2)) 39 b_now, xI cy ((M 4)) 273 b_minds, xI cy ((M 12)) 40 b_roster, xI cy ((M 13)) 4 b_bestRow]) C hw hr hQ dX8_tryAll_80
      · replace hf := if_f q6 hf
        refine lv_aload_n (pc := 60) hx hb dX8_tryAll_60 rfl (lv_at hl 0 rfl) ?_
        refine zk_gt (pc := 61) C hw zl_X8_52 0 rfl rfl dX8_tryAll_61 ?_
        refine lv_iload (pc := 64) hx hb dX8_tryAll_64 (lv_at hl 2 rfl) ?_
        refine lv_aload_n (pc := 66) hx hb dX8_tryAll_66 rfl (lv_at hl 0 rfl) ?_
        refine zk_gt (pc := 67) C hw zl_X8_49 0 rfl rfl dX8_tryAll_67 ?_
        refine lv_iload (pc := 70) hx hb dX8_tryAll_70 (lv_at hl 2 rfl) ?_
        obtain ⟨q7, hf⟩ := ck hf
        refine zk_iald (pc := 72) C hw 3 rfl q7 dX8_tryAll_72 ?_
        obtain ⟨q8, hf⟩ := ck hf
        refine zk_iast (pc := 73) (w' := [xM M b_isKept b_size b_at b_from b_sort b_fled b_flights b_firstFlight b_bestHarms b_bestRage b_harmed b_raged, xI cy ((M 2)) 39 b_now, xI cy ((M 4)) 273 b_minds, xI cy ((M 12)) 40 b_roster, xI cy ((M 13)) 4 ((upd b_bestRow v4.toNatClampNeg ((b_roster v4.toNatClampNeg))))]) C hw 4 rfl q8 rfl dX8_tryAll_73 (fun H locs hw => ?_)
        refine lv_iinc (pc := 74) (v := (v4 + 1)) (lv' := [(4, .int ((v4 + 1))), (0, .ref ((M 0))), (2, .int v2)]) hx hb dX8_tryAll_74 hl (k := 2) rfl rfl (by decide) rfl (fun ls hl => ?_)
        refine lv_goto (pc := 77) (tgt := 54) hx hb dX8_tryAll_77 (by decide) ?_
        exact ih v2 ((v4 + 1)) b_now b_minds b_fled b_roster ((upd b_bestRow v4.toNatClampNeg ((b_roster v4.toNatClampNeg)))) b_bestHarms b_bestRage _ _ _ hf hw (lv_sub hl [1, 2, 0] rfl)
  have J35 : ∀ (v2 : Int32) (v3 : Int32) (b_now : Nat → Int32) (b_minds : Nat → Int32) (b_fled : Bool) (b_roster : Nat → Int32) (b_bestRow : Nat → Int32) (b_bestHarms : Int32) (b_bestRage : Int32) (H : Heap) (locs : List Loc) (ls : Array Slot), zf_X8_tryAll_l2_35 v2 v3 b_now b_minds b_fled b_roster b_bestRow b_bestHarms b_bestRage = some res → zWd G A s.heap H locs [xM M b_isKept b_size b_at b_from b_sort b_fled b_flights b_firstFlight b_bestHarms b_bestRage b_harmed b_raged, xI cy ((M 2)) 39 b_now, xI cy ((M 4)) 273 b_minds, xI cy ((M 12)) 40 b_roster, xI cy ((M 13)) 4 b_bestRow] → lv_has ls 6 [(0, .ref ((M 0))), (2, .int v2), (3, .int v3)] → W p l e zr_X8_tryAll_l2 s m args below meth c H locs 0 0 Q (F0 m 35 ls []) := by
    intro v2 v3 b_now b_minds b_fled b_roster b_bestRow b_bestHarms b_bestRage H locs ls hf hw hl
    rw [zf_X8_tryAll_l2_35] at hf
    refine lv_aload_n (pc := 35) hx hb dX8_tryAll_35 rfl (lv_at hl 0 rfl) ?_
    refine lv_iload_n (pc := 36) hx hb dX8_tryAll_36 rfl (lv_at hl 2 rfl) ?_
    refine zk_put (pc := 37) (w' := [xM M b_isKept b_size b_at b_from b_sort b_fled b_flights b_firstFlight v3 b_bestRage b_harmed b_raged, xI cy ((M 2)) 39 b_now, xI cy ((M 4)) 273 b_minds, xI cy ((M 12)) 40 b_roster, xI cy ((M 13)) 4 b_bestRow]) C hw zp_X8_232 0 rfl rfl rfl (Nat.le_of_ble_eq_true rfl) rfl dX8_tryAll_37 (fun H locs hw => ?_)
    refine lv_aload_n (pc := 40) hx hb dX8_tryAll_40 rfl (lv_at hl 0 rfl) ?_
    refine lv_aload_n (pc := 41) hx hb dX8_tryAll_41 rfl (lv_at hl 0 rfl) ?_
    refine zk_gt (pc := 42) C hw zl_X8_17 0 rfl rfl dX8_tryAll_42 ?_
    refine lv_bipush (pc := 45) (v := 33) hx hb dX8_tryAll_45 (by decide) ?_
    refine zk_ialdK (pc := 47) 33 (by decide) C hw 1 rfl (by decide) dX8_tryAll_47 ?_
    refine zk_put (pc := 48) (w' := [xM M b_isKept b_size b_at b_from b_sort b_fled b_flights b_firstFlight v3 ((b_now 33)) b_harmed b_raged, xI cy ((M 2)) 39 b_now, xI cy ((M 4)) 273 b_minds, xI cy ((M 12)) 40 b_roster, xI cy ((M 13)) 4 b_bestRow]) C hw zp_X8_235 0 rfl rfl rfl (Nat.le_of_ble_eq_true rfl) rfl dX8_tryAll_48 (fun H locs hw => ?_)
    refine lv_iconst (pc := 51) (v := 0) hx hb dX8_tryAll_51 (by decide) ?_
    refine lv_istore (pc := 52) (lv' := [(4, .int ((0 : Int32))), (0, .ref ((M 0))), (2, .int v2), (3, .int v3)]) hx hb dX8_tryAll_52 hl (by decide) rfl (fun ls hl => ?_)
    exact J54 FU v2 ((0 : Int32)) b_now b_minds b_fled b_roster b_bestRow v3 ((b_now 33)) _ _ _ hf hw (lv_sub hl [1, 2, 0] rfl)
  have J89 : ∀ (n : Nat), ∀ (v2 : Int32) (v3 : Int32) (v4 : Int32) (b_now : Nat → Int32) (b_minds : Nat → Int32) (b_fled : Bool) (b_roster : Nat → Int32) (b_bestRow : Nat → Int32) (b_bestHarms : Int32) (b_bestRage : Int32) (H : Heap) (locs : List Loc) (ls : Array Slot), zf_X8_tryAll_l2_89 n v2 v3 v4 b_now b_minds b_fled b_roster b_bestRow b_bestHarms b_bestRage = some res → zWd G A s.heap H locs [xM M b_isKept b_size b_at b_from b_sort b_fled b_flights b_firstFlight b_bestHarms b_bestRage b_harmed b_raged, xI cy ((M 2)) 39 b_now, xI cy ((M 4)) 273 b_minds, xI cy ((M 12)) 40 b_roster, xI cy ((M 13)) 4 b_bestRow] → lv_has ls 6 [(0, .ref ((M 0))), (1, .int ((2 : Int32))), (2, .int v2), (3, .int v3), (4, .int v4)] → W p l e zr_X8_tryAll_l2 s m args below meth c H locs 0 0 Q (F0 m 89 ls []) := by
    intro n
    induction n with
    | zero =>
      intro v2 v3 v4 b_now b_minds b_fled b_roster b_bestRow b_bestHarms b_bestRage H locs ls hf hw hl
      rw [zf_X8_tryAll_l2_89] at hf
      cases hf
    | succ n ih =>
      intro v2 v3 v4 b_now b_minds b_fled b_roster b_bestRow b_bestHarms b_bestRage H locs ls hf hw hl
      rw [zf_X8_tryAll_l2_89] at hf
      refine lv_iload (pc := 89) hx hb dX8_tryAll_89 (lv_at hl 4 rfl) ?_
      refine lv_aload_n (pc := 91) hx hb dX8_tryAll_91 rfl (lv_at hl 0 rfl) ?_
      obtain ⟨u9, u9e, hf⟩ := bd hf
      refine zk_cV (pc := 92) (ci := 8) (q0 := 0) (rest := [.int v4]) (st1 := [.int u9, .int v4]) (w' := [xM M b_isKept b_size b_at b_from b_sort b_fled b_flights b_firstFlight b_bestHarms b_bestRage b_harmed b_raged, xI cy ((M 2)) 39 b_now, xI cy ((M 4)) 273 b_minds, xI cy ((M 12)) 40 b_roster, xI cy ((M 13)) 4 b_bestRow]) (mk := [none, none, none, none, none]) C hw (c_X8_many l G cy tt M b_isKept b_size b_at b_from b_sort b_fled b_flights b_firstFlight b_bestHarms b_bestRage b_harmed b_raged b_now _ u9e) zy_X8_many zm_X8_80 rfl rfl rfl [0, 1] rfl rfl rfl rfl rfl rfl rfl rfl hl.1 ⟨rfl, rfl⟩ ⟨Nat.le_of_ble_eq_true rfl, Nat.le_of_ble_eq_true rfl⟩ rfl (Nat.le_of_ble_eq_true rfl) ⟨Nat.zero_le _, Nat.zero_le _⟩ dX8_tryAll_92 (fun H locs hw => ?_)
      refine lv_iconst (pc := 95) (v := 2) hx hb dX8_tryAll_95 (by decide) ?_
      refine lv_iadd (pc := 96) hx hb dX8_tryAll_96 ?_
      refine lv_icmp_ge (pc := 97) (tgt := 147) hx hb dX8_tryAll_97 (by decide) (fun q10 => ?_) (fun q10 => ?_)
      · replace hf := if_t q10 hf
        have hf := Option.some.inj hf
        subst hf
        exact zk_retv (pc := 147) (ww := [xM M b_isKept b_size b_at b_from b_sort b_fled b_flights b_firstFlight b_bestHarms b_bestRage b_harmed b_raged, xI cy ((M 2)) 39 b_now, xI cy ((M 4)) 273 b_minds, xI cy ((M 12)) 40 b_roster, xI cy ((M 13)) 4 b_bestRow]) C hw hr hQ dX8_tryAll_147
      · replace hf := if_f q10 hf
        refine lv_aload_n (pc := 100) hx hb dX8_tryAll_100 rfl (lv_at hl 0 rfl) ?_
        refine zk_gt (pc := 101) C hw zl_X8_49 0 rfl rfl dX8_tryAll_101 ?_
        refine lv_iload_n (pc := 104) hx hb dX8_tryAll_104 rfl (lv_at hl 1 rfl) ?_
        refine lv_aload_n (pc := 105) hx hb dX8_tryAll_105 rfl (lv_at hl 0 rfl) ?_
        refine lv_iload (pc := 106) hx hb dX8_tryAll_106 (lv_at hl 4 rfl) ?_
        obtain ⟨u11, u11e, hf⟩ := bd hf
        refine zk_cV (pc := 108) (ci := 8) (q0 := 0) (rest := [.int ((2 : Int32)), .ref ((M 12))]) (st1 := [.int u11, .int ((2 : Int32)), .ref ((M 12))]) (w' := [xM M b_isKept b_size b_at b_from b_sort b_fled b_flights b_firstFlight b_bestHarms b_bestRage b_harmed b_raged, xI cy ((M 2)) 39 b_now, xI cy ((M 4)) 273 b_minds, xI cy ((M 12)) 40 b_roster, xI cy ((M 13)) 4 b_bestRow]) (mk := [none, none, none, none, none]) C hw (c_X8_orderAt l G cy tt M b_isKept b_size b_at b_from b_sort b_fled b_flights b_firstFlight b_bestHarms b_bestRage b_harmed b_raged v4 b_now _ u11e) zy_X8_orderAt zm_X8_195 rfl rfl rfl [0, 1] rfl rfl rfl rfl rfl rfl rfl rfl hl.1 ⟨rfl, rfl⟩ ⟨Nat.le_of_ble_eq_true rfl, Nat.le_of_ble_eq_true rfl⟩ rfl (Nat.le_of_ble_eq_true rfl) ⟨Nat.zero_le _, Nat.zero_le _⟩ dX8_tryAll_108 (fun H locs hw => ?_)
        refine zk_iastK (pc := 111) (w' := [xM M b_isKept b_size b_at b_from b_sort b_fled b_flights b_firstFlight b_bestHarms b_bestRage b_harmed b_raged, xI cy ((M 2)) 39 b_now, xI cy ((M 4)) 273 b_minds, xI cy ((M 12)) 40 ((upd b_roster 2 u11)), xI cy ((M 13)) 4 b_bestRow]) 2 (by decide) C hw 3 rfl (by decide) rfl dX8_tryAll_111 (fun H locs hw => ?_)
        refine lv_aload_n (pc := 112) hx hb dX8_tryAll_112 rfl (lv_at hl 0 rfl) ?_
        refine lv_aload_n (pc := 113) hx hb dX8_tryAll_113 rfl (lv_at hl 0 rfl) ?_
        refine zk_gt (pc := 114) C hw zl_X8_49 0 rfl rfl dX8_tryAll_114 ?_
        refine lv_iload_n (pc := 117) hx hb dX8_tryAll_117 rfl (lv_at hl 1 rfl) ?_
        refine zk_ialdK (pc := 118) 2 (by decide) C hw 3 rfl (by decide) dX8_tryAll_118 ?_
        obtain ⟨u12, u12e, hf⟩ := bd hf
        refine zk_cV (pc := 119) (ci := 8) (q0 := 0) (rest := []) (st1 := [.int u12.1]) (w' := [xM M b_isKept b_size b_at b_from b_sort u12.2.2 b_flights b_firstFlight b_bestHarms b_bestRage b_harmed b_raged, xI cy ((M 2)) 39 u12.2.1, xI cy ((M 4)) 273 b_minds, xI cy ((M 12)) 40 ((upd b_roster 2 u11)), xI cy ((M 13)) 4 b_bestRow]) (mk := [some (xM M b_isKept b_size b_at b_from b_sort u12.2.2 b_flights b_firstFlight b_bestHarms b_bestRage b_harmed b_raged), some (xI cy ((M 2)) 39 u12.2.1), none, none, none]) C hw (c_X8_step l G cy tt M b_isKept b_size b_at b_from b_sort b_flights b_firstFlight b_bestHarms b_bestRage b_harmed b_raged (((((upd b_roster 2 u11)) 2))) b_now b_fled _ u12e) zy_X8_step zm_X8_181 rfl rfl rfl [0, 1] rfl rfl rfl rfl rfl rfl rfl rfl hl.1 ⟨rfl, rfl⟩ ⟨Nat.le_of_ble_eq_true rfl, Nat.le_of_ble_eq_true rfl⟩ rfl (Nat.le_of_ble_eq_true rfl) ⟨Nat.zero_le _, Nat.zero_le _⟩ dX8_tryAll_119 (fun H locs hw => ?_)
        refine lv_istore (pc := 122) (lv' := [(5, .int u12.1), (0, .ref ((M 0))), (1, .int ((2 : Int32))), (2, .int v2), (3, .int v3), (4, .int v4)]) hx hb dX8_tryAll_122 hl (by decide) rfl (fun ls hl => ?_)
        refine lv_aload_n (pc := 124) hx hb dX8_tryAll_124 rfl (lv_at hl 1 rfl) ?_
        refine lv_iload_n (pc := 125) hx hb dX8_tryAll_125 rfl (lv_at hl 2 rfl) ?_
        refine lv_iconst (pc := 126) (v := 1) hx hb dX8_tryAll_126 (by decide) ?_
        refine lv_iadd (pc := 127) hx hb dX8_tryAll_127 ?_
        refine zk_eqi (v := 3) (by decide) ?_
        refine lv_iload_n (pc := 128) hx hb dX8_tryAll_128 rfl (lv_at hl 3 rfl) ?_
        refine lv_iload_n (pc := 129) hx hb dX8_tryAll_129 rfl (lv_at hl 4 rfl) ?_
        refine lv_iload (pc := 130) hx hb dX8_tryAll_130 (lv_at hl 0 rfl) ?_
        refine lv_iadd (pc := 132) hx hb dX8_tryAll_132 ?_
        obtain ⟨u13, u13e, hf⟩ := bd hf
        refine zk_cV (pc := 133) (ci := 8) (q0 := 0) (rest := []) (st1 := []) (w' := [xM M b_isKept b_size b_at b_from b_sort u13.2.2.1 b_flights b_firstFlight u13.2.2.2.2.2.1 u13.2.2.2.2.2.2 b_harmed b_raged, xI cy ((M 2)) 39 u13.1, xI cy ((M 4)) 273 u13.2.1, xI cy ((M 12)) 40 u13.2.2.2.1, xI cy ((M 13)) 4 u13.2.2.2.2.1]) (mk := [some (xM M b_isKept b_size b_at b_from b_sort u13.2.2.1 b_flights b_firstFlight u13.2.2.2.2.2.1 u13.2.2.2.2.2.2 b_harmed b_raged), some (xI cy ((M 2)) 39 u13.1), some (xI cy ((M 4)) 273 u13.2.1), some (xI cy ((M 12)) 40 u13.2.2.2.1), some (xI cy ((M 13)) 4 u13.2.2.2.2.1)]) C hw (c_X8_tryAll_l3 l G cy tt M b_isKept b_size b_at b_from b_sort b_flights b_firstFlight b_harmed b_raged v2 (((v3 + u12.1))) u12.2.1 b_minds u12.2.2 ((upd b_roster 2 u11)) b_bestRow b_bestHarms b_bestRage _ u13e) zy_X8_tryAll zm_X8_238 rfl rfl rfl [0, 1, 2, 3, 4] rfl rfl rfl rfl rfl rfl rfl rfl hl.1 ⟨rfl, rfl⟩ ⟨Nat.le_of_ble_eq_true rfl, Nat.le_of_ble_eq_true rfl⟩ rfl (Nat.le_of_ble_eq_true rfl) ⟨Nat.zero_le _, Nat.zero_le _⟩ dX8_tryAll_133 (fun H locs hw => ?_)
        refine lv_aload_n (pc := 136) hx hb dX8_tryAll_136 rfl (lv_at hl 1 rfl) ?_
        refine lv_iload_n (pc := 137) hx hb dX8_tryAll_137 rfl (lv_at hl 2 rfl) ?_
        obtain ⟨u14, u14e, hf⟩ := bd hf
        refine zk_cV (pc := 138) (ci := 8) (q0 := 0) (rest := []) (st1 := []) (w' := [xM M b_isKept b_size b_at b_from b_sort u13.2.2.1 b_flights b_firstFlight u13.2.2.2.2.2.1 u13.2.2.2.2.2.2 b_harmed b_raged, xI cy ((M 2)) 39 u14, xI cy ((M 4)) 273 u13.2.1, xI cy ((M 12)) 40 u13.2.2.2.1, xI cy ((M 13)) 4 u13.2.2.2.2.1]) (mk := [none, some (xI cy ((M 2)) 39 u14), none, none, none]) C hw (c_X8_lay l G cy tt M b_isKept b_size b_at b_from b_sort u13.2.2.1 b_flights b_firstFlight u13.2.2.2.2.2.1 u13.2.2.2.2.2.2 b_harmed b_raged (((2 : Int32))) u13.1 u13.2.1 _ u14e) zy_X8_lay zm_X8_150 rfl rfl rfl [0, 1, 2] rfl rfl rfl rfl rfl rfl rfl rfl hl.1 ⟨rfl, rfl⟩ ⟨Nat.le_of_ble_eq_true rfl, Nat.le_of_ble_eq_true rfl⟩ rfl (Nat.le_of_ble_eq_true rfl) ⟨Nat.zero_le _, Nat.zero_le _⟩ dX8_tryAll_138 (fun H locs hw => ?_)
        refine lv_iinc (pc := 141) (v := (v4 + 1)) (lv' := [(4, .int ((v4 + 1))), (5, .int u12.1), (0, .ref ((M 0))), (1, .int ((2 : Int32))), (2, .int v2), (3, .int v3)]) hx hb dX8_tryAll_141 hl (k := 5) rfl rfl (by decide) rfl (fun ls hl => ?_)
        refine lv_goto (pc := 144) (tgt := 89) hx hb dX8_tryAll_144 (by decide) ?_
        exact ih v2 v3 ((v4 + 1)) u14 u13.2.1 u13.2.2.1 u13.2.2.2.1 u13.2.2.2.2.1 u13.2.2.2.2.2.1 u13.2.2.2.2.2.2 _ _ _ hf hw (lv_sub hl [2, 3, 4, 5, 0] rfl)
  rw [zf_X8_tryAll_l2] at hf
  refine lv_iload_n (pc := 0) hx hb dX8_tryAll_0 rfl (lv_at hl 1 rfl) ?_
  refine lv_iload_n (pc := 1) hx hb dX8_tryAll_1 rfl (lv_at hl 2 rfl) ?_
  refine lv_icmp_ne (pc := 2) (tgt := 81) hx hb dX8_tryAll_2 (by decide) (fun q1 => ?_) (fun q1 => ?_)
  · replace hf := if_f q1 hf
    refine lv_aload_n (pc := 81) hx hb dX8_tryAll_81 rfl (lv_at hl 0 rfl) ?_
    refine lv_iload_n (pc := 82) hx hb dX8_tryAll_82 rfl (lv_at hl 1 rfl) ?_
    obtain ⟨u2, u2e, hf⟩ := bd hf
    refine zk_cV (pc := 83) (ci := 8) (q0 := 0) (rest := []) (st1 := []) (w' := [xM M b_isKept b_size b_at b_from b_sort b_fled b_flights b_firstFlight b_bestHarms b_bestRage b_harmed b_raged, xI cy ((M 2)) 39 b_now, xI cy ((M 4)) 273 u2, xI cy ((M 12)) 40 b_roster, xI cy ((M 13)) 4 b_bestRow]) (mk := [none, none, some (xI cy ((M 4)) 273 u2), none, none]) C hw (c_X8_keep l G cy tt M b_isKept b_size b_at b_from b_sort b_fled b_flights b_firstFlight b_bestHarms b_bestRage b_harmed b_raged (((2 : Int32))) b_now b_minds _ u2e) zy_X8_keep zm_X8_142 rfl rfl rfl [0, 1, 2] rfl rfl rfl rfl rfl rfl rfl rfl hl.1 ⟨rfl, rfl⟩ ⟨Nat.le_of_ble_eq_true rfl, Nat.le_of_ble_eq_true rfl⟩ rfl (Nat.le_of_ble_eq_true rfl) ⟨Nat.zero_le _, Nat.zero_le _⟩ dX8_tryAll_83 (fun H locs hw => ?_)
    refine lv_iconst (pc := 86) (v := 0) hx hb dX8_tryAll_86 (by decide) ?_
    refine lv_istore (pc := 87) (lv' := [(4, .int ((0 : Int32))), (0, .ref ((M 0))), (1, .int ((2 : Int32))), (2, .int x2), (3, .int x3)]) hx hb dX8_tryAll_87 hl (by decide) rfl (fun ls hl => ?_)
    exact J89 FU x2 x3 ((0 : Int32)) b_now u2 b_fled b_roster b_bestRow b_bestHarms b_bestRage _ _ _ hf hw (lv_sub hl [1, 2, 3, 4, 0] rfl)
  · replace hf := if_t q1 hf
    refine lv_iload_n (pc := 5) hx hb dX8_tryAll_5 rfl (lv_at hl 3 rfl) ?_
    refine lv_aload_n (pc := 6) hx hb dX8_tryAll_6 rfl (lv_at hl 0 rfl) ?_
    refine zk_gt (pc := 7) C hw zl_X8_232 0 rfl rfl dX8_tryAll_7 ?_
    refine lv_icmp_lt (pc := 10) (tgt := 35) hx hb dX8_tryAll_10 (by decide) (fun q3 => ?_) (fun q3 => ?_)
    · replace hf := if_t q3 hf
      exact J35 x2 x3 b_now b_minds b_fled b_roster b_bestRow b_bestHarms b_bestRage _ _ _ hf hw (lv_sub hl [0, 2, 3] rfl)
    · replace hf := if_f q3 hf
      refine lv_iload_n (pc := 13) hx hb dX8_tryAll_13 rfl (lv_at hl 3 rfl) ?_
      refine lv_aload_n (pc := 14) hx hb dX8_tryAll_14 rfl (lv_at hl 0 rfl) ?_
      refine zk_gt (pc := 15) C hw zl_X8_232 0 rfl rfl dX8_tryAll_15 ?_
      refine lv_icmp_ne (pc := 18) (tgt := 80) hx hb dX8_tryAll_18 (by decide) (fun q4 => ?_) (fun q4 => ?_)
      · replace hf := if_f q4 hf
        have hf := Option.some.inj hf
        subst hf
        exact zk_retv (pc := 80) (ww := [xM M b_isKept b_size b_at b_from b_sort b_fled b_flights b_firstFlight b_bestHarms b_bestRage b_harmed b_raged, xI cy ((M 2)) 39 b_now, xI cy ((M 4)) 273 b_minds, xI cy ((M 12)) 40 b_roster, xI cy ((M 13)) 4 b_bestRow]) C hw hr hQ dX8_tryAll_80
      · replace hf := if_t q4 hf
        refine lv_aload_n (pc := 21) hx hb dX8_tryAll_21 rfl (lv_at hl 0 rfl) ?_
        refine zk_gt (pc := 22) C hw zl_X8_17 0 rfl rfl dX8_tryAll_22 ?_
        refine lv_bipush (pc := 25) (v := 33) hx hb dX8_tryAll_25 (by decide) ?_
        refine zk_ialdK (pc := 27) 33 (by decide) C hw 1 rfl (by decide) dX8_tryAll_27 ?_
        refine lv_aload_n (pc := 28) hx hb dX8_tryAll_28 rfl (lv_at hl 0 rfl) ?_
        refine zk_gt (pc := 29) C hw zl_X8_235 0 rfl rfl dX8_tryAll_29 ?_
        refine lv_icmp_ge (pc := 32) (tgt := 80) hx hb dX8_tryAll_32 (by decide) (fun q5 => ?_) (fun q5 => ?_)
        · replace hf := if_t q5 hf
          have hf := Option.some.inj hf
          subst hf
          exact zk_retv (pc := 80) (ww := [xM M b_isKept b_size b_at b_from b_sort b_fled b_flights b_firstFlight b_bestHarms b_bestRage b_harmed b_raged, xI cy ((M 2)) 39 b_now, xI cy ((M 4)) 273 b_minds, xI cy ((M 12)) 40 b_roster, xI cy ((M 13)) 4 b_bestRow]) C hw hr hQ dX8_tryAll_80
        · replace hf := if_f q5 hf
          exact J35 x2 x3 b_now b_minds b_fled b_roster b_bestRow b_bestHarms b_bestRage _ _ _ hf hw (lv_sub hl [0, 2, 3] rfl)
def zf_X8_tryAll_l1_54 : Nat → Int32 → Int32 → (Nat → Int32) → (Nat → Int32) → Bool → (Nat → Int32) → (Nat → Int32) → Int32 → Int32 → Option ((Nat → Int32) × (Nat → Int32) × Bool × (Nat → Int32) × (Nat → Int32) × Int32 × Int32)
  | 0, _, _, _, _, _, _, _, _, _ => none
  | n + 1, v2, v4, b_now, b_minds, b_fled, b_roster, b_bestRow, b_bestHarms, b_bestRage => (if v2 ≤ v4 then some (b_now, b_minds, b_fled, b_roster, b_bestRow, b_bestHarms, b_bestRage) else (if ix v4 40 then (if ix v4 4 then zf_X8_tryAll_l1_54 n v2 ((v4 + 1)) b_now b_minds b_fled b_roster ((upd b_bestRow v4.toNatClampNeg ((b_roster v4.toNatClampNeg)))) b_bestHarms b_bestRage else none) else none))
def zf_X8_tryAll_l1_35 (v2 : Int32) (v3 : Int32) (b_now : Nat → Int32) (b_minds : Nat → Int32) (b_fled : Bool) (b_roster : Nat → Int32) (b_bestRow : Nat → Int32) (b_bestHarms : Int32) (b_bestRage : Int32) : Option ((Nat → Int32) × (Nat → Int32) × Bool × (Nat → Int32) × (Nat → Int32) × Int32 × Int32) := zf_X8_tryAll_l1_54 FU v2 ((0 : Int32)) b_now b_minds b_fled b_roster b_bestRow v3 ((b_now 33))
def zf_X8_tryAll_l1_89 : Nat → Int32 → Int32 → Int32 → (Nat → Int32) → (Nat → Int32) → Bool → (Nat → Int32) → (Nat → Int32) → Int32 → Int32 → Option ((Nat → Int32) × (Nat → Int32) × Bool × (Nat → Int32) × (Nat → Int32) × Int32 × Int32)
  | 0, _, _, _, _, _, _, _, _, _, _ => none
  | n + 1, v2, v3, v4, b_now, b_minds, b_fled, b_roster, b_bestRow, b_bestHarms, b_bestRage => (Option.bind (zf_X8_many b_now) (fun u9 => (if (u9 + (2 : Int32)) ≤ v4 then some (b_now, b_minds, b_fled, b_roster, b_bestRow, b_bestHarms, b_bestRage) else (Option.bind (zf_X8_orderAt v4 b_now) (fun u11 => (Option.bind (zf_X8_step (((((upd b_roster 1 u11)) 1))) b_now b_fled) (fun u12 => (Option.bind (zf_X8_tryAll_l2 v2 (((v3 + u12.1))) u12.2.1 b_minds u12.2.2 ((upd b_roster 1 u11)) b_bestRow b_bestHarms b_bestRage) (fun u13 => (Option.bind (zf_X8_lay (((1 : Int32))) u13.1 u13.2.1) (fun u14 => zf_X8_tryAll_l1_89 n v2 v3 ((v4 + 1)) u14 u13.2.1 u13.2.2.1 u13.2.2.2.1 u13.2.2.2.2.1 u13.2.2.2.2.2.1 u13.2.2.2.2.2.2)))))))))))
def zf_X8_tryAll_l1 (x2 : Int32) (x3 : Int32) (b_now : Nat → Int32) (b_minds : Nat → Int32) (b_fled : Bool) (b_roster : Nat → Int32) (b_bestRow : Nat → Int32) (b_bestHarms : Int32) (b_bestRage : Int32) : Option ((Nat → Int32) × (Nat → Int32) × Bool × (Nat → Int32) × (Nat → Int32) × Int32 × Int32) := (if (1 : Int32) = x2 then (if x3 < b_bestHarms then zf_X8_tryAll_l1_35 x2 x3 b_now b_minds b_fled b_roster b_bestRow b_bestHarms b_bestRage else (if x3 = b_bestHarms then (if b_bestRage ≤ (b_now 33) then some (b_now, b_minds, b_fled, b_roster, b_bestRow, b_bestHarms, b_bestRage) else zf_X8_tryAll_l1_35 x2 x3 b_now b_minds b_fled b_roster b_bestRow b_bestHarms b_bestRage) else some (b_now, b_minds, b_fled, b_roster, b_bestRow, b_bestHarms, b_bestRage))) else (Option.bind (zf_X8_keep (((1 : Int32))) b_now b_minds) (fun u2 => zf_X8_tryAll_l1_89 FU x2 x3 ((0 : Int32)) b_now u2 b_fled b_roster b_bestRow b_bestHarms b_bestRage)))
abbrev zr_X8_tryAll_l1 : Room := { frames := 6, cells := 0, slots := 0, locals := 140 }
set_option maxHeartbeats 4000000 in
set_option maxRecDepth 100000 in
theorem c_X8_tryAll_l1 (l : Launch) (G : va_G) (cy : Nat → ClassId) (tt : Nat → Nat) (M : Nat → Nat) (b_isKept : Bool) (b_size : Int32) (b_at : Int32) (b_from : Int32) (b_sort : Int32) (b_flights : Int32) (b_firstFlight : Int32) (b_harmed : Int64) (b_raged : Int64) (x2 : Int32) (x3 : Int32) (b_now : Nat → Int32) (b_minds : Nat → Int32) (b_fled : Bool) (b_roster : Nat → Int32) (b_bestRow : Nat → Int32) (b_bestHarms : Int32) (b_bestRage : Int32) (res : (Nat → Int32) × (Nat → Int32) × Bool × (Nat → Int32) × (Nat → Int32) × Int32 × Int32) (hf : zf_X8_tryAll_l1 x2 x3 b_now b_minds b_fled b_roster b_bestRow b_bestHarms b_bestRage = some res) : zCT l yX8_tryAll cX8_tryAll 6 none zr_X8_tryAll_l1 G cy tt [.ref ((M 0)), .int ((1 : Int32)), .int x2, .int x3] [xM M b_isKept b_size b_at b_from b_sort b_fled b_flights b_firstFlight b_bestHarms b_bestRage b_harmed b_raged, xI cy ((M 2)) 39 b_now, xI cy ((M 4)) 273 b_minds, xI cy ((M 12)) 40 b_roster, xI cy ((M 13)) 4 b_bestRow] none [xM M b_isKept b_size b_at b_from b_sort res.2.2.1 b_flights b_firstFlight res.2.2.2.2.2.1 res.2.2.2.2.2.2 b_harmed b_raged, xI cy ((M 2)) 39 res.1, xI cy ((M 4)) 273 res.2.1, xI cy ((M 12)) 40 res.2.2.2.1, xI cy ((M 13)) 4 res.2.2.2.2.1] := by
  refine zk_start zn_X8 (Nat.le_of_ble_eq_true rfl) ?_
  intro p e s m args below meth c A ls Q C hr hQ hw hl
  have C : zCx p m c s args meth cX8_tryAll 6 RX8 G cy tt A := C
  have hx := C.1.1
  have hb := C.1.2.1
  have hl : lv_has ls 6 [(0, .ref ((M 0))), (1, .int ((1 : Int32))), (2, .int x2), (3, .int x3)] := hl
  have J54 : ∀ (n : Nat), ∀ (v2 : Int32) (v4 : Int32) (b_now : Nat → Int32) (b_minds : Nat → Int32) (b_fled : Bool) (b_roster : Nat → Int32) (b_bestRow : Nat → Int32) (b_bestHarms : Int32) (b_bestRage : Int32) (H : Heap) (locs : List Loc) (ls : Array Slot), zf_X8_tryAll_l1_54 n v2 v4 b_now b_minds b_fled b_roster b_bestRow b_bestHarms b_bestRage = some res → zWd G A s.heap H locs [xM M b_isKept b_size b_at b_from b_sort b_fled b_flights b_firstFlight b_bestHarms b_bestRage b_harmed b_raged, xI cy ((M 2)) 39 b_now, xI cy ((M 4)) 273 b_minds, xI cy ((M 12)) 40 b_roster, xI cy ((M 13)) 4 b_bestRow] → lv_has ls 6 [(0, .ref ((M 0))), (2, .int v2), (4, .int v4)] → W p l e zr_X8_tryAll_l1 s m args below meth c H locs 0 0 Q (F0 m 54 ls []) := by
    intro n
    induction n with
    | zero =>
      intro v2 v4 b_now b_minds b_fled b_roster b_bestRow b_bestHarms b_bestRage H locs ls hf hw hl
      rw [zf_X8_tryAll_l1_54] at hf
      cases hf
    | succ n ih =>
      intro v2 v4 b_now b_minds b_fled b_roster b_bestRow b_bestHarms b_bestRage H locs ls hf hw hl
      rw [zf_X8_tryAll_l1_54] at hf
      refine lv_iload (pc := 54) hx hb dX8_tryAll_54 (lv_at hl 2 rfl) ?_
      refine lv_iload_n (pc := 56) hx hb dX8_tryAll_56 rfl (lv_at hl 1 rfl) ?_
      refine lv_icmp_ge (pc := 57) (tgt := 80) hx hb dX8_tryAll_57 (by decide) (fun q6 => ?_) (fun q6 => ?_)
      · replace hf := if_t q6 hf
        have hf := Option.some.inj hf
        subst hf
        exact zk_retv (pc := 80) (ww := [xM M b_isKept b_size b_at b_from b_sort b_fled b_flights b_firstFlight b_bestHarms b_bestRage b_harmed b_raged, xI cy ((M 2)) 39 b_now, xI cy ((M 4)) 273 b_minds, xI cy ((M 12)) 40 b_roster, xI cy ((M 13)) 4 b_bestRow]) C hw hr hQ dX8_tryAll_80
      · replace hf := if_f q6 hf
        refine lv_aload_n (pc := 60) hx hb dX8_tryAll_60 rfl (lv_at hl 0 rfl) ?_
        refine zk_gt (pc := 61) C hw zl_X8_52 0 rfl rfl dX8_tryAll_61 ?_
        refine lv_iload (pc := 64) hx hb dX8_tryAll_64 (lv_at hl 2 rfl) ?_
        refine lv_aload_n (pc := 66) hx hb dX8_tryAll_66 rfl (lv_at hl 0 rfl) ?_
        refine zk_gt (pc := 67) C hw zl_X8_49 0 rfl rfl dX8_tryAll_67 ?_
        refine lv_iload (pc := 70) hx hb dX8_tryAll_70 (lv_at hl 2 rfl) ?_
        obtain ⟨q7, hf⟩ := ck hf
        refine zk_iald (pc := 72) C hw 3 rfl q7 dX8_tryAll_72 ?_
        obtain ⟨q8, hf⟩ := ck hf
        refine zk_iast (pc := 73) (w' := [xM M b_isKept b_size b_at b_from b_sort b_fled b_flights b_firstFlight b_bestHarms b_bestRage b_harmed b_raged, xI cy ((M 2)) 39 b_now, xI cy ((M 4)) 273 b_minds, xI cy ((M 12)) 40 b_roster, xI cy ((M 13)) 4 ((upd b_bestRow v4.toNatClampNeg ((b_roster v4.toNatClampNeg))))]) C hw 4 rfl q8 rfl dX8_tryAll_73 (fun H locs hw => ?_)
        refine lv_iinc (pc := 74) (v := (v4 + 1)) (lv' := [(4, .int ((v4 + 1))), (0, .ref ((M 0))), (2, .int v2)]) hx hb dX8_tryAll_74 hl (k := 2) rfl rfl (by decide) rfl (fun ls hl => ?_)
        refine lv_goto (pc := 77) (tgt := 54) hx hb dX8_tryAll_77 (by decide) ?_
        exact ih v2 ((v4 + 1)) b_now b_minds b_fled b_roster ((upd b_bestRow v4.toNatClampNeg ((b_roster v4.toNatClampNeg)))) b_bestHarms b_bestRage _ _ _ hf hw (lv_sub hl [1, 2, 0] rfl)
  have J35 : ∀ (v2 : Int32) (v3 : Int32) (b_now : Nat → Int32) (b_minds : Nat → Int32) (b_fled : Bool) (b_roster : Nat → Int32) (b_bestRow : Nat → Int32) (b_bestHarms : Int32) (b_bestRage : Int32) (H : Heap) (locs : List Loc) (ls : Array Slot), zf_X8_tryAll_l1_35 v2 v3 b_now b_minds b_fled b_roster b_bestRow b_bestHarms b_bestRage = some res → zWd G A s.heap H locs [xM M b_isKept b_size b_at b_from b_sort b_fled b_flights b_firstFlight b_bestHarms b_bestRage b_harmed b_raged, xI cy ((M 2)) 39 b_now, xI cy ((M 4)) 273 b_minds, xI cy ((M 12)) 40 b_roster, xI cy ((M 13)) 4 b_bestRow] → lv_has ls 6 [(0, .ref ((M 0))), (2, .int v2), (3, .int v3)] → W p l e zr_X8_tryAll_l1 s m args below meth c H locs 0 0 Q (F0 m 35 ls []) := by
    intro v2 v3 b_now b_minds b_fled b_roster b_bestRow b_bestHarms b_bestRage H locs ls hf hw hl
    rw [zf_X8_tryAll_l1_35] at hf
    refine lv_aload_n (pc := 35) hx hb dX8_tryAll_35 rfl (lv_at hl 0 rfl) ?_
    refine lv_iload_n (pc := 36) hx hb dX8_tryAll_36 rfl (lv_at hl 2 rfl) ?_
    refine zk_put (pc := 37) (w' := [xM M b_isKept b_size b_at b_from b_sort b_fled b_flights b_firstFlight v3 b_bestRage b_harmed b_raged, xI cy ((M 2)) 39 b_now, xI cy ((M 4)) 273 b_minds, xI cy ((M 12)) 40 b_roster, xI cy ((M 13)) 4 b_bestRow]) C hw zp_X8_232 0 rfl rfl rfl (Nat.le_of_ble_eq_true rfl) rfl dX8_tryAll_37 (fun H locs hw => ?_)
    refine lv_aload_n (pc := 40) hx hb dX8_tryAll_40 rfl (lv_at hl 0 rfl) ?_
    refine lv_aload_n (pc := 41) hx hb dX8_tryAll_41 rfl (lv_at hl 0 rfl) ?_
    refine zk_gt (pc := 42) C hw zl_X8_17 0 rfl rfl dX8_tryAll_42 ?_
    refine lv_bipush (pc := 45) (v := 33) hx hb dX8_tryAll_45 (by decide) ?_
    refine zk_ialdK (pc := 47) 33 (by decide) C hw 1 rfl (by decide) dX8_tryAll_47 ?_
    refine zk_put (pc := 48) (w' := [xM M b_isKept b_size b_at b_from b_sort b_fled b_flights b_firstFlight v3 ((b_now 33)) b_harmed b_raged, xI cy ((M 2)) 39 b_now, xI cy ((M 4)) 273 b_minds, xI cy ((M 12)) 40 b_roster, xI cy ((M 13)) 4 b_bestRow]) C hw zp_X8_235 0 rfl rfl rfl (Nat.le_of_ble_eq_true rfl) rfl dX8_tryAll_48 (fun H locs hw => ?_)
    refine lv_iconst (pc := 51) (v := 0) hx hb dX8_tryAll_51 (by decide) ?_
    refine lv_istore (pc := 52) (lv' := [(4, .int ((0 : Int32))), (0, .ref ((M 0))), (2, .int v2), (3, .int v3)]) hx hb dX8_tryAll_52 hl (by decide) rfl (fun ls hl => ?_)
    exact J54 FU v2 ((0 : Int32)) b_now b_minds b_fled b_roster b_bestRow v3 ((b_now 33)) _ _ _ hf hw (lv_sub hl [1, 2, 0] rfl)
  have J89 : ∀ (n : Nat), ∀ (v2 : Int32) (v3 : Int32) (v4 : Int32) (b_now : Nat → Int32) (b_minds : Nat → Int32) (b_fled : Bool) (b_roster : Nat → Int32) (b_bestRow : Nat → Int32) (b_bestHarms : Int32) (b_bestRage : Int32) (H : Heap) (locs : List Loc) (ls : Array Slot), zf_X8_tryAll_l1_89 n v2 v3 v4 b_now b_minds b_fled b_roster b_bestRow b_bestHarms b_bestRage = some res → zWd G A s.heap H locs [xM M b_isKept b_size b_at b_from b_sort b_fled b_flights b_firstFlight b_bestHarms b_bestRage b_harmed b_raged, xI cy ((M 2)) 39 b_now, xI cy ((M 4)) 273 b_minds, xI cy ((M 12)) 40 b_roster, xI cy ((M 13)) 4 b_bestRow] → lv_has ls 6 [(0, .ref ((M 0))), (1, .int ((1 : Int32))), (2, .int v2), (3, .int v3), (4, .int v4)] → W p l e zr_X8_tryAll_l1 s m args below meth c H locs 0 0 Q (F0 m 89 ls []) := by
    intro n
    induction n with
    | zero =>
      intro v2 v3 v4 b_now b_minds b_fled b_roster b_bestRow b_bestHarms b_bestRage H locs ls hf hw hl
      rw [zf_X8_tryAll_l1_89] at hf
      cases hf
    | succ n ih =>
      intro v2 v3 v4 b_now b_minds b_fled b_roster b_bestRow b_bestHarms b_bestRage H locs ls hf hw hl
      rw [zf_X8_tryAll_l1_89] at hf
      refine lv_iload (pc := 89) hx hb dX8_tryAll_89 (lv_at hl 4 rfl) ?_
      refine lv_aload_n (pc := 91) hx hb dX8_tryAll_91 rfl (lv_at hl 0 rfl) ?_
      obtain ⟨u9, u9e, hf⟩ := bd hf
      refine zk_cV (pc := 92) (ci := 8) (q0 := 0) (rest := [.int v4]) (st1 := [.int u9, .int v4]) (w' := [xM M b_isKept b_size b_at b_from b_sort b_fled b_flights b_firstFlight b_bestHarms b_bestRage b_harmed b_raged, xI cy ((M 2)) 39 b_now, xI cy ((M 4)) 273 b_minds, xI cy ((M 12)) 40 b_roster, xI cy ((M 13)) 4 b_bestRow]) (mk := [none, none, none, none, none]) C hw (c_X8_many l G cy tt M b_isKept b_size b_at b_from b_sort b_fled b_flights b_firstFlight b_bestHarms b_bestRage b_harmed b_raged b_now _ u9e) zy_X8_many zm_X8_80 rfl rfl rfl [0, 1] rfl rfl rfl rfl rfl rfl rfl rfl hl.1 ⟨rfl, rfl⟩ ⟨Nat.le_of_ble_eq_true rfl, Nat.le_of_ble_eq_true rfl⟩ rfl (Nat.le_of_ble_eq_true rfl) ⟨Nat.zero_le _, Nat.zero_le _⟩ dX8_tryAll_92 (fun H locs hw => ?_)
      refine lv_iconst (pc := 95) (v := 2) hx hb dX8_tryAll_95 (by decide) ?_
      refine lv_iadd (pc := 96) hx hb dX8_tryAll_96 ?_
      refine lv_icmp_ge (pc := 97) (tgt := 147) hx hb dX8_tryAll_97 (by decide) (fun q10 => ?_) (fun q10 => ?_)
      · replace hf := if_t q10 hf
        have hf := Option.some.inj hf
        subst hf
        exact zk_retv (pc := 147) (ww := [xM M b_isKept b_size b_at b_from b_sort b_fled b_flights b_firstFlight b_bestHarms b_bestRage b_harmed b_raged, xI cy ((M 2)) 39 b_now, xI cy ((M 4)) 273 b_minds, xI cy ((M 12)) 40 b_roster, xI cy ((M 13)) 4 b_bestRow]) C hw hr hQ dX8_tryAll_147
      · replace hf := if_f q10 hf
        refine lv_aload_n (pc := 100) hx hb dX8_tryAll_100 rfl (lv_at hl 0 rfl) ?_
        refine zk_gt (pc := 101) C hw zl_X8_49 0 rfl rfl dX8_tryAll_101 ?_
        refine lv_iload_n (pc := 104) hx hb dX8_tryAll_104 rfl (lv_at hl 1 rfl) ?_
        refine lv_aload_n (pc := 105) hx hb dX8_tryAll_105 rfl (lv_at hl 0 rfl) ?_
        refine lv_iload (pc := 106) hx hb dX8_tryAll_106 (lv_at hl 4 rfl) ?_
        obtain ⟨u11, u11e, hf⟩ := bd hf
        refine zk_cV (pc := 108) (ci := 8) (q0 := 0) (rest := [.int ((1 : Int32)), .ref ((M 12))]) (st1 := [.int u11, .int ((1 : Int32)), .ref ((M 12))]) (w' := [xM M b_isKept b_size b_at b_from b_sort b_fled b_flights b_firstFlight b_bestHarms b_bestRage b_harmed b_raged, xI cy ((M 2)) 39 b_now, xI cy ((M 4)) 273 b_minds, xI cy ((M 12)) 40 b_roster, xI cy ((M 13)) 4 b_bestRow]) (mk := [none, none, none, none, none]) C hw (c_X8_orderAt l G cy tt M b_isKept b_size b_at b_from b_sort b_fled b_flights b_firstFlight b_bestHarms b_bestRage b_harmed b_raged v4 b_now _ u11e) zy_X8_orderAt zm_X8_195 rfl rfl rfl [0, 1] rfl rfl rfl rfl rfl rfl rfl rfl hl.1 ⟨rfl, rfl⟩ ⟨Nat.le_of_ble_eq_true rfl, Nat.le_of_ble_eq_true rfl⟩ rfl (Nat.le_of_ble_eq_true rfl) ⟨Nat.zero_le _, Nat.zero_le _⟩ dX8_tryAll_108 (fun H locs hw => ?_)
        refine zk_iastK (pc := 111) (w' := [xM M b_isKept b_size b_at b_from b_sort b_fled b_flights b_firstFlight b_bestHarms b_bestRage b_harmed b_raged, xI cy ((M 2)) 39 b_now, xI cy ((M 4)) 273 b_minds, xI cy ((M 12)) 40 ((upd b_roster 1 u11)), xI cy ((M 13)) 4 b_bestRow]) 1 (by decide) C hw 3 rfl (by decide) rfl dX8_tryAll_111 (fun H locs hw => ?_)
        refine lv_aload_n (pc := 112) hx hb dX8_tryAll_112 rfl (lv_at hl 0 rfl) ?_
        refine lv_aload_n (pc := 113) hx hb dX8_tryAll_113 rfl (lv_at hl 0 rfl) ?_
        refine zk_gt (pc := 114) C hw zl_X8_49 0 rfl rfl dX8_tryAll_114 ?_
        refine lv_iload_n (pc := 117) hx hb dX8_tryAll_117 rfl (lv_at hl 1 rfl) ?_
        refine zk_ialdK (pc := 118) 1 (by decide) C hw 3 rfl (by decide) dX8_tryAll_118 ?_
        obtain ⟨u12, u12e, hf⟩ := bd hf
        refine zk_cV (pc := 119) (ci := 8) (q0 := 0) (rest := []) (st1 := [.int u12.1]) (w' := [xM M b_isKept b_size b_at b_from b_sort u12.2.2 b_flights b_firstFlight b_bestHarms b_bestRage b_harmed b_raged, xI cy ((M 2)) 39 u12.2.1, xI cy ((M 4)) 273 b_minds, xI cy ((M 12)) 40 ((upd b_roster 1 u11)), xI cy ((M 13)) 4 b_bestRow]) (mk := [some (xM M b_isKept b_size b_at b_from b_sort u12.2.2 b_flights b_firstFlight b_bestHarms b_bestRage b_harmed b_raged), some (xI cy ((M 2)) 39 u12.2.1), none, none, none]) C hw (c_X8_step l G cy tt M b_isKept b_size b_at b_from b_sort b_flights b_firstFlight b_bestHarms b_bestRage b_harmed b_raged (((((upd b_roster 1 u11)) 1))) b_now b_fled _ u12e) zy_X8_step zm_X8_181 rfl rfl rfl [0, 1] rfl rfl rfl rfl rfl rfl rfl rfl hl.1 ⟨rfl, rfl⟩ ⟨Nat.le_of_ble_eq_true rfl, Nat.le_of_ble_eq_true rfl⟩ rfl (Nat.le_of_ble_eq_true rfl) ⟨Nat.zero_le _, Nat.zero_le _⟩ dX8_tryAll_119 (fun H locs hw => ?_)
        refine lv_istore (pc := 122) (lv' := [(5, .int u12.1), (0, .ref ((M 0))), (1, .int ((1 : Int32))), (2, .int v2), (3, .int v3), (4, .int v4)]) hx hb dX8_tryAll_122 hl (by decide) rfl (fun ls hl => ?_)
        refine lv_aload_n (pc := 124) hx hb dX8_tryAll_124 rfl (lv_at hl 1 rfl) ?_
        refine lv_iload_n (pc := 125) hx hb dX8_tryAll_125 rfl (lv_at hl 2 rfl) ?_
        refine lv_iconst (pc := 126) (v := 1) hx hb dX8_tryAll_126 (by decide) ?_
        refine lv_iadd (pc := 127) hx hb dX8_tryAll_127 ?_
        refine zk_eqi (v := 2) (by decide) ?_
        refine lv_iload_n (pc := 128) hx hb dX8_tryAll_128 rfl (lv_at hl 3 rfl) ?_
        refine lv_iload_n (pc := 129) hx hb dX8_tryAll_129 rfl (lv_at hl 4 rfl) ?_
        refine lv_iload (pc := 130) hx hb dX8_tryAll_130 (lv_at hl 0 rfl) ?_
        refine lv_iadd (pc := 132) hx hb dX8_tryAll_132 ?_
        obtain ⟨u13, u13e, hf⟩ := bd hf
        refine zk_cV (pc := 133) (ci := 8) (q0 := 0) (rest := []) (st1 := []) (w' := [xM M b_isKept b_size b_at b_from b_sort u13.2.2.1 b_flights b_firstFlight u13.2.2.2.2.2.1 u13.2.2.2.2.2.2 b_harmed b_raged, xI cy ((M 2)) 39 u13.1, xI cy ((M 4)) 273 u13.2.1, xI cy ((M 12)) 40 u13.2.2.2.1, xI cy ((M 13)) 4 u13.2.2.2.2.1]) (mk := [some (xM M b_isKept b_size b_at b_from b_sort u13.2.2.1 b_flights b_firstFlight u13.2.2.2.2.2.1 u13.2.2.2.2.2.2 b_harmed b_raged), some (xI cy ((M 2)) 39 u13.1), some (xI cy ((M 4)) 273 u13.2.1), some (xI cy ((M 12)) 40 u13.2.2.2.1), some (xI cy ((M 13)) 4 u13.2.2.2.2.1)]) C hw (c_X8_tryAll_l2 l G cy tt M b_isKept b_size b_at b_from b_sort b_flights b_firstFlight b_harmed b_raged v2 (((v3 + u12.1))) u12.2.1 b_minds u12.2.2 ((upd b_roster 1 u11)) b_bestRow b_bestHarms b_bestRage _ u13e) zy_X8_tryAll zm_X8_238 rfl rfl rfl [0, 1, 2, 3, 4] rfl rfl rfl rfl rfl rfl rfl rfl hl.1 ⟨rfl, rfl⟩ ⟨Nat.le_of_ble_eq_true rfl, Nat.le_of_ble_eq_true rfl⟩ rfl (Nat.le_of_ble_eq_true rfl) ⟨Nat.zero_le _, Nat.zero_le _⟩ dX8_tryAll_133 (fun H locs hw => ?_)
        refine lv_aload_n (pc := 136) hx hb dX8_tryAll_136 rfl (lv_at hl 1 rfl) ?_
        refine lv_iload_n (pc := 137) hx hb dX8_tryAll_137 rfl (lv_at hl 2 rfl) ?_
        obtain ⟨u14, u14e, hf⟩ := bd hf
        refine zk_cV (pc := 138) (ci := 8) (q0 := 0) (rest := []) (st1 := []) (w' := [xM M b_isKept b_size b_at b_from b_sort u13.2.2.1 b_flights b_firstFlight u13.2.2.2.2.2.1 u13.2.2.2.2.2.2 b_harmed b_raged, xI cy ((M 2)) 39 u14, xI cy ((M 4)) 273 u13.2.1, xI cy ((M 12)) 40 u13.2.2.2.1, xI cy ((M 13)) 4 u13.2.2.2.2.1]) (mk := [none, some (xI cy ((M 2)) 39 u14), none, none, none]) C hw (c_X8_lay l G cy tt M b_isKept b_size b_at b_from b_sort u13.2.2.1 b_flights b_firstFlight u13.2.2.2.2.2.1 u13.2.2.2.2.2.2 b_harmed b_raged (((1 : Int32))) u13.1 u13.2.1 _ u14e) zy_X8_lay zm_X8_150 rfl rfl rfl [0, 1, 2] rfl rfl rfl rfl rfl rfl rfl rfl hl.1 ⟨rfl, rfl⟩ ⟨Nat.le_of_ble_eq_true rfl, Nat.le_of_ble_eq_true rfl⟩ rfl (Nat.le_of_ble_eq_true rfl) ⟨Nat.zero_le _, Nat.zero_le _⟩ dX8_tryAll_138 (fun H locs hw => ?_)
        refine lv_iinc (pc := 141) (v := (v4 + 1)) (lv' := [(4, .int ((v4 + 1))), (5, .int u12.1), (0, .ref ((M 0))), (1, .int ((1 : Int32))), (2, .int v2), (3, .int v3)]) hx hb dX8_tryAll_141 hl (k := 5) rfl rfl (by decide) rfl (fun ls hl => ?_)
        refine lv_goto (pc := 144) (tgt := 89) hx hb dX8_tryAll_144 (by decide) ?_
        exact ih v2 v3 ((v4 + 1)) u14 u13.2.1 u13.2.2.1 u13.2.2.2.1 u13.2.2.2.2.1 u13.2.2.2.2.2.1 u13.2.2.2.2.2.2 _ _ _ hf hw (lv_sub hl [2, 3, 4, 5, 0] rfl)
  rw [zf_X8_tryAll_l1] at hf
  refine lv_iload_n (pc := 0) hx hb dX8_tryAll_0 rfl (lv_at hl 1 rfl) ?_
  refine lv_iload_n (pc := 1) hx hb dX8_tryAll_1 rfl (lv_at hl 2 rfl) ?_
  refine lv_icmp_ne (pc := 2) (tgt := 81) hx hb dX8_tryAll_2 (by decide) (fun q1 => ?_) (fun q1 => ?_)
  · replace hf := if_f q1 hf
    refine lv_aload_n (pc := 81) hx hb dX8_tryAll_81 rfl (lv_at hl 0 rfl) ?_
    refine lv_iload_n (pc := 82) hx hb dX8_tryAll_82 rfl (lv_at hl 1 rfl) ?_
    obtain ⟨u2, u2e, hf⟩ := bd hf
    refine zk_cV (pc := 83) (ci := 8) (q0 := 0) (rest := []) (st1 := []) (w' := [xM M b_isKept b_size b_at b_from b_sort b_fled b_flights b_firstFlight b_bestHarms b_bestRage b_harmed b_raged, xI cy ((M 2)) 39 b_now, xI cy ((M 4)) 273 u2, xI cy ((M 12)) 40 b_roster, xI cy ((M 13)) 4 b_bestRow]) (mk := [none, none, some (xI cy ((M 4)) 273 u2), none, none]) C hw (c_X8_keep l G cy tt M b_isKept b_size b_at b_from b_sort b_fled b_flights b_firstFlight b_bestHarms b_bestRage b_harmed b_raged (((1 : Int32))) b_now b_minds _ u2e) zy_X8_keep zm_X8_142 rfl rfl rfl [0, 1, 2] rfl rfl rfl rfl rfl rfl rfl rfl hl.1 ⟨rfl, rfl⟩ ⟨Nat.le_of_ble_eq_true rfl, Nat.le_of_ble_eq_true rfl⟩ rfl (Nat.le_of_ble_eq_true rfl) ⟨Nat.zero_le _, Nat.zero_le _⟩ dX8_tryAll_83 (fun H locs hw => ?_)
    refine lv_iconst (pc := 86) (v := 0) hx hb dX8_tryAll_86 (by decide) ?_
    refine lv_istore (pc := 87) (lv' := [(4, .int ((0 : Int32))), (0, .ref ((M 0))), (1, .int ((1 : Int32))), (2, .int x2), (3, .int x3)]) hx hb dX8_tryAll_87 hl (by decide) rfl (fun ls hl => ?_)
    exact J89 FU x2 x3 ((0 : Int32)) b_now u2 b_fled b_roster b_bestRow b_bestHarms b_bestRage _ _ _ hf hw (lv_sub hl [1, 2, 3, 4, 0] rfl)
  · replace hf := if_t q1 hf
    refine lv_iload_n (pc := 5) hx hb dX8_tryAll_5 rfl (lv_at hl 3 rfl) ?_
    refine lv_aload_n (pc := 6) hx hb dX8_tryAll_6 rfl (lv_at hl 0 rfl) ?_
    refine zk_gt (pc := 7) C hw zl_X8_232 0 rfl rfl dX8_tryAll_7 ?_
    refine lv_icmp_lt (pc := 10) (tgt := 35) hx hb dX8_tryAll_10 (by decide) (fun q3 => ?_) (fun q3 => ?_)
    · replace hf := if_t q3 hf
      exact J35 x2 x3 b_now b_minds b_fled b_roster b_bestRow b_bestHarms b_bestRage _ _ _ hf hw (lv_sub hl [0, 2, 3] rfl)
    · replace hf := if_f q3 hf
      refine lv_iload_n (pc := 13) hx hb dX8_tryAll_13 rfl (lv_at hl 3 rfl) ?_
      refine lv_aload_n (pc := 14) hx hb dX8_tryAll_14 rfl (lv_at hl 0 rfl) ?_
      refine zk_gt (pc := 15) C hw zl_X8_232 0 rfl rfl dX8_tryAll_15 ?_
      refine lv_icmp_ne (pc := 18) (tgt := 80) hx hb dX8_tryAll_18 (by decide) (fun q4 => ?_) (fun q4 => ?_)
      · replace hf := if_f q4 hf
        have hf := Option.some.inj hf
        subst hf
        exact zk_retv (pc := 80) (ww := [xM M b_isKept b_size b_at b_from b_sort b_fled b_flights b_firstFlight b_bestHarms b_bestRage b_harmed b_raged, xI cy ((M 2)) 39 b_now, xI cy ((M 4)) 273 b_minds, xI cy ((M 12)) 40 b_roster, xI cy ((M 13)) 4 b_bestRow]) C hw hr hQ dX8_tryAll_80
      · replace hf := if_t q4 hf
        refine lv_aload_n (pc := 21) hx hb dX8_tryAll_21 rfl (lv_at hl 0 rfl) ?_
        refine zk_gt (pc := 22) C hw zl_X8_17 0 rfl rfl dX8_tryAll_22 ?_
        refine lv_bipush (pc := 25) (v := 33) hx hb dX8_tryAll_25 (by decide) ?_
        refine zk_ialdK (pc := 27) 33 (by decide) C hw 1 rfl (by decide) dX8_tryAll_27 ?_
        refine lv_aload_n (pc := 28) hx hb dX8_tryAll_28 rfl (lv_at hl 0 rfl) ?_
        refine zk_gt (pc := 29) C hw zl_X8_235 0 rfl rfl dX8_tryAll_29 ?_
        refine lv_icmp_ge (pc := 32) (tgt := 80) hx hb dX8_tryAll_32 (by decide) (fun q5 => ?_) (fun q5 => ?_)
        · replace hf := if_t q5 hf
          have hf := Option.some.inj hf
          subst hf
          exact zk_retv (pc := 80) (ww := [xM M b_isKept b_size b_at b_from b_sort b_fled b_flights b_firstFlight b_bestHarms b_bestRage b_harmed b_raged, xI cy ((M 2)) 39 b_now, xI cy ((M 4)) 273 b_minds, xI cy ((M 12)) 40 b_roster, xI cy ((M 13)) 4 b_bestRow]) C hw hr hQ dX8_tryAll_80
        · replace hf := if_f q5 hf
          exact J35 x2 x3 b_now b_minds b_fled b_roster b_bestRow b_bestHarms b_bestRage _ _ _ hf hw (lv_sub hl [0, 2, 3] rfl)
def zf_X8_tryAll_l0_54 : Nat → Int32 → Int32 → (Nat → Int32) → (Nat → Int32) → Bool → (Nat → Int32) → (Nat → Int32) → Int32 → Int32 → Option ((Nat → Int32) × (Nat → Int32) × Bool × (Nat → Int32) × (Nat → Int32) × Int32 × Int32)
  | 0, _, _, _, _, _, _, _, _, _ => none
  | n + 1, v2, v4, b_now, b_minds, b_fled, b_roster, b_bestRow, b_bestHarms, b_bestRage => (if v2 ≤ v4 then some (b_now, b_minds, b_fled, b_roster, b_bestRow, b_bestHarms, b_bestRage) else (if ix v4 40 then (if ix v4 4 then zf_X8_tryAll_l0_54 n v2 ((v4 + 1)) b_now b_minds b_fled b_roster ((upd b_bestRow v4.toNatClampNeg ((b_roster v4.toNatClampNeg)))) b_bestHarms b_bestRage else none) else none))
def zf_X8_tryAll_l0_35 (v2 : Int32) (v3 : Int32) (b_now : Nat → Int32) (b_minds : Nat → Int32) (b_fled : Bool) (b_roster : Nat → Int32) (b_bestRow : Nat → Int32) (b_bestHarms : Int32) (b_bestRage : Int32) : Option ((Nat → Int32) × (Nat → Int32) × Bool × (Nat → Int32) × (Nat → Int32) × Int32 × Int32) := zf_X8_tryAll_l0_54 FU v2 ((0 : Int32)) b_now b_minds b_fled b_roster b_bestRow v3 ((b_now 33))
def zf_X8_tryAll_l0_89 : Nat → Int32 → Int32 → Int32 → (Nat → Int32) → (Nat → Int32) → Bool → (Nat → Int32) → (Nat → Int32) → Int32 → Int32 → Option ((Nat → Int32) × (Nat → Int32) × Bool × (Nat → Int32) × (Nat → Int32) × Int32 × Int32)
  | 0, _, _, _, _, _, _, _, _, _, _ => none
  | n + 1, v2, v3, v4, b_now, b_minds, b_fled, b_roster, b_bestRow, b_bestHarms, b_bestRage => (Option.bind (zf_X8_many b_now) (fun u9 => (if (u9 + (2 : Int32)) ≤ v4 then some (b_now, b_minds, b_fled, b_roster, b_bestRow, b_bestHarms, b_bestRage) else (Option.bind (zf_X8_orderAt v4 b_now) (fun u11 => (Option.bind (zf_X8_step (((((upd b_roster 0 u11)) 0))) b_now b_fled) (fun u12 => (Option.bind (zf_X8_tryAll_l1 v2 (((v3 + u12.1))) u12.2.1 b_minds u12.2.2 ((upd b_roster 0 u11)) b_bestRow b_bestHarms b_bestRage) (fun u13 => (Option.bind (zf_X8_lay (((0 : Int32))) u13.1 u13.2.1) (fun u14 => zf_X8_tryAll_l0_89 n v2 v3 ((v4 + 1)) u14 u13.2.1 u13.2.2.1 u13.2.2.2.1 u13.2.2.2.2.1 u13.2.2.2.2.2.1 u13.2.2.2.2.2.2)))))))))))
def zf_X8_tryAll_l0 (x2 : Int32) (x3 : Int32) (b_now : Nat → Int32) (b_minds : Nat → Int32) (b_fled : Bool) (b_roster : Nat → Int32) (b_bestRow : Nat → Int32) (b_bestHarms : Int32) (b_bestRage : Int32) : Option ((Nat → Int32) × (Nat → Int32) × Bool × (Nat → Int32) × (Nat → Int32) × Int32 × Int32) := (if (0 : Int32) = x2 then (if x3 < b_bestHarms then zf_X8_tryAll_l0_35 x2 x3 b_now b_minds b_fled b_roster b_bestRow b_bestHarms b_bestRage else (if x3 = b_bestHarms then (if b_bestRage ≤ (b_now 33) then some (b_now, b_minds, b_fled, b_roster, b_bestRow, b_bestHarms, b_bestRage) else zf_X8_tryAll_l0_35 x2 x3 b_now b_minds b_fled b_roster b_bestRow b_bestHarms b_bestRage) else some (b_now, b_minds, b_fled, b_roster, b_bestRow, b_bestHarms, b_bestRage))) else (Option.bind (zf_X8_keep (((0 : Int32))) b_now b_minds) (fun u2 => zf_X8_tryAll_l0_89 FU x2 x3 ((0 : Int32)) b_now u2 b_fled b_roster b_bestRow b_bestHarms b_bestRage)))
abbrev zr_X8_tryAll_l0 : Room := { frames := 7, cells := 0, slots := 0, locals := 165 }
set_option maxHeartbeats 4000000 in
set_option maxRecDepth 100000 in
theorem c_X8_tryAll_l0 (l : Launch) (G : va_G) (cy : Nat → ClassId) (tt : Nat → Nat) (M : Nat → Nat) (b_isKept : Bool) (b_size : Int32) (b_at : Int32) (b_from : Int32) (b_sort : Int32) (b_flights : Int32) (b_firstFlight : Int32) (b_harmed : Int64) (b_raged : Int64) (x2 : Int32) (x3 : Int32) (b_now : Nat → Int32) (b_minds : Nat → Int32) (b_fled : Bool) (b_roster : Nat → Int32) (b_bestRow : Nat → Int32) (b_bestHarms : Int32) (b_bestRage : Int32) (res : (Nat → Int32) × (Nat → Int32) × Bool × (Nat → Int32) × (Nat → Int32) × Int32 × Int32) (hf : zf_X8_tryAll_l0 x2 x3 b_now b_minds b_fled b_roster b_bestRow b_bestHarms b_bestRage = some res) : zCT l yX8_tryAll cX8_tryAll 6 none zr_X8_tryAll_l0 G cy tt [.ref ((M 0)), .int ((0 : Int32)), .int x2, .int x3] [xM M b_isKept b_size b_at b_from b_sort b_fled b_flights b_firstFlight b_bestHarms b_bestRage b_harmed b_raged, xI cy ((M 2)) 39 b_now, xI cy ((M 4)) 273 b_minds, xI cy ((M 12)) 40 b_roster, xI cy ((M 13)) 4 b_bestRow] none [xM M b_isKept b_size b_at b_from b_sort res.2.2.1 b_flights b_firstFlight res.2.2.2.2.2.1 res.2.2.2.2.2.2 b_harmed b_raged, xI cy ((M 2)) 39 res.1, xI cy ((M 4)) 273 res.2.1, xI cy ((M 12)) 40 res.2.2.2.1, xI cy ((M 13)) 4 res.2.2.2.2.1] := by
  refine zk_start zn_X8 (Nat.le_of_ble_eq_true rfl) ?_
  intro p e s m args below meth c A ls Q C hr hQ hw hl
  have C : zCx p m c s args meth cX8_tryAll 6 RX8 G cy tt A := C
  have hx := C.1.1
  have hb := C.1.2.1
  have hl : lv_has ls 6 [(0, .ref ((M 0))), (1, .int ((0 : Int32))), (2, .int x2), (3, .int x3)] := hl
  have J54 : ∀ (n : Nat), ∀ (v2 : Int32) (v4 : Int32) (b_now : Nat → Int32) (b_minds : Nat → Int32) (b_fled : Bool) (b_roster : Nat → Int32) (b_bestRow : Nat → Int32) (b_bestHarms : Int32) (b_bestRage : Int32) (H : Heap) (locs : List Loc) (ls : Array Slot), zf_X8_tryAll_l0_54 n v2 v4 b_now b_minds b_fled b_roster b_bestRow b_bestHarms b_bestRage = some res → zWd G A s.heap H locs [xM M b_isKept b_size b_at b_from b_sort b_fled b_flights b_firstFlight b_bestHarms b_bestRage b_harmed b_raged, xI cy ((M 2)) 39 b_now, xI cy ((M 4)) 273 b_minds, xI cy ((M 12)) 40 b_roster, xI cy ((M 13)) 4 b_bestRow] → lv_has ls 6 [(0, .ref ((M 0))), (2, .int v2), (4, .int v4)] → W p l e zr_X8_tryAll_l0 s m args below meth c H locs 0 0 Q (F0 m 54 ls []) := by
    intro n
    induction n with
    | zero =>
      intro v2 v4 b_now b_minds b_fled b_roster b_bestRow b_bestHarms b_bestRage H locs ls hf hw hl
      rw [zf_X8_tryAll_l0_54] at hf
      cases hf
    | succ n ih =>
      intro v2 v4 b_now b_minds b_fled b_roster b_bestRow b_bestHarms b_bestRage H locs ls hf hw hl
      rw [zf_X8_tryAll_l0_54] at hf
      refine lv_iload (pc := 54) hx hb dX8_tryAll_54 (lv_at hl 2 rfl) ?_
      refine lv_iload_n (pc := 56) hx hb dX8_tryAll_56 rfl (lv_at hl 1 rfl) ?_
      refine lv_icmp_ge (pc := 57) (tgt := 80) hx hb dX8_tryAll_57 (by decide) (fun q6 => ?_) (fun q6 => ?_)
      · replace hf := if_t q6 hf
        have hf := Option.some.inj hf
        subst hf
        exact zk_retv (pc := 80) (ww := [xM M b_isKept b_size b_at b_from b_sort b_fled b_flights b_firstFlight b_bestHarms b_bestRage b_harmed b_raged, xI cy ((M 2)) 39 b_now, xI cy ((M 4)) 273 b_minds, xI cy ((M 12)) 40 b_roster, xI cy ((M 13)) 4 b_bestRow]) C hw hr hQ dX8_tryAll_80
      · replace hf := if_f q6 hf
        refine lv_aload_n (pc := 60) hx hb dX8_tryAll_60 rfl (lv_at hl 0 rfl) ?_
        refine zk_gt (pc := 61) C hw zl_X8_52 0 rfl rfl dX8_tryAll_61 ?_
        refine lv_iload (pc := 64) hx hb dX8_tryAll_64 (lv_at hl 2 rfl) ?_
        refine lv_aload_n (pc := 66) hx hb dX8_tryAll_66 rfl (lv_at hl 0 rfl) ?_
        refine zk_gt (pc := 67) C hw zl_X8_49 0 rfl rfl dX8_tryAll_67 ?_
        refine lv_iload (pc := 70) hx hb dX8_tryAll_70 (lv_at hl 2 rfl) ?_
        obtain ⟨q7, hf⟩ := ck hf
        refine zk_iald (pc := 72) C hw 3 rfl q7 dX8_tryAll_72 ?_
        obtain ⟨q8, hf⟩ := ck hf
        refine zk_iast (pc := 73) (w' := [xM M b_isKept b_size b_at b_from b_sort b_fled b_flights b_firstFlight b_bestHarms b_bestRage b_harmed b_raged, xI cy ((M 2)) 39 b_now, xI cy ((M 4)) 273 b_minds, xI cy ((M 12)) 40 b_roster, xI cy ((M 13)) 4 ((upd b_bestRow v4.toNatClampNeg ((b_roster v4.toNatClampNeg))))]) C hw 4 rfl q8 rfl dX8_tryAll_73 (fun H locs hw => ?_)
        refine lv_iinc (pc := 74) (v := (v4 + 1)) (lv' := [(4, .int ((v4 + 1))), (0, .ref ((M 0))), (2, .int v2)]) hx hb dX8_tryAll_74 hl (k := 2) rfl rfl (by decide) rfl (fun ls hl => ?_)
        refine lv_goto (pc := 77) (tgt := 54) hx hb dX8_tryAll_77 (by decide) ?_
        exact ih v2 ((v4 + 1)) b_now b_minds b_fled b_roster ((upd b_bestRow v4.toNatClampNeg ((b_roster v4.toNatClampNeg)))) b_bestHarms b_bestRage _ _ _ hf hw (lv_sub hl [1, 2, 0] rfl)
  have J35 : ∀ (v2 : Int32) (v3 : Int32) (b_now : Nat → Int32) (b_minds : Nat → Int32) (b_fled : Bool) (b_roster : Nat → Int32) (b_bestRow : Nat → Int32) (b_bestHarms : Int32) (b_bestRage : Int32) (H : Heap) (locs : List Loc) (ls : Array Slot), zf_X8_tryAll_l0_35 v2 v3 b_now b_minds b_fled b_roster b_bestRow b_bestHarms b_bestRage = some res → zWd G A s.heap H locs [xM M b_isKept b_size b_at b_from b_sort b_fled b_flights b_firstFlight b_bestHarms b_bestRage b_harmed b_raged, xI cy ((M 2)) 39 b_now, xI cy ((M 4)) 273 b_minds, xI cy ((M 12)) 40 b_roster, xI cy ((M 13)) 4 b_bestRow] → lv_has ls 6 [(0, .ref ((M 0))), (2, .int v2), (3, .int v3)] → W p l e zr_X8_tryAll_l0 s m args below meth c H locs 0 0 Q (F0 m 35 ls []) := by
    intro v2 v3 b_now b_minds b_fled b_roster b_bestRow b_bestHarms b_bestRage H locs ls hf hw hl
    rw [zf_X8_tryAll_l0_35] at hf
    refine lv_aload_n (pc := 35) hx hb dX8_tryAll_35 rfl (lv_at hl 0 rfl) ?_
    refine lv_iload_n (pc := 36) hx hb dX8_tryAll_36 rfl (lv_at hl 2 rfl) ?_
    refine zk_put (pc := 37) (w' := [xM M b_isKept b_size b_at b_from b_sort b_fled b_flights b_firstFlight v3 b_bestRage b_harmed b_raged, xI cy ((M 2)) 39 b_now, xI cy ((M 4)) 273 b_minds, xI cy ((M 12)) 40 b_roster, xI cy ((M 13)) 4 b_bestRow]) C hw zp_X8_232 0 rfl rfl rfl (Nat.le_of_ble_eq_true rfl) rfl dX8_tryAll_37 (fun H locs hw => ?_)
    refine lv_aload_n (pc := 40) hx hb dX8_tryAll_40 rfl (lv_at hl 0 rfl) ?_
    refine lv_aload_n (pc := 41) hx hb dX8_tryAll_41 rfl (lv_at hl 0 rfl) ?_
    refine zk_gt (pc := 42) C hw zl_X8_17 0 rfl rfl dX8_tryAll_42 ?_
    refine lv_bipush (pc := 45) (v := 33) hx hb dX8_tryAll_45 (by decide) ?_
    refine zk_ialdK (pc := 47) 33 (by decide) C hw 1 rfl (by decide) dX8_tryAll_47 ?_
    refine zk_put (pc := 48) (w' := [xM M b_isKept b_size b_at b_from b_sort b_fled b_flights b_firstFlight v3 ((b_now 33)) b_harmed b_raged, xI cy ((M 2)) 39 b_now, xI cy ((M 4)) 273 b_minds, xI cy ((M 12)) 40 b_roster, xI cy ((M 13)) 4 b_bestRow]) C hw zp_X8_235 0 rfl rfl rfl (Nat.le_of_ble_eq_true rfl) rfl dX8_tryAll_48 (fun H locs hw => ?_)
    refine lv_iconst (pc := 51) (v := 0) hx hb dX8_tryAll_51 (by decide) ?_
    refine lv_istore (pc := 52) (lv' := [(4, .int ((0 : Int32))), (0, .ref ((M 0))), (2, .int v2), (3, .int v3)]) hx hb dX8_tryAll_52 hl (by decide) rfl (fun ls hl => ?_)
    exact J54 FU v2 ((0 : Int32)) b_now b_minds b_fled b_roster b_bestRow v3 ((b_now 33)) _ _ _ hf hw (lv_sub hl [1, 2, 0] rfl)
  have J89 : ∀ (n : Nat), ∀ (v2 : Int32) (v3 : Int32) (v4 : Int32) (b_now : Nat → Int32) (b_minds : Nat → Int32) (b_fled : Bool) (b_roster : Nat → Int32) (b_bestRow : Nat → Int32) (b_bestHarms : Int32) (b_bestRage : Int32) (H : Heap) (locs : List Loc) (ls : Array Slot), zf_X8_tryAll_l0_89 n v2 v3 v4 b_now b_minds b_fled b_roster b_bestRow b_bestHarms b_bestRage = some res → zWd G A s.heap H locs [xM M b_isKept b_size b_at b_from b_sort b_fled b_flights b_firstFlight b_bestHarms b_bestRage b_harmed b_raged, xI cy ((M 2)) 39 b_now, xI cy ((M 4)) 273 b_minds, xI cy ((M 12)) 40 b_roster, xI cy ((M 13)) 4 b_bestRow] → lv_has ls 6 [(0, .ref ((M 0))), (1, .int ((0 : Int32))), (2, .int v2), (3, .int v3), (4, .int v4)] → W p l e zr_X8_tryAll_l0 s m args below meth c H locs 0 0 Q (F0 m 89 ls []) := by
    intro n
    induction n with
    | zero =>
      intro v2 v3 v4 b_now b_minds b_fled b_roster b_bestRow b_bestHarms b_bestRage H locs ls hf hw hl
      rw [zf_X8_tryAll_l0_89] at hf
      cases hf
    | succ n ih =>
      intro v2 v3 v4 b_now b_minds b_fled b_roster b_bestRow b_bestHarms b_bestRage H locs ls hf hw hl
      rw [zf_X8_tryAll_l0_89] at hf
      refine lv_iload (pc := 89) hx hb dX8_tryAll_89 (lv_at hl 4 rfl) ?_
      refine lv_aload_n (pc := 91) hx hb dX8_tryAll_91 rfl (lv_at hl 0 rfl) ?_
      obtain ⟨u9, u9e, hf⟩ := bd hf
      refine zk_cV (pc := 92) (ci := 8) (q0 := 0) (rest := [.int v4]) (st1 := [.int u9, .int v4]) (w' := [xM M b_isKept b_size b_at b_from b_sort b_fled b_flights b_firstFlight b_bestHarms b_bestRage b_harmed b_raged, xI cy ((M 2)) 39 b_now, xI cy ((M 4)) 273 b_minds, xI cy ((M 12)) 40 b_roster, xI cy ((M 13)) 4 b_bestRow]) (mk := [none, none, none, none, none]) C hw (c_X8_many l G cy tt M b_isKept b_size b_at b_from b_sort b_fled b_flights b_firstFlight b_bestHarms b_bestRage b_harmed b_raged b_now _ u9e) zy_X8_many zm_X8_80 rfl rfl rfl [0, 1] rfl rfl rfl rfl rfl rfl rfl rfl hl.1 ⟨rfl, rfl⟩ ⟨Nat.le_of_ble_eq_true rfl, Nat.le_of_ble_eq_true rfl⟩ rfl (Nat.le_of_ble_eq_true rfl) ⟨Nat.zero_le _, Nat.zero_le _⟩ dX8_tryAll_92 (fun H locs hw => ?_)
      refine lv_iconst (pc := 95) (v := 2) hx hb dX8_tryAll_95 (by decide) ?_
      refine lv_iadd (pc := 96) hx hb dX8_tryAll_96 ?_
      refine lv_icmp_ge (pc := 97) (tgt := 147) hx hb dX8_tryAll_97 (by decide) (fun q10 => ?_) (fun q10 => ?_)
      · replace hf := if_t q10 hf
        have hf := Option.some.inj hf
        subst hf
        exact zk_retv (pc := 147) (ww := [xM M b_isKept b_size b_at b_from b_sort b_fled b_flights b_firstFlight b_bestHarms b_bestRage b_harmed b_raged, xI cy ((M 2)) 39 b_now, xI cy ((M 4)) 273 b_minds, xI cy ((M 12)) 40 b_roster, xI cy ((M 13)) 4 b_bestRow]) C hw hr hQ dX8_tryAll_147
      · replace hf := if_f q10 hf
        refine lv_aload_n (pc := 100) hx hb dX8_tryAll_100 rfl (lv_at hl 0 rfl) ?_
        refine zk_gt (pc := 101) C hw zl_X8_49 0 rfl rfl dX8_tryAll_101 ?_
        refine lv_iload_n (pc := 104) hx hb dX8_tryAll_104 rfl (lv_at hl 1 rfl) ?_
        refine lv_aload_n (pc := 105) hx hb dX8_tryAll_105 rfl (lv_at hl 0 rfl) ?_
        refine lv_iload (pc := 106) hx hb dX8_tryAll_106 (lv_at hl 4 rfl) ?_
        obtain ⟨u11, u11e, hf⟩ := bd hf
        refine zk_cV (pc := 108) (ci := 8) (q0 := 0) (rest := [.int ((0 : Int32)), .ref ((M 12))]) (st1 := [.int u11, .int ((0 : Int32)), .ref ((M 12))]) (w' := [xM M b_isKept b_size b_at b_from b_sort b_fled b_flights b_firstFlight b_bestHarms b_bestRage b_harmed b_raged, xI cy ((M 2)) 39 b_now, xI cy ((M 4)) 273 b_minds, xI cy ((M 12)) 40 b_roster, xI cy ((M 13)) 4 b_bestRow]) (mk := [none, none, none, none, none]) C hw (c_X8_orderAt l G cy tt M b_isKept b_size b_at b_from b_sort b_fled b_flights b_firstFlight b_bestHarms b_bestRage b_harmed b_raged v4 b_now _ u11e) zy_X8_orderAt zm_X8_195 rfl rfl rfl [0, 1] rfl rfl rfl rfl rfl rfl rfl rfl hl.1 ⟨rfl, rfl⟩ ⟨Nat.le_of_ble_eq_true rfl, Nat.le_of_ble_eq_true rfl⟩ rfl (Nat.le_of_ble_eq_true rfl) ⟨Nat.zero_le _, Nat.zero_le _⟩ dX8_tryAll_108 (fun H locs hw => ?_)
        refine zk_iastK (pc := 111) (w' := [xM M b_isKept b_size b_at b_from b_sort b_fled b_flights b_firstFlight b_bestHarms b_bestRage b_harmed b_raged, xI cy ((M 2)) 39 b_now, xI cy ((M 4)) 273 b_minds, xI cy ((M 12)) 40 ((upd b_roster 0 u11)), xI cy ((M 13)) 4 b_bestRow]) 0 (by decide) C hw 3 rfl (by decide) rfl dX8_tryAll_111 (fun H locs hw => ?_)
        refine lv_aload_n (pc := 112) hx hb dX8_tryAll_112 rfl (lv_at hl 0 rfl) ?_
        refine lv_aload_n (pc := 113) hx hb dX8_tryAll_113 rfl (lv_at hl 0 rfl) ?_
        refine zk_gt (pc := 114) C hw zl_X8_49 0 rfl rfl dX8_tryAll_114 ?_
        refine lv_iload_n (pc := 117) hx hb dX8_tryAll_117 rfl (lv_at hl 1 rfl) ?_
        refine zk_ialdK (pc := 118) 0 (by decide) C hw 3 rfl (by decide) dX8_tryAll_118 ?_
        obtain ⟨u12, u12e, hf⟩ := bd hf
        refine zk_cV (pc := 119) (ci := 8) (q0 := 0) (rest := []) (st1 := [.int u12.1]) (w' := [xM M b_isKept b_size b_at b_from b_sort u12.2.2 b_flights b_firstFlight b_bestHarms b_bestRage b_harmed b_raged, xI cy ((M 2)) 39 u12.2.1, xI cy ((M 4)) 273 b_minds, xI cy ((M 12)) 40 ((upd b_roster 0 u11)), xI cy ((M 13)) 4 b_bestRow]) (mk := [some (xM M b_isKept b_size b_at b_from b_sort u12.2.2 b_flights b_firstFlight b_bestHarms b_bestRage b_harmed b_raged), some (xI cy ((M 2)) 39 u12.2.1), none, none, none]) C hw (c_X8_step l G cy tt M b_isKept b_size b_at b_from b_sort b_flights b_firstFlight b_bestHarms b_bestRage b_harmed b_raged (((((upd b_roster 0 u11)) 0))) b_now b_fled _ u12e) zy_X8_step zm_X8_181 rfl rfl rfl [0, 1] rfl rfl rfl rfl rfl rfl rfl rfl hl.1 ⟨rfl, rfl⟩ ⟨Nat.le_of_ble_eq_true rfl, Nat.le_of_ble_eq_true rfl⟩ rfl (Nat.le_of_ble_eq_true rfl) ⟨Nat.zero_le _, Nat.zero_le _⟩ dX8_tryAll_119 (fun H locs hw => ?_)
        refine lv_istore (pc := 122) (lv' := [(5, .int u12.1), (0, .ref ((M 0))), (1, .int ((0 : Int32))), (2, .int v2), (3, .int v3), (4, .int v4)]) hx hb dX8_tryAll_122 hl (by decide) rfl (fun ls hl => ?_)
        refine lv_aload_n (pc := 124) hx hb dX8_tryAll_124 rfl (lv_at hl 1 rfl) ?_
        refine lv_iload_n (pc := 125) hx hb dX8_tryAll_125 rfl (lv_at hl 2 rfl) ?_
        refine lv_iconst (pc := 126) (v := 1) hx hb dX8_tryAll_126 (by decide) ?_
        refine lv_iadd (pc := 127) hx hb dX8_tryAll_127 ?_
        refine zk_eqi (v := 1) (by decide) ?_
        refine lv_iload_n (pc := 128) hx hb dX8_tryAll_128 rfl (lv_at hl 3 rfl) ?_
        refine lv_iload_n (pc := 129) hx hb dX8_tryAll_129 rfl (lv_at hl 4 rfl) ?_
        refine lv_iload (pc := 130) hx hb dX8_tryAll_130 (lv_at hl 0 rfl) ?_
        refine lv_iadd (pc := 132) hx hb dX8_tryAll_132 ?_
        obtain ⟨u13, u13e, hf⟩ := bd hf
        refine zk_cV (pc := 133) (ci := 8) (q0 := 0) (rest := []) (st1 := []) (w' := [xM M b_isKept b_size b_at b_from b_sort u13.2.2.1 b_flights b_firstFlight u13.2.2.2.2.2.1 u13.2.2.2.2.2.2 b_harmed b_raged, xI cy ((M 2)) 39 u13.1, xI cy ((M 4)) 273 u13.2.1, xI cy ((M 12)) 40 u13.2.2.2.1, xI cy ((M 13)) 4 u13.2.2.2.2.1]) (mk := [some (xM M b_isKept b_size b_at b_from b_sort u13.2.2.1 b_flights b_firstFlight u13.2.2.2.2.2.1 u13.2.2.2.2.2.2 b_harmed b_raged), some (xI cy ((M 2)) 39 u13.1), some (xI cy ((M 4)) 273 u13.2.1), some (xI cy ((M 12)) 40 u13.2.2.2.1), some (xI cy ((M 13)) 4 u13.2.2.2.2.1)]) C hw (c_X8_tryAll_l1 l G cy tt M b_isKept b_size b_at b_from b_sort b_flights b_firstFlight b_harmed b_raged v2 (((v3 + u12.1))) u12.2.1 b_minds u12.2.2 ((upd b_roster 0 u11)) b_bestRow b_bestHarms b_bestRage _ u13e) zy_X8_tryAll zm_X8_238 rfl rfl rfl [0, 1, 2, 3, 4] rfl rfl rfl rfl rfl rfl rfl rfl hl.1 ⟨rfl, rfl⟩ ⟨Nat.le_of_ble_eq_true rfl, Nat.le_of_ble_eq_true rfl⟩ rfl (Nat.le_of_ble_eq_true rfl) ⟨Nat.zero_le _, Nat.zero_le _⟩ dX8_tryAll_133 (fun H locs hw => ?_)
        refine lv_aload_n (pc := 136) hx hb dX8_tryAll_136 rfl (lv_at hl 1 rfl) ?_
        refine lv_iload_n (pc := 137) hx hb dX8_tryAll_137 rfl (lv_at hl 2 rfl) ?_
        obtain ⟨u14, u14e, hf⟩ := bd hf
        refine zk_cV (pc := 138) (ci := 8) (q0 := 0) (rest := []) (st1 := []) (w' := [xM M b_isKept b_size b_at b_from b_sort u13.2.2.1 b_flights b_firstFlight u13.2.2.2.2.2.1 u13.2.2.2.2.2.2 b_harmed b_raged, xI cy ((M 2)) 39 u14, xI cy ((M 4)) 273 u13.2.1, xI cy ((M 12)) 40 u13.2.2.2.1, xI cy ((M 13)) 4 u13.2.2.2.2.1]) (mk := [none, some (xI cy ((M 2)) 39 u14), none, none, none]) C hw (c_X8_lay l G cy tt M b_isKept b_size b_at b_from b_sort u13.2.2.1 b_flights b_firstFlight u13.2.2.2.2.2.1 u13.2.2.2.2.2.2 b_harmed b_raged (((0 : Int32))) u13.1 u13.2.1 _ u14e) zy_X8_lay zm_X8_150 rfl rfl rfl [0, 1, 2] rfl rfl rfl rfl rfl rfl rfl rfl hl.1 ⟨rfl, rfl⟩ ⟨Nat.le_of_ble_eq_true rfl, Nat.le_of_ble_eq_true rfl⟩ rfl (Nat.le_of_ble_eq_true rfl) ⟨Nat.zero_le _, Nat.zero_le _⟩ dX8_tryAll_138 (fun H locs hw => ?_)
        refine lv_iinc (pc := 141) (v := (v4 + 1)) (lv' := [(4, .int ((v4 + 1))), (5, .int u12.1), (0, .ref ((M 0))), (1, .int ((0 : Int32))), (2, .int v2), (3, .int v3)]) hx hb dX8_tryAll_141 hl (k := 5) rfl rfl (by decide) rfl (fun ls hl => ?_)
        refine lv_goto (pc := 144) (tgt := 89) hx hb dX8_tryAll_144 (by decide) ?_
        exact ih v2 v3 ((v4 + 1)) u14 u13.2.1 u13.2.2.1 u13.2.2.2.1 u13.2.2.2.2.1 u13.2.2.2.2.2.1 u13.2.2.2.2.2.2 _ _ _ hf hw (lv_sub hl [2, 3, 4, 5, 0] rfl)
  rw [zf_X8_tryAll_l0] at hf
  refine lv_iload_n (pc := 0) hx hb dX8_tryAll_0 rfl (lv_at hl 1 rfl) ?_
  refine lv_iload_n (pc := 1) hx hb dX8_tryAll_1 rfl (lv_at hl 2 rfl) ?_
  refine lv_icmp_ne (pc := 2) (tgt := 81) hx hb dX8_tryAll_2 (by decide) (fun q1 => ?_) (fun q1 => ?_)
  · replace hf := if_f q1 hf
    refine lv_aload_n (pc := 81) hx hb dX8_tryAll_81 rfl (lv_at hl 0 rfl) ?_
    refine lv_iload_n (pc := 82) hx hb dX8_tryAll_82 rfl (lv_at hl 1 rfl) ?_
    obtain ⟨u2, u2e, hf⟩ := bd hf
    refine zk_cV (pc := 83) (ci := 8) (q0 := 0) (rest := []) (st1 := []) (w' := [xM M b_isKept b_size b_at b_from b_sort b_fled b_flights b_firstFlight b_bestHarms b_bestRage b_harmed b_raged, xI cy ((M 2)) 39 b_now, xI cy ((M 4)) 273 u2, xI cy ((M 12)) 40 b_roster, xI cy ((M 13)) 4 b_bestRow]) (mk := [none, none, some (xI cy ((M 4)) 273 u2), none, none]) C hw (c_X8_keep l G cy tt M b_isKept b_size b_at b_from b_sort b_fled b_flights b_firstFlight b_bestHarms b_bestRage b_harmed b_raged (((0 : Int32))) b_now b_minds _ u2e) zy_X8_keep zm_X8_142 rfl rfl rfl [0, 1, 2] rfl rfl rfl rfl rfl rfl rfl rfl hl.1 ⟨rfl, rfl⟩ ⟨Nat.le_of_ble_eq_true rfl, Nat.le_of_ble_eq_true rfl⟩ rfl (Nat.le_of_ble_eq_true rfl) ⟨Nat.zero_le _, Nat.zero_le _⟩ dX8_tryAll_83 (fun H locs hw => ?_)
    refine lv_iconst (pc := 86) (v := 0) hx hb dX8_tryAll_86 (by decide) ?_
    refine lv_istore (pc := 87) (lv' := [(4, .int ((0 : Int32))), (0, .ref ((M 0))), (1, .int ((0 : Int32))), (2, .int x2), (3, .int x3)]) hx hb dX8_tryAll_87 hl (by decide) rfl (fun ls hl => ?_)
    exact J89 FU x2 x3 ((0 : Int32)) b_now u2 b_fled b_roster b_bestRow b_bestHarms b_bestRage _ _ _ hf hw (lv_sub hl [1, 2, 3, 4, 0] rfl)
  · replace hf := if_t q1 hf
    refine lv_iload_n (pc := 5) hx hb dX8_tryAll_5 rfl (lv_at hl 3 rfl) ?_
    refine lv_aload_n (pc := 6) hx hb dX8_tryAll_6 rfl (lv_at hl 0 rfl) ?_
    refine zk_gt (pc := 7) C hw zl_X8_232 0 rfl rfl dX8_tryAll_7 ?_
    refine lv_icmp_lt (pc := 10) (tgt := 35) hx hb dX8_tryAll_10 (by decide) (fun q3 => ?_) (fun q3 => ?_)
    · replace hf := if_t q3 hf
      exact J35 x2 x3 b_now b_minds b_fled b_roster b_bestRow b_bestHarms b_bestRage _ _ _ hf hw (lv_sub hl [0, 2, 3] rfl)
    · replace hf := if_f q3 hf
      refine lv_iload_n (pc := 13) hx hb dX8_tryAll_13 rfl (lv_at hl 3 rfl) ?_
      refine lv_aload_n (pc := 14) hx hb dX8_tryAll_14 rfl (lv_at hl 0 rfl) ?_
      refine zk_gt (pc := 15) C hw zl_X8_232 0 rfl rfl dX8_tryAll_15 ?_
      refine lv_icmp_ne (pc := 18) (tgt := 80) hx hb dX8_tryAll_18 (by decide) (fun q4 => ?_) (fun q4 => ?_)
      · replace hf := if_f q4 hf
        have hf := Option.some.inj hf
        subst hf
        exact zk_retv (pc := 80) (ww := [xM M b_isKept b_size b_at b_from b_sort b_fled b_flights b_firstFlight b_bestHarms b_bestRage b_harmed b_raged, xI cy ((M 2)) 39 b_now, xI cy ((M 4)) 273 b_minds, xI cy ((M 12)) 40 b_roster, xI cy ((M 13)) 4 b_bestRow]) C hw hr hQ dX8_tryAll_80
      · replace hf := if_t q4 hf
        refine lv_aload_n (pc := 21) hx hb dX8_tryAll_21 rfl (lv_at hl 0 rfl) ?_
        refine zk_gt (pc := 22) C hw zl_X8_17 0 rfl rfl dX8_tryAll_22 ?_
        refine lv_bipush (pc := 25) (v := 33) hx hb dX8_tryAll_25 (by decide) ?_
        refine zk_ialdK (pc := 27) 33 (by decide) C hw 1 rfl (by decide) dX8_tryAll_27 ?_
        refine lv_aload_n (pc := 28) hx hb dX8_tryAll_28 rfl (lv_at hl 0 rfl) ?_
        refine zk_gt (pc := 29) C hw zl_X8_235 0 rfl rfl dX8_tryAll_29 ?_
        refine lv_icmp_ge (pc := 32) (tgt := 80) hx hb dX8_tryAll_32 (by decide) (fun q5 => ?_) (fun q5 => ?_)
        · replace hf := if_t q5 hf
          have hf := Option.some.inj hf
          subst hf
          exact zk_retv (pc := 80) (ww := [xM M b_isKept b_size b_at b_from b_sort b_fled b_flights b_firstFlight b_bestHarms b_bestRage b_harmed b_raged, xI cy ((M 2)) 39 b_now, xI cy ((M 4)) 273 b_minds, xI cy ((M 12)) 40 b_roster, xI cy ((M 13)) 4 b_bestRow]) C hw hr hQ dX8_tryAll_80
        · replace hf := if_f q5 hf
          exact J35 x2 x3 b_now b_minds b_fled b_roster b_bestRow b_bestHarms b_bestRage _ _ _ hf hw (lv_sub hl [0, 2, 3] rfl)
def zf_X8_best_27 (b_refused : Nat → Int32) (b_now : Nat → Int32) (b_minds : Nat → Int32) (b_fled : Bool) (b_roster : Nat → Int32) (b_bestRow : Nat → Int32) (b_bestHarms : Int32) (b_bestRage : Int32) : Option (Int32 × (Nat → Int32) × (Nat → Int32) × (Nat → Int32) × Bool × (Nat → Int32) × (Nat → Int32) × Int32 × Int32) := (Option.bind (zf_X8_refuse (((-2 : Int32))) b_refused) (fun u9 => some (u9.1, u9.2, b_now, b_minds, b_fled, b_roster, b_bestRow, b_bestHarms, b_bestRage)))
def zf_X8_best (x1 : Int32) (x2 : Int32) (b_refused : Nat → Int32) (b_now : Nat → Int32) (b_minds : Nat → Int32) (b_fled : Bool) (b_roster : Nat → Int32) (b_bestRow : Nat → Int32) (b_bestHarms : Int32) (b_bestRage : Int32) : Option (Int32 × (Nat → Int32) × (Nat → Int32) × (Nat → Int32) × Bool × (Nat → Int32) × (Nat → Int32) × Int32 × Int32) := (Option.bind (zf_X8_isIn x1.toInt64 (((1 : Int64))) (((4 : Int64)))) (fun u1 => (if u1 then (Option.bind (zf_X8_isIn x2.toInt64 (((-2 : Int64))) ((((x1 - (1 : Int32))).toInt64))) (fun u3 => (if u3 then (Option.bind (zf_X8_tryAll_l0 x1 (((0 : Int32))) b_now b_minds b_fled b_roster b_bestRow ((5 : Int32)) ((100 : Int32))) (fun u5 => (if x2 = (-2 : Int32) then some (u5.2.2.2.2.2.1, b_refused, u5.1, u5.2.1, u5.2.2.1, u5.2.2.2.1, u5.2.2.2.2.1, u5.2.2.2.2.2.1, u5.2.2.2.2.2.2) else (if x2 = (-1 : Int32) then some (u5.2.2.2.2.2.2, b_refused, u5.1, u5.2.1, u5.2.2.1, u5.2.2.2.1, u5.2.2.2.2.1, u5.2.2.2.2.2.1, u5.2.2.2.2.2.2) else (if ix x2 4 then some ((u5.2.2.2.2.1 x2.toNatClampNeg), b_refused, u5.1, u5.2.1, u5.2.2.1, u5.2.2.2.1, u5.2.2.2.2.1, u5.2.2.2.2.2.1, u5.2.2.2.2.2.2) else none))))) else zf_X8_best_27 b_refused b_now b_minds b_fled b_roster b_bestRow b_bestHarms b_bestRage))) else zf_X8_best_27 b_refused b_now b_minds b_fled b_roster b_bestRow b_bestHarms b_bestRage)))
abbrev zr_X8_best : Room := { frames := 8, cells := 0, slots := 0, locals := 190 }
set_option maxHeartbeats 4000000 in
set_option maxRecDepth 100000 in
theorem c_X8_best (l : Launch) (G : va_G) (cy : Nat → ClassId) (tt : Nat → Nat) (M : Nat → Nat) (b_isKept : Bool) (b_size : Int32) (b_at : Int32) (b_from : Int32) (b_sort : Int32) (b_flights : Int32) (b_firstFlight : Int32) (b_harmed : Int64) (b_raged : Int64) (x1 : Int32) (x2 : Int32) (b_refused : Nat → Int32) (b_now : Nat → Int32) (b_minds : Nat → Int32) (b_fled : Bool) (b_roster : Nat → Int32) (b_bestRow : Nat → Int32) (b_bestHarms : Int32) (b_bestRage : Int32) (res : Int32 × (Nat → Int32) × (Nat → Int32) × (Nat → Int32) × Bool × (Nat → Int32) × (Nat → Int32) × Int32 × Int32) (hf : zf_X8_best x1 x2 b_refused b_now b_minds b_fled b_roster b_bestRow b_bestHarms b_bestRage = some res) : zCT l yX8_best cX8_best 3 (some .int) zr_X8_best G cy tt [.ref ((M 0)), .int x1, .int x2] [xM M b_isKept b_size b_at b_from b_sort b_fled b_flights b_firstFlight b_bestHarms b_bestRage b_harmed b_raged, xI cy ((M 1)) 7 b_refused, xI cy ((M 2)) 39 b_now, xI cy ((M 4)) 273 b_minds, xI cy ((M 12)) 40 b_roster, xI cy ((M 13)) 4 b_bestRow] (some (.int res.1)) [xM M b_isKept b_size b_at b_from b_sort res.2.2.2.2.1 b_flights b_firstFlight res.2.2.2.2.2.2.2.1 res.2.2.2.2.2.2.2.2 b_harmed b_raged, xI cy ((M 1)) 7 res.2.1, xI cy ((M 2)) 39 res.2.2.1, xI cy ((M 4)) 273 res.2.2.2.1, xI cy ((M 12)) 40 res.2.2.2.2.2.1, xI cy ((M 13)) 4 res.2.2.2.2.2.2.1] := by
  refine zk_start zn_X8 (Nat.le_of_ble_eq_true rfl) ?_
  intro p e s m args below meth c A ls Q C hr hQ hw hl
  have C : zCx p m c s args meth cX8_best 3 RX8 G cy tt A := C
  have hx := C.1.1
  have hb := C.1.2.1
  have hl : lv_has ls 3 [(0, .ref ((M 0))), (1, .int x1), (2, .int x2)] := hl
  have J27 : ∀ (b_refused : Nat → Int32) (b_now : Nat → Int32) (b_minds : Nat → Int32) (b_fled : Bool) (b_roster : Nat → Int32) (b_bestRow : Nat → Int32) (b_bestHarms : Int32) (b_bestRage : Int32) (H : Heap) (locs : List Loc) (ls : Array Slot), zf_X8_best_27 b_refused b_now b_minds b_fled b_roster b_bestRow b_bestHarms b_bestRage = some res → zWd G A s.heap H locs [xM M b_isKept b_size b_at b_from b_sort b_fled b_flights b_firstFlight b_bestHarms b_bestRage b_harmed b_raged, xI cy ((M 1)) 7 b_refused, xI cy ((M 2)) 39 b_now, xI cy ((M 4)) 273 b_minds, xI cy ((M 12)) 40 b_roster, xI cy ((M 13)) 4 b_bestRow] → lv_has ls 3 [(0, .ref ((M 0)))] → W p l e zr_X8_best s m args below meth c H locs 0 0 Q (F0 m 27 ls []) := by
    intro b_refused b_now b_minds b_fled b_roster b_bestRow b_bestHarms b_bestRage H locs ls hf hw hl
    rw [zf_X8_best_27] at hf
    refine lv_aload_n (pc := 27) hx hb dX8_best_27 rfl (lv_at hl 0 rfl) ?_
    refine lv_bipush (pc := 28) (v := -2) hx hb dX8_best_28 (by decide) ?_
    obtain ⟨u9, u9e, hf⟩ := bd hf
    refine zk_cV (pc := 30) (ci := 8) (q0 := 0) (rest := []) (st1 := [.int u9.1]) (w' := [xM M b_isKept b_size b_at b_from b_sort b_fled b_flights b_firstFlight b_bestHarms b_bestRage b_harmed b_raged, xI cy ((M 1)) 7 u9.2, xI cy ((M 2)) 39 b_now, xI cy ((M 4)) 273 b_minds, xI cy ((M 12)) 40 b_roster, xI cy ((M 13)) 4 b_bestRow]) (mk := [none, some (xI cy ((M 1)) 7 u9.2), none, none, none, none]) C hw (c_X8_refuse l G cy tt M b_isKept b_size b_at b_from b_sort b_fled b_flights b_firstFlight b_bestHarms b_bestRage b_harmed b_raged (((-2 : Int32))) b_refused _ u9e) zy_X8_refuse zm_X8_90 rfl rfl rfl [0, 1] rfl rfl rfl rfl rfl rfl rfl rfl hl.1 ⟨rfl, rfl⟩ ⟨Nat.le_of_ble_eq_true rfl, Nat.le_of_ble_eq_true rfl⟩ rfl (Nat.le_of_ble_eq_true rfl) ⟨Nat.zero_le _, Nat.zero_le _⟩ dX8_best_30 (fun H locs hw => ?_)
    have hf := Option.some.inj hf
    subst hf
    exact zk_reti (pc := 33) (ww := [xM M b_isKept b_size b_at b_from b_sort b_fled b_flights b_firstFlight b_bestHarms b_bestRage b_harmed b_raged, xI cy ((M 1)) 7 u9.2, xI cy ((M 2)) 39 b_now, xI cy ((M 4)) 273 b_minds, xI cy ((M 12)) 40 b_roster, xI cy ((M 13)) 4 b_bestRow]) C hw hr hQ dX8_best_33
  rw [zf_X8_best] at hf
  refine lv_iload_n (pc := 0) hx hb dX8_best_0 rfl (lv_at hl 1 rfl) ?_
  refine lv_i2l (pc := 1) (v := x1.toInt64) hx hb dX8_best_1 rfl ?_
  refine lv_lconst (pc := 2) (v := 1) hx hb dX8_best_2 (by decide) ?_
  refine lv_ldc2 (pc := 3) (v := 4) hx hb C.1.2.2.2.1 (C.1.2.2.2.2 _ zc_X8_101) dX8_best_3 ?_
  obtain ⟨u1, u1e, hf⟩ := bd hf
  refine zk_cS (pc := 6) (rest := []) (st1 := [.int (bI u1)]) (w' := [xM M b_isKept b_size b_at b_from b_sort b_fled b_flights b_firstFlight b_bestHarms b_bestRage b_harmed b_raged, xI cy ((M 1)) 7 b_refused, xI cy ((M 2)) 39 b_now, xI cy ((M 4)) 273 b_minds, xI cy ((M 12)) 40 b_roster, xI cy ((M 13)) 4 b_bestRow]) (mk := [none, none, none, none, none, none]) C hw (c_X8_isIn l G cy tt x1.toInt64 (((1 : Int64))) (((4 : Int64))) _ u1e) zy_X8_isIn zm_X8_68 [] rfl rfl rfl rfl rfl rfl rfl rfl hl.1 ⟨rfl, rfl⟩ ⟨Nat.le_of_ble_eq_true rfl, Nat.le_of_ble_eq_true rfl⟩ rfl (Nat.le_of_ble_eq_true rfl) ⟨Nat.zero_le _, Nat.zero_le _⟩ dX8_best_6 (fun H locs hw => ?_)
  refine zk_ifz (pc := 9) (tgt := 27) hx hb dX8_best_9 (by decide) (fun q2 => ?_) (fun q2 => ?_)
  · replace hf := if_f q2 hf
    exact J27 b_refused b_now b_minds b_fled b_roster b_bestRow b_bestHarms b_bestRage _ _ _ hf hw (lv_sub hl [0] rfl)
  · replace hf := if_t q2 hf
    refine lv_iload_n (pc := 12) hx hb dX8_best_12 rfl (lv_at hl 2 rfl) ?_
    refine lv_i2l (pc := 13) (v := x2.toInt64) hx hb dX8_best_13 rfl ?_
    refine lv_ldc2 (pc := 14) (v := -2) hx hb C.1.2.2.2.1 (C.1.2.2.2.2 _ zc_X8_242) dX8_best_14 ?_
    refine lv_iload_n (pc := 17) hx hb dX8_best_17 rfl (lv_at hl 1 rfl) ?_
    refine lv_iconst (pc := 18) (v := 1) hx hb dX8_best_18 (by decide) ?_
    refine lv_isub (pc := 19) hx hb dX8_best_19 ?_
    refine lv_i2l (pc := 20) (v := ((x1 - (1 : Int32))).toInt64) hx hb dX8_best_20 rfl ?_
    obtain ⟨u3, u3e, hf⟩ := bd hf
    refine zk_cS (pc := 21) (rest := []) (st1 := [.int (bI u3)]) (w' := [xM M b_isKept b_size b_at b_from b_sort b_fled b_flights b_firstFlight b_bestHarms b_bestRage b_harmed b_raged, xI cy ((M 1)) 7 b_refused, xI cy ((M 2)) 39 b_now, xI cy ((M 4)) 273 b_minds, xI cy ((M 12)) 40 b_roster, xI cy ((M 13)) 4 b_bestRow]) (mk := [none, none, none, none, none, none]) C hw (c_X8_isIn l G cy tt x2.toInt64 (((-2 : Int64))) ((((x1 - (1 : Int32))).toInt64)) _ u3e) zy_X8_isIn zm_X8_68 [] rfl rfl rfl rfl rfl rfl rfl rfl hl.1 ⟨rfl, rfl⟩ ⟨Nat.le_of_ble_eq_true rfl, Nat.le_of_ble_eq_true rfl⟩ rfl (Nat.le_of_ble_eq_true rfl) ⟨Nat.zero_le _, Nat.zero_le _⟩ dX8_best_21 (fun H locs hw => ?_)
    refine zk_ifnz (pc := 24) (tgt := 34) hx hb dX8_best_24 (by decide) (fun q4 => ?_) (fun q4 => ?_)
    · replace hf := if_t q4 hf
      refine lv_aload_n (pc := 34) hx hb dX8_best_34 rfl (lv_at hl 0 rfl) ?_
      refine lv_iconst (pc := 35) (v := 5) hx hb dX8_best_35 (by decide) ?_
      refine zk_put (pc := 36) (w' := [xM M b_isKept b_size b_at b_from b_sort b_fled b_flights b_firstFlight ((5 : Int32)) b_bestRage b_harmed b_raged, xI cy ((M 1)) 7 b_refused, xI cy ((M 2)) 39 b_now, xI cy ((M 4)) 273 b_minds, xI cy ((M 12)) 40 b_roster, xI cy ((M 13)) 4 b_bestRow]) C hw zp_X8_232 0 rfl rfl rfl (Nat.le_of_ble_eq_true rfl) rfl dX8_best_36 (fun H locs hw => ?_)
      refine lv_aload_n (pc := 39) hx hb dX8_best_39 rfl (lv_at hl 0 rfl) ?_
      refine lv_bipush (pc := 40) (v := 100) hx hb dX8_best_40 (by decide) ?_
      refine zk_put (pc := 42) (w' := [xM M b_isKept b_size b_at b_from b_sort b_fled b_flights b_firstFlight ((5 : Int32)) ((100 : Int32)) b_harmed b_raged, xI cy ((M 1)) 7 b_refused, xI cy ((M 2)) 39 b_now, xI cy ((M 4)) 273 b_minds, xI cy ((M 12)) 40 b_roster, xI cy ((M 13)) 4 b_bestRow]) C hw zp_X8_235 0 rfl rfl rfl (Nat.le_of_ble_eq_true rfl) rfl dX8_best_42 (fun H locs hw => ?_)
      refine lv_aload_n (pc := 45) hx hb dX8_best_45 rfl (lv_at hl 0 rfl) ?_
      refine lv_iconst (pc := 46) (v := 0) hx hb dX8_best_46 (by decide) ?_
      refine lv_iload_n (pc := 47) hx hb dX8_best_47 rfl (lv_at hl 1 rfl) ?_
      refine lv_iconst (pc := 48) (v := 0) hx hb dX8_best_48 (by decide) ?_
      obtain ⟨u5, u5e, hf⟩ := bd hf
      refine zk_cV (pc := 49) (ci := 8) (q0 := 0) (rest := []) (st1 := []) (w' := [xM M b_isKept b_size b_at b_from b_sort u5.2.2.1 b_flights b_firstFlight u5.2.2.2.2.2.1 u5.2.2.2.2.2.2 b_harmed b_raged, xI cy ((M 1)) 7 b_refused, xI cy ((M 2)) 39 u5.1, xI cy ((M 4)) 273 u5.2.1, xI cy ((M 12)) 40 u5.2.2.2.1, xI cy ((M 13)) 4 u5.2.2.2.2.1]) (mk := [some (xM M b_isKept b_size b_at b_from b_sort u5.2.2.1 b_flights b_firstFlight u5.2.2.2.2.2.1 u5.2.2.2.2.2.2 b_harmed b_raged), none, some (xI cy ((M 2)) 39 u5.1), some (xI cy ((M 4)) 273 u5.2.1), some (xI cy ((M 12)) 40 u5.2.2.2.1), some (xI cy ((M 13)) 4 u5.2.2.2.2.1)]) C hw (c_X8_tryAll_l0 l G cy tt M b_isKept b_size b_at b_from b_sort b_flights b_firstFlight b_harmed b_raged x1 (((0 : Int32))) b_now b_minds b_fled b_roster b_bestRow ((5 : Int32)) ((100 : Int32)) _ u5e) zy_X8_tryAll zm_X8_238 rfl rfl rfl [0, 2, 3, 4, 5] rfl rfl rfl rfl rfl rfl rfl rfl hl.1 ⟨rfl, rfl⟩ ⟨Nat.le_of_ble_eq_true rfl, Nat.le_of_ble_eq_true rfl⟩ rfl (Nat.le_of_ble_eq_true rfl) ⟨Nat.zero_le _, Nat.zero_le _⟩ dX8_best_49 (fun H locs hw => ?_)
      refine lv_iload_n (pc := 52) hx hb dX8_best_52 rfl (lv_at hl 2 rfl) ?_
      refine lv_bipush (pc := 53) (v := -2) hx hb dX8_best_53 (by decide) ?_
      refine lv_icmp_ne (pc := 55) (tgt := 65) hx hb dX8_best_55 (by decide) (fun q6 => ?_) (fun q6 => ?_)
      · replace hf := if_f q6 hf
        refine lv_iload_n (pc := 65) hx hb dX8_best_65 rfl (lv_at hl 2 rfl) ?_
        refine lv_iconst (pc := 66) (v := -1) hx hb dX8_best_66 (by decide) ?_
        refine lv_icmp_ne (pc := 67) (tgt := 77) hx hb dX8_best_67 (by decide) (fun q7 => ?_) (fun q7 => ?_)
        · replace hf := if_f q7 hf
          refine lv_aload_n (pc := 77) hx hb dX8_best_77 rfl (lv_at hl 0 rfl) ?_
          refine zk_gt (pc := 78) C hw zl_X8_52 0 rfl rfl dX8_best_78 ?_
          refine lv_iload_n (pc := 81) hx hb dX8_best_81 rfl (lv_at hl 2 rfl) ?_
          obtain ⟨q8, hf⟩ := ck hf
          refine zk_iald (pc := 82) C hw 5 rfl q8 dX8_best_82 ?_
          have hf := Option.some.inj hf
          subst hf
          exact zk_reti (pc := 83) (ww := [xM M b_isKept b_size b_at b_from b_sort u5.2.2.1 b_flights b_firstFlight u5.2.2.2.2.2.1 u5.2.2.2.2.2.2 b_harmed b_raged, xI cy ((M 1)) 7 b_refused, xI cy ((M 2)) 39 u5.1, xI cy ((M 4)) 273 u5.2.1, xI cy ((M 12)) 40 u5.2.2.2.1, xI cy ((M 13)) 4 u5.2.2.2.2.1]) C hw hr hQ dX8_best_83
        · replace hf := if_t q7 hf
          refine lv_aload_n (pc := 70) hx hb dX8_best_70 rfl (lv_at hl 0 rfl) ?_
          refine zk_gt (pc := 71) C hw zl_X8_235 0 rfl rfl dX8_best_71 ?_
          refine lv_goto (pc := 74) (tgt := 83) hx hb dX8_best_74 (by decide) ?_
          have hf := Option.some.inj hf
          subst hf
          exact zk_reti (pc := 83) (ww := [xM M b_isKept b_size b_at b_from b_sort u5.2.2.1 b_flights b_firstFlight u5.2.2.2.2.2.1 u5.2.2.2.2.2.2 b_harmed b_raged, xI cy ((M 1)) 7 b_refused, xI cy ((M 2)) 39 u5.1, xI cy ((M 4)) 273 u5.2.1, xI cy ((M 12)) 40 u5.2.2.2.1, xI cy ((M 13)) 4 u5.2.2.2.2.1]) C hw hr hQ dX8_best_83
      · replace hf := if_t q6 hf
        refine lv_aload_n (pc := 58) hx hb dX8_best_58 rfl (lv_at hl 0 rfl) ?_
        refine zk_gt (pc := 59) C hw zl_X8_232 0 rfl rfl dX8_best_59 ?_
        refine lv_goto (pc := 62) (tgt := 83) hx hb dX8_best_62 (by decide) ?_
        have hf := Option.some.inj hf
        subst hf
        exact zk_reti (pc := 83) (ww := [xM M b_isKept b_size b_at b_from b_sort u5.2.2.1 b_flights b_firstFlight u5.2.2.2.2.2.1 u5.2.2.2.2.2.2 b_harmed b_raged, xI cy ((M 1)) 7 b_refused, xI cy ((M 2)) 39 u5.1, xI cy ((M 4)) 273 u5.2.1, xI cy ((M 12)) 40 u5.2.2.2.1, xI cy ((M 13)) 4 u5.2.2.2.2.1]) C hw hr hQ dX8_best_83
    · replace hf := if_f q4 hf
      exact J27 b_refused b_now b_minds b_fled b_roster b_bestRow b_bestHarms b_bestRage _ _ _ hf hw (lv_sub hl [0] rfl)
def zf_X8_twos_58 (b_now : Nat → Int32) (b_holds : Nat → Int32) (b_sizes : Nat → Int32) (b_elements : Nat → Int64) : Nat → Int32 → Int32 → Int32 → Option (Int32)
  | 0, _, _, _ => none
  | n + 1, v2, v3, v4 => (if v3 ≤ v4 then some ((1 : Int32)) else (Option.bind (zf_X8_told v2 ((((2 : Int32) * v4))) b_elements) (fun u12 => (Option.bind (zf_X8_isKeeper u12 b_now) (fun u13 => (if u13 then (Option.bind (zf_X8_told v2 (((((2 : Int32) * v4) + (1 : Int32)))) b_elements) (fun u15 => (Option.bind (zf_X8_isIn u15 (((0 : Int64))) (((1 : Int64)))) (fun u16 => (if u16 then zf_X8_twos_58 b_now b_holds b_sizes b_elements n v2 v3 ((v4 + 1)) else some ((-5 : Int32))))))) else some ((-5 : Int32))))))))
def zf_X8_twos (x1 : Bool) (x2 : Int32) (x3 : Int32) (b_now : Nat → Int32) (b_holds : Nat → Int32) (b_sizes : Nat → Int32) (b_elements : Nat → Int64) : Option (Int32) := (Option.bind (zf_X8_isShelf x2) (fun u1 => (if u1 then (Option.bind (zf_X8_isIn x3.toInt64 (((0 : Int64))) (((20 : Int64)))) (fun u3 => (if u3 then (if x1 then (Option.bind (zf_X8_rowIn x2 b_holds) (fun u6 => (if 0 ≤ u6 then (if ix x2 8 then (if ((2 : Int32) * x3) ≤ (b_sizes x2.toNatClampNeg) then zf_X8_twos_58 b_now b_holds b_sizes b_elements FU x2 x3 ((0 : Int32)) else some ((-2 : Int32))) else none) else (Option.bind (zf_X8_rowIn x2 b_holds) (fun u10 => some (u10)))))) else some ((-2 : Int32))) else some ((-2 : Int32))))) else some ((-2 : Int32)))))
abbrev zr_X8_twos : Room := { frames := 2, cells := 0, slots := 0, locals := 47 }
set_option maxHeartbeats 4000000 in
set_option maxRecDepth 100000 in
theorem c_X8_twos (l : Launch) (G : va_G) (cy : Nat → ClassId) (tt : Nat → Nat) (M : Nat → Nat) (b_isKept : Bool) (b_size : Int32) (b_at : Int32) (b_from : Int32) (b_sort : Int32) (b_fled : Bool) (b_flights : Int32) (b_firstFlight : Int32) (b_bestHarms : Int32) (b_bestRage : Int32) (b_harmed : Int64) (b_raged : Int64) (x1 : Bool) (x2 : Int32) (x3 : Int32) (b_now : Nat → Int32) (b_holds : Nat → Int32) (b_sizes : Nat → Int32) (b_elements : Nat → Int64) (res : Int32) (hf : zf_X8_twos x1 x2 x3 b_now b_holds b_sizes b_elements = some res) : zCT l yX8_twos cX8_twos 5 (some .int) zr_X8_twos G cy tt [.ref ((M 0)), .int (bI x1), .int x2, .int x3] [xM M b_isKept b_size b_at b_from b_sort b_fled b_flights b_firstFlight b_bestHarms b_bestRage b_harmed b_raged, xI cy ((M 2)) 39 b_now, xI cy ((M 7)) 8 b_holds, xI cy ((M 8)) 8 b_sizes, xJ cy ((M 9)) 320 b_elements] (some (.int res)) [xM M b_isKept b_size b_at b_from b_sort b_fled b_flights b_firstFlight b_bestHarms b_bestRage b_harmed b_raged, xI cy ((M 2)) 39 b_now, xI cy ((M 7)) 8 b_holds, xI cy ((M 8)) 8 b_sizes, xJ cy ((M 9)) 320 b_elements] := by
  refine zk_start zn_X8 (Nat.le_of_ble_eq_true rfl) ?_
  intro p e s m args below meth c A ls Q C hr hQ hw hl
  have C : zCx p m c s args meth cX8_twos 5 RX8 G cy tt A := C
  have hx := C.1.1
  have hb := C.1.2.1
  have hl : lv_has ls 5 [(0, .ref ((M 0))), (1, .int (bI x1)), (2, .int x2), (3, .int x3)] := hl
  have J58 : ∀ (n : Nat), ∀ (v2 : Int32) (v3 : Int32) (v4 : Int32) (H : Heap) (locs : List Loc) (ls : Array Slot), zf_X8_twos_58 b_now b_holds b_sizes b_elements n v2 v3 v4 = some res → zWd G A s.heap H locs [xM M b_isKept b_size b_at b_from b_sort b_fled b_flights b_firstFlight b_bestHarms b_bestRage b_harmed b_raged, xI cy ((M 2)) 39 b_now, xI cy ((M 7)) 8 b_holds, xI cy ((M 8)) 8 b_sizes, xJ cy ((M 9)) 320 b_elements] → lv_has ls 5 [(0, .ref ((M 0))), (2, .int v2), (3, .int v3), (4, .int v4)] → W p l e zr_X8_twos s m args below meth c H locs 0 0 Q (F0 m 58 ls []) := by
    intro n
    induction n with
    | zero =>
      intro v2 v3 v4 H locs ls hf hw hl
      rw [zf_X8_twos_58] at hf
      cases hf
    | succ n ih =>
      intro v2 v3 v4 H locs ls hf hw hl
      rw [zf_X8_twos_58] at hf
      refine lv_iload (pc := 58) hx hb dX8_twos_58 (lv_at hl 3 rfl) ?_
      refine lv_iload_n (pc := 60) hx hb dX8_twos_60 rfl (lv_at hl 2 rfl) ?_
      refine lv_icmp_ge (pc := 61) (tgt := 108) hx hb dX8_twos_61 (by decide) (fun q11 => ?_) (fun q11 => ?_)
      · replace hf := if_t q11 hf
        refine lv_iconst (pc := 108) (v := 1) hx hb dX8_twos_108 (by decide) ?_
        have hf := Option.some.inj hf
        subst hf
        exact zk_reti (pc := 109) (ww := [xM M b_isKept b_size b_at b_from b_sort b_fled b_flights b_firstFlight b_bestHarms b_bestRage b_harmed b_raged, xI cy ((M 2)) 39 b_now, xI cy ((M 7)) 8 b_holds, xI cy ((M 8)) 8 b_sizes, xJ cy ((M 9)) 320 b_elements]) C hw hr hQ dX8_twos_109
      · replace hf := if_f q11 hf
        refine lv_aload_n (pc := 64) hx hb dX8_twos_64 rfl (lv_at hl 0 rfl) ?_
        refine lv_aload_n (pc := 65) hx hb dX8_twos_65 rfl (lv_at hl 0 rfl) ?_
        refine lv_iload_n (pc := 66) hx hb dX8_twos_66 rfl (lv_at hl 1 rfl) ?_
        refine lv_iconst (pc := 67) (v := 2) hx hb dX8_twos_67 (by decide) ?_
        refine lv_iload (pc := 68) hx hb dX8_twos_68 (lv_at hl 3 rfl) ?_
        refine lv_imul (pc := 70) hx hb dX8_twos_70 ?_
        obtain ⟨u12, u12e, hf⟩ := bd hf
        refine zk_cV (pc := 71) (ci := 8) (q0 := 0) (rest := [.ref ((M 0))]) (st1 := [.long u12, .ref ((M 0))]) (w' := [xM M b_isKept b_size b_at b_from b_sort b_fled b_flights b_firstFlight b_bestHarms b_bestRage b_harmed b_raged, xI cy ((M 2)) 39 b_now, xI cy ((M 7)) 8 b_holds, xI cy ((M 8)) 8 b_sizes, xJ cy ((M 9)) 320 b_elements]) (mk := [none, none, none, none, none]) C hw (c_X8_told l G cy tt M b_isKept b_size b_at b_from b_sort b_fled b_flights b_firstFlight b_bestHarms b_bestRage b_harmed b_raged v2 ((((2 : Int32) * v4))) b_elements _ u12e) zy_X8_told zm_X8_206 rfl rfl rfl [0, 4] rfl rfl rfl rfl rfl rfl rfl rfl hl.1 ⟨rfl, rfl⟩ ⟨Nat.le_of_ble_eq_true rfl, Nat.le_of_ble_eq_true rfl⟩ rfl (Nat.le_of_ble_eq_true rfl) ⟨Nat.zero_le _, Nat.zero_le _⟩ dX8_twos_71 (fun H locs hw => ?_)
        obtain ⟨u13, u13e, hf⟩ := bd hf
        refine zk_cV (pc := 74) (ci := 8) (q0 := 0) (rest := []) (st1 := [.int (bI u13)]) (w' := [xM M b_isKept b_size b_at b_from b_sort b_fled b_flights b_firstFlight b_bestHarms b_bestRage b_harmed b_raged, xI cy ((M 2)) 39 b_now, xI cy ((M 7)) 8 b_holds, xI cy ((M 8)) 8 b_sizes, xJ cy ((M 9)) 320 b_elements]) (mk := [none, none, none, none, none]) C hw (c_X8_isKeeper l G cy tt M b_isKept b_size b_at b_from b_sort b_fled b_flights b_firstFlight b_bestHarms b_bestRage b_harmed b_raged u12 b_now _ u13e) zy_X8_isKeeper zm_X8_76 rfl rfl rfl [0, 1] rfl rfl rfl rfl rfl rfl rfl rfl hl.1 ⟨rfl, rfl⟩ ⟨Nat.le_of_ble_eq_true rfl, Nat.le_of_ble_eq_true rfl⟩ rfl (Nat.le_of_ble_eq_true rfl) ⟨Nat.zero_le _, Nat.zero_le _⟩ dX8_twos_74 (fun H locs hw => ?_)
        refine zk_ifz (pc := 77) (tgt := 99) hx hb dX8_twos_77 (by decide) (fun q14 => ?_) (fun q14 => ?_)
        · replace hf := if_f q14 hf
          refine lv_bipush (pc := 99) (v := -5) hx hb dX8_twos_99 (by decide) ?_
          have hf := Option.some.inj hf
          subst hf
          exact zk_reti (pc := 101) (ww := [xM M b_isKept b_size b_at b_from b_sort b_fled b_flights b_firstFlight b_bestHarms b_bestRage b_harmed b_raged, xI cy ((M 2)) 39 b_now, xI cy ((M 7)) 8 b_holds, xI cy ((M 8)) 8 b_sizes, xJ cy ((M 9)) 320 b_elements]) C hw hr hQ dX8_twos_101
        · replace hf := if_t q14 hf
          refine lv_aload_n (pc := 80) hx hb dX8_twos_80 rfl (lv_at hl 0 rfl) ?_
          refine lv_iload_n (pc := 81) hx hb dX8_twos_81 rfl (lv_at hl 1 rfl) ?_
          refine lv_iconst (pc := 82) (v := 2) hx hb dX8_twos_82 (by decide) ?_
          refine lv_iload (pc := 83) hx hb dX8_twos_83 (lv_at hl 3 rfl) ?_
          refine lv_imul (pc := 85) hx hb dX8_twos_85 ?_
          refine lv_iconst (pc := 86) (v := 1) hx hb dX8_twos_86 (by decide) ?_
          refine lv_iadd (pc := 87) hx hb dX8_twos_87 ?_
          obtain ⟨u15, u15e, hf⟩ := bd hf
          refine zk_cV (pc := 88) (ci := 8) (q0 := 0) (rest := []) (st1 := [.long u15]) (w' := [xM M b_isKept b_size b_at b_from b_sort b_fled b_flights b_firstFlight b_bestHarms b_bestRage b_harmed b_raged, xI cy ((M 2)) 39 b_now, xI cy ((M 7)) 8 b_holds, xI cy ((M 8)) 8 b_sizes, xJ cy ((M 9)) 320 b_elements]) (mk := [none, none, none, none, none]) C hw (c_X8_told l G cy tt M b_isKept b_size b_at b_from b_sort b_fled b_flights b_firstFlight b_bestHarms b_bestRage b_harmed b_raged v2 (((((2 : Int32) * v4) + (1 : Int32)))) b_elements _ u15e) zy_X8_told zm_X8_206 rfl rfl rfl [0, 4] rfl rfl rfl rfl rfl rfl rfl rfl hl.1 ⟨rfl, rfl⟩ ⟨Nat.le_of_ble_eq_true rfl, Nat.le_of_ble_eq_true rfl⟩ rfl (Nat.le_of_ble_eq_true rfl) ⟨Nat.zero_le _, Nat.zero_le _⟩ dX8_twos_88 (fun H locs hw => ?_)
          refine lv_lconst (pc := 91) (v := 0) hx hb dX8_twos_91 (by decide) ?_
          refine lv_lconst (pc := 92) (v := 1) hx hb dX8_twos_92 (by decide) ?_
          obtain ⟨u16, u16e, hf⟩ := bd hf
          refine zk_cS (pc := 93) (rest := []) (st1 := [.int (bI u16)]) (w' := [xM M b_isKept b_size b_at b_from b_sort b_fled b_flights b_firstFlight b_bestHarms b_bestRage b_harmed b_raged, xI cy ((M 2)) 39 b_now, xI cy ((M 7)) 8 b_holds, xI cy ((M 8)) 8 b_sizes, xJ cy ((M 9)) 320 b_elements]) (mk := [none, none, none, none, none]) C hw (c_X8_isIn l G cy tt u15 (((0 : Int64))) (((1 : Int64))) _ u16e) zy_X8_isIn zm_X8_68 [] rfl rfl rfl rfl rfl rfl rfl rfl hl.1 ⟨rfl, rfl⟩ ⟨Nat.le_of_ble_eq_true rfl, Nat.le_of_ble_eq_true rfl⟩ rfl (Nat.le_of_ble_eq_true rfl) ⟨Nat.zero_le _, Nat.zero_le _⟩ dX8_twos_93 (fun H locs hw => ?_)
          refine zk_ifnz (pc := 96) (tgt := 102) hx hb dX8_twos_96 (by decide) (fun q17 => ?_) (fun q17 => ?_)
          · replace hf := if_t q17 hf
            refine lv_iinc (pc := 102) (v := (v4 + 1)) (lv' := [(4, .int ((v4 + 1))), (0, .ref ((M 0))), (2, .int v2), (3, .int v3)]) hx hb dX8_twos_102 hl (k := 3) rfl rfl (by decide) rfl (fun ls hl => ?_)
            refine lv_goto (pc := 105) (tgt := 58) hx hb dX8_twos_105 (by decide) ?_
            exact ih v2 v3 ((v4 + 1)) _ _ _ hf hw (lv_sub hl [1, 2, 3, 0] rfl)
          · replace hf := if_f q17 hf
            refine lv_bipush (pc := 99) (v := -5) hx hb dX8_twos_99 (by decide) ?_
            have hf := Option.some.inj hf
            subst hf
            exact zk_reti (pc := 101) (ww := [xM M b_isKept b_size b_at b_from b_sort b_fled b_flights b_firstFlight b_bestHarms b_bestRage b_harmed b_raged, xI cy ((M 2)) 39 b_now, xI cy ((M 7)) 8 b_holds, xI cy ((M 8)) 8 b_sizes, xJ cy ((M 9)) 320 b_elements]) C hw hr hQ dX8_twos_101
  rw [zf_X8_twos] at hf
  refine lv_iload_n (pc := 0) hx hb dX8_twos_0 rfl (lv_at hl 2 rfl) ?_
  obtain ⟨u1, u1e, hf⟩ := bd hf
  refine zk_cS (pc := 1) (rest := []) (st1 := [.int (bI u1)]) (w' := [xM M b_isKept b_size b_at b_from b_sort b_fled b_flights b_firstFlight b_bestHarms b_bestRage b_harmed b_raged, xI cy ((M 2)) 39 b_now, xI cy ((M 7)) 8 b_holds, xI cy ((M 8)) 8 b_sizes, xJ cy ((M 9)) 320 b_elements]) (mk := [none, none, none, none, none]) C hw (c_X8_isShelf l G cy tt x2 _ u1e) zy_X8_isShelf zm_X8_200 [] rfl rfl rfl rfl rfl rfl rfl rfl hl.1 ⟨rfl, rfl⟩ ⟨Nat.le_of_ble_eq_true rfl, Nat.le_of_ble_eq_true rfl⟩ rfl (Nat.le_of_ble_eq_true rfl) ⟨Nat.zero_le _, Nat.zero_le _⟩ dX8_twos_1 (fun H locs hw => ?_)
  refine zk_ifz (pc := 4) (tgt := 23) hx hb dX8_twos_4 (by decide) (fun q2 => ?_) (fun q2 => ?_)
  · replace hf := if_f q2 hf
    refine lv_bipush (pc := 23) (v := -2) hx hb dX8_twos_23 (by decide) ?_
    have hf := Option.some.inj hf
    subst hf
    exact zk_reti (pc := 25) (ww := [xM M b_isKept b_size b_at b_from b_sort b_fled b_flights b_firstFlight b_bestHarms b_bestRage b_harmed b_raged, xI cy ((M 2)) 39 b_now, xI cy ((M 7)) 8 b_holds, xI cy ((M 8)) 8 b_sizes, xJ cy ((M 9)) 320 b_elements]) C hw hr hQ dX8_twos_25
  · replace hf := if_t q2 hf
    refine lv_iload_n (pc := 7) hx hb dX8_twos_7 rfl (lv_at hl 3 rfl) ?_
    refine lv_i2l (pc := 8) (v := x3.toInt64) hx hb dX8_twos_8 rfl ?_
    refine lv_lconst (pc := 9) (v := 0) hx hb dX8_twos_9 (by decide) ?_
    refine lv_ldc2 (pc := 10) (v := 20) hx hb C.1.2.2.2.1 (C.1.2.2.2.2 _ zc_X8_244) dX8_twos_10 ?_
    obtain ⟨u3, u3e, hf⟩ := bd hf
    refine zk_cS (pc := 13) (rest := []) (st1 := [.int (bI u3)]) (w' := [xM M b_isKept b_size b_at b_from b_sort b_fled b_flights b_firstFlight b_bestHarms b_bestRage b_harmed b_raged, xI cy ((M 2)) 39 b_now, xI cy ((M 7)) 8 b_holds, xI cy ((M 8)) 8 b_sizes, xJ cy ((M 9)) 320 b_elements]) (mk := [none, none, none, none, none]) C hw (c_X8_isIn l G cy tt x3.toInt64 (((0 : Int64))) (((20 : Int64))) _ u3e) zy_X8_isIn zm_X8_68 [] rfl rfl rfl rfl rfl rfl rfl rfl hl.1 ⟨rfl, rfl⟩ ⟨Nat.le_of_ble_eq_true rfl, Nat.le_of_ble_eq_true rfl⟩ rfl (Nat.le_of_ble_eq_true rfl) ⟨Nat.zero_le _, Nat.zero_le _⟩ dX8_twos_13 (fun H locs hw => ?_)
    refine zk_ifz (pc := 16) (tgt := 23) hx hb dX8_twos_16 (by decide) (fun q4 => ?_) (fun q4 => ?_)
    · replace hf := if_f q4 hf
      refine lv_bipush (pc := 23) (v := -2) hx hb dX8_twos_23 (by decide) ?_
      have hf := Option.some.inj hf
      subst hf
      exact zk_reti (pc := 25) (ww := [xM M b_isKept b_size b_at b_from b_sort b_fled b_flights b_firstFlight b_bestHarms b_bestRage b_harmed b_raged, xI cy ((M 2)) 39 b_now, xI cy ((M 7)) 8 b_holds, xI cy ((M 8)) 8 b_sizes, xJ cy ((M 9)) 320 b_elements]) C hw hr hQ dX8_twos_25
    · replace hf := if_t q4 hf
      refine lv_iload_n (pc := 19) hx hb dX8_twos_19 rfl (lv_at hl 1 rfl) ?_
      refine zk_ifnz (pc := 20) (tgt := 26) hx hb dX8_twos_20 (by decide) (fun q5 => ?_) (fun q5 => ?_)
      · replace hf := if_t q5 hf
        refine lv_aload_n (pc := 26) hx hb dX8_twos_26 rfl (lv_at hl 0 rfl) ?_
        refine lv_iload_n (pc := 27) hx hb dX8_twos_27 rfl (lv_at hl 2 rfl) ?_
        obtain ⟨u6, u6e, hf⟩ := bd hf
        refine zk_cV (pc := 28) (ci := 8) (q0 := 0) (rest := []) (st1 := [.int u6]) (w' := [xM M b_isKept b_size b_at b_from b_sort b_fled b_flights b_firstFlight b_bestHarms b_bestRage b_harmed b_raged, xI cy ((M 2)) 39 b_now, xI cy ((M 7)) 8 b_holds, xI cy ((M 8)) 8 b_sizes, xJ cy ((M 9)) 320 b_elements]) (mk := [none, none, none, none, none]) C hw (c_X8_rowIn l G cy tt M b_isKept b_size b_at b_from b_sort b_fled b_flights b_firstFlight b_bestHarms b_bestRage b_harmed b_raged x2 b_holds _ u6e) zy_X8_rowIn zm_X8_203 rfl rfl rfl [0, 2] rfl rfl rfl rfl rfl rfl rfl rfl hl.1 ⟨rfl, rfl⟩ ⟨Nat.le_of_ble_eq_true rfl, Nat.le_of_ble_eq_true rfl⟩ rfl (Nat.le_of_ble_eq_true rfl) ⟨Nat.zero_le _, Nat.zero_le _⟩ dX8_twos_28 (fun H locs hw => ?_)
        refine lv_if_ge (pc := 31) (tgt := 40) hx hb dX8_twos_31 (by decide) (fun q7 => ?_) (fun q7 => ?_)
        · replace hf := if_t q7 hf
          refine lv_iconst (pc := 40) (v := 2) hx hb dX8_twos_40 (by decide) ?_
          refine lv_iload_n (pc := 41) hx hb dX8_twos_41 rfl (lv_at hl 3 rfl) ?_
          refine lv_imul (pc := 42) hx hb dX8_twos_42 ?_
          refine lv_aload_n (pc := 43) hx hb dX8_twos_43 rfl (lv_at hl 0 rfl) ?_
          refine zk_gt (pc := 44) C hw zl_X8_36 0 rfl rfl dX8_twos_44 ?_
          refine lv_iload_n (pc := 47) hx hb dX8_twos_47 rfl (lv_at hl 2 rfl) ?_
          obtain ⟨q8, hf⟩ := ck hf
          refine zk_iald (pc := 48) C hw 3 rfl q8 dX8_twos_48 ?_
          refine lv_icmp_le (pc := 49) (tgt := 55) hx hb dX8_twos_49 (by decide) (fun q9 => ?_) (fun q9 => ?_)
          · replace hf := if_t q9 hf
            refine lv_iconst (pc := 55) (v := 0) hx hb dX8_twos_55 (by decide) ?_
            refine lv_istore (pc := 56) (lv' := [(4, .int ((0 : Int32))), (0, .ref ((M 0))), (1, .int (bI x1)), (2, .int x2), (3, .int x3)]) hx hb dX8_twos_56 hl (by decide) rfl (fun ls hl => ?_)
            exact J58 FU x2 x3 ((0 : Int32)) _ _ _ hf hw (lv_sub hl [1, 3, 4, 0] rfl)
          · replace hf := if_f q9 hf
            refine lv_bipush (pc := 52) (v := -2) hx hb dX8_twos_52 (by decide) ?_
            have hf := Option.some.inj hf
            subst hf
            exact zk_reti (pc := 54) (ww := [xM M b_isKept b_size b_at b_from b_sort b_fled b_flights b_firstFlight b_bestHarms b_bestRage b_harmed b_raged, xI cy ((M 2)) 39 b_now, xI cy ((M 7)) 8 b_holds, xI cy ((M 8)) 8 b_sizes, xJ cy ((M 9)) 320 b_elements]) C hw hr hQ dX8_twos_54
        · replace hf := if_f q7 hf
          refine lv_aload_n (pc := 34) hx hb dX8_twos_34 rfl (lv_at hl 0 rfl) ?_
          refine lv_iload_n (pc := 35) hx hb dX8_twos_35 rfl (lv_at hl 2 rfl) ?_
          obtain ⟨u10, u10e, hf⟩ := bd hf
          refine zk_cV (pc := 36) (ci := 8) (q0 := 0) (rest := []) (st1 := [.int u10]) (w' := [xM M b_isKept b_size b_at b_from b_sort b_fled b_flights b_firstFlight b_bestHarms b_bestRage b_harmed b_raged, xI cy ((M 2)) 39 b_now, xI cy ((M 7)) 8 b_holds, xI cy ((M 8)) 8 b_sizes, xJ cy ((M 9)) 320 b_elements]) (mk := [none, none, none, none, none]) C hw (c_X8_rowIn l G cy tt M b_isKept b_size b_at b_from b_sort b_fled b_flights b_firstFlight b_bestHarms b_bestRage b_harmed b_raged x2 b_holds _ u10e) zy_X8_rowIn zm_X8_203 rfl rfl rfl [0, 2] rfl rfl rfl rfl rfl rfl rfl rfl hl.1 ⟨rfl, rfl⟩ ⟨Nat.le_of_ble_eq_true rfl, Nat.le_of_ble_eq_true rfl⟩ rfl (Nat.le_of_ble_eq_true rfl) ⟨Nat.zero_le _, Nat.zero_le _⟩ dX8_twos_36 (fun H locs hw => ?_)
          have hf := Option.some.inj hf
          subst hf
          exact zk_reti (pc := 39) (ww := [xM M b_isKept b_size b_at b_from b_sort b_fled b_flights b_firstFlight b_bestHarms b_bestRage b_harmed b_raged, xI cy ((M 2)) 39 b_now, xI cy ((M 7)) 8 b_holds, xI cy ((M 8)) 8 b_sizes, xJ cy ((M 9)) 320 b_elements]) C hw hr hQ dX8_twos_39
      · replace hf := if_f q5 hf
        refine lv_bipush (pc := 23) (v := -2) hx hb dX8_twos_23 (by decide) ?_
        have hf := Option.some.inj hf
        subst hf
        exact zk_reti (pc := 25) (ww := [xM M b_isKept b_size b_at b_from b_sort b_fled b_flights b_firstFlight b_bestHarms b_bestRage b_harmed b_raged, xI cy ((M 2)) 39 b_now, xI cy ((M 7)) 8 b_holds, xI cy ((M 8)) 8 b_sizes, xJ cy ((M 9)) 320 b_elements]) C hw hr hQ dX8_twos_25
def zf_X8_fits_72 (b_elements : Nat → Int64) (k10 : Int32 → Int32 → Bool → Int32 → (Nat → Int32) → (Nat → Int32) → Bool → Option (Bool × (Nat → Int32) × (Nat → Int32) × Bool)) (v1 : Int32) (v2 : Int32) (v4 : Int32) (t0 : Bool) (b_now : Nat → Int32) (b_minds : Nat → Int32) (b_fled : Bool) : Option (Bool × (Nat → Int32) × (Nat → Int32) × Bool) := k10 v1 v2 t0 ((v4 + 1)) b_now b_minds b_fled
def zf_X8_fits_64 (b_elements : Nat → Int64) (k10 : Int32 → Int32 → Bool → Int32 → (Nat → Int32) → (Nat → Int32) → Bool → Option (Bool × (Nat → Int32) × (Nat → Int32) × Bool)) (v1 : Int32) (v2 : Int32) (v4 : Int32) (t0 : Bool) (t1 : Bool) (b_now : Nat → Int32) (b_minds : Nat → Int32) (b_fled : Bool) : Option (Bool × (Nat → Int32) × (Nat → Int32) × Bool) := (if (bI t1) = (bI t0) then zf_X8_fits_72 b_elements k10 v1 v2 v4 true b_now b_minds b_fled else zf_X8_fits_72 b_elements k10 v1 v2 v4 false b_now b_minds b_fled)
def zf_X8_fits_79 (b_elements : Nat → Int64) (v3 : Bool) (b_now : Nat → Int32) (b_minds : Nat → Int32) (b_fled : Bool) : Option (Bool × (Nat → Int32) × (Nat → Int32) × Bool) := (Option.bind (zf_X8_lay (((1 : Int32))) b_now b_minds) (fun u9 => some (v3, u9, b_minds, b_fled)))
def zf_X8_fits_10 (b_elements : Nat → Int64) : Nat → Int32 → Int32 → Bool → Int32 → (Nat → Int32) → (Nat → Int32) → Bool → Option (Bool × (Nat → Int32) × (Nat → Int32) × Bool)
  | 0, _, _, _, _, _, _, _ => none
  | n + 1, v1, v2, v3, v4, b_now, b_minds, b_fled => (if v2 ≤ v4 then zf_X8_fits_79 b_elements v3 b_now b_minds b_fled else (if v3 then (Option.bind (zf_X8_told v1 ((((2 : Int32) * v4))) b_elements) (fun u4 => (Option.bind (zf_X8_step u4.toInt32 b_now b_fled) (fun u5 => (Option.bind (zf_X8_told v1 (((((2 : Int32) * v4) + (1 : Int32)))) b_elements) (fun u6 => (if (lg_cmp u6 ((0 : Int64))) = 0 then zf_X8_fits_64 b_elements (zf_X8_fits_10 b_elements n) v1 v2 v4 true u5.2.2 u5.2.1 b_minds u5.2.2 else zf_X8_fits_64 b_elements (zf_X8_fits_10 b_elements n) v1 v2 v4 false u5.2.2 u5.2.1 b_minds u5.2.2))))))) else zf_X8_fits_79 b_elements v3 b_now b_minds b_fled))
def zf_X8_fits (x1 : Int32) (x2 : Int32) (b_now : Nat → Int32) (b_minds : Nat → Int32) (b_fled : Bool) (b_elements : Nat → Int64) : Option (Bool × (Nat → Int32) × (Nat → Int32) × Bool) := (Option.bind (zf_X8_keep (((1 : Int32))) b_now b_minds) (fun u1 => zf_X8_fits_10 b_elements FU x1 x2 true ((0 : Int32)) b_now u1 b_fled))
abbrev zr_X8_fits : Room := { frames := 3, cells := 0, slots := 0, locals := 65 }
set_option maxHeartbeats 4000000 in
set_option maxRecDepth 100000 in
theorem c_X8_fits (l : Launch) (G : va_G) (cy : Nat → ClassId) (tt : Nat → Nat) (M : Nat → Nat) (b_isKept : Bool) (b_size : Int32) (b_at : Int32) (b_from : Int32) (b_sort : Int32) (b_flights : Int32) (b_firstFlight : Int32) (b_bestHarms : Int32) (b_bestRage : Int32) (b_harmed : Int64) (b_raged : Int64) (x1 : Int32) (x2 : Int32) (b_now : Nat → Int32) (b_minds : Nat → Int32) (b_fled : Bool) (b_elements : Nat → Int64) (res : Bool × (Nat → Int32) × (Nat → Int32) × Bool) (hf : zf_X8_fits x1 x2 b_now b_minds b_fled b_elements = some res) : zCT l yX8_fits cX8_fits 6 (some .boolean) zr_X8_fits G cy tt [.ref ((M 0)), .int x1, .int x2] [xM M b_isKept b_size b_at b_from b_sort b_fled b_flights b_firstFlight b_bestHarms b_bestRage b_harmed b_raged, xI cy ((M 2)) 39 b_now, xI cy ((M 4)) 273 b_minds, xJ cy ((M 9)) 320 b_elements] (some (.int (bI res.1))) [xM M b_isKept b_size b_at b_from b_sort res.2.2.2 b_flights b_firstFlight b_bestHarms b_bestRage b_harmed b_raged, xI cy ((M 2)) 39 res.2.1, xI cy ((M 4)) 273 res.2.2.1, xJ cy ((M 9)) 320 b_elements] := by
  refine zk_start zn_X8 (Nat.le_of_ble_eq_true rfl) ?_
  intro p e s m args below meth c A ls Q C hr hQ hw hl
  have C : zCx p m c s args meth cX8_fits 6 RX8 G cy tt A := C
  have hx := C.1.1
  have hb := C.1.2.1
  have hl : lv_has ls 6 [(0, .ref ((M 0))), (1, .int x1), (2, .int x2)] := hl
  have J72 : ∀ (k10 : Int32 → Int32 → Bool → Int32 → (Nat → Int32) → (Nat → Int32) → Bool → Option (Bool × (Nat → Int32) × (Nat → Int32) × Bool)) (K10 : ∀ (v1 : Int32) (v2 : Int32) (v3 : Bool) (v4 : Int32) (b_now : Nat → Int32) (b_minds : Nat → Int32) (b_fled : Bool) (H : Heap) (locs : List Loc) (ls : Array Slot), k10 v1 v2 v3 v4 b_now b_minds b_fled = some res → zWd G A s.heap H locs [xM M b_isKept b_size b_at b_from b_sort b_fled b_flights b_firstFlight b_bestHarms b_bestRage b_harmed b_raged, xI cy ((M 2)) 39 b_now, xI cy ((M 4)) 273 b_minds, xJ cy ((M 9)) 320 b_elements] → lv_has ls 6 [(0, .ref ((M 0))), (1, .int v1), (2, .int v2), (3, .int (bI v3)), (4, .int v4)] → W p l e zr_X8_fits s m args below meth c H locs 0 0 Q (F0 m 10 ls [])), ∀ (v1 : Int32) (v2 : Int32) (v4 : Int32) (t0 : Bool) (b_now : Nat → Int32) (b_minds : Nat → Int32) (b_fled : Bool) (H : Heap) (locs : List Loc) (ls : Array Slot), zf_X8_fits_72 b_elements k10 v1 v2 v4 t0 b_now b_minds b_fled = some res → zWd G A s.heap H locs [xM M b_isKept b_size b_at b_from b_sort b_fled b_flights b_firstFlight b_bestHarms b_bestRage b_harmed b_raged, xI cy ((M 2)) 39 b_now, xI cy ((M 4)) 273 b_minds, xJ cy ((M 9)) 320 b_elements] → lv_has ls 6 [(0, .ref ((M 0))), (1, .int v1), (2, .int v2), (4, .int v4)] → W p l e zr_X8_fits s m args below meth c H locs 0 0 Q (F0 m 72 ls [.int (bI t0)]) := by
    intro k10 K10 v1 v2 v4 t0 b_now b_minds b_fled H locs ls hf hw hl
    rw [zf_X8_fits_72] at hf
    refine lv_istore_n (pc := 72) (lv' := [(3, .int (bI t0)), (0, .ref ((M 0))), (1, .int v1), (2, .int v2), (4, .int v4)]) hx hb dX8_fits_72 rfl hl (by decide) rfl (fun ls hl => ?_)
    refine lv_iinc (pc := 73) (v := (v4 + 1)) (lv' := [(4, .int ((v4 + 1))), (3, .int (bI t0)), (0, .ref ((M 0))), (1, .int v1), (2, .int v2)]) hx hb dX8_fits_73 hl (k := 4) rfl rfl (by decide) rfl (fun ls hl => ?_)
    refine lv_goto (pc := 76) (tgt := 10) hx hb dX8_fits_76 (by decide) ?_
    exact K10 v1 v2 t0 ((v4 + 1)) b_now b_minds b_fled _ _ _ hf hw (lv_sub hl [2, 3, 4, 1, 0] rfl)
  have J64 : ∀ (k10 : Int32 → Int32 → Bool → Int32 → (Nat → Int32) → (Nat → Int32) → Bool → Option (Bool × (Nat → Int32) × (Nat → Int32) × Bool)) (K10 : ∀ (v1 : Int32) (v2 : Int32) (v3 : Bool) (v4 : Int32) (b_now : Nat → Int32) (b_minds : Nat → Int32) (b_fled : Bool) (H : Heap) (locs : List Loc) (ls : Array Slot), k10 v1 v2 v3 v4 b_now b_minds b_fled = some res → zWd G A s.heap H locs [xM M b_isKept b_size b_at b_from b_sort b_fled b_flights b_firstFlight b_bestHarms b_bestRage b_harmed b_raged, xI cy ((M 2)) 39 b_now, xI cy ((M 4)) 273 b_minds, xJ cy ((M 9)) 320 b_elements] → lv_has ls 6 [(0, .ref ((M 0))), (1, .int v1), (2, .int v2), (3, .int (bI v3)), (4, .int v4)] → W p l e zr_X8_fits s m args below meth c H locs 0 0 Q (F0 m 10 ls [])), ∀ (v1 : Int32) (v2 : Int32) (v4 : Int32) (t0 : Bool) (t1 : Bool) (b_now : Nat → Int32) (b_minds : Nat → Int32) (b_fled : Bool) (H : Heap) (locs : List Loc) (ls : Array Slot), zf_X8_fits_64 b_elements k10 v1 v2 v4 t0 t1 b_now b_minds b_fled = some res → zWd G A s.heap H locs [xM M b_isKept b_size b_at b_from b_sort b_fled b_flights b_firstFlight b_bestHarms b_bestRage b_harmed b_raged, xI cy ((M 2)) 39 b_now, xI cy ((M 4)) 273 b_minds, xJ cy ((M 9)) 320 b_elements] → lv_has ls 6 [(0, .ref ((M 0))), (1, .int v1), (2, .int v2), (4, .int v4)] → W p l e zr_X8_fits s m args below meth c H locs 0 0 Q (F0 m 64 ls [.int (bI t0), .int (bI t1)]) := by
    intro k10 K10 v1 v2 v4 t0 t1 b_now b_minds b_fled H locs ls hf hw hl
    rw [zf_X8_fits_64] at hf
    refine lv_icmp_ne (pc := 64) (tgt := 71) hx hb dX8_fits_64 (by decide) (fun q8 => ?_) (fun q8 => ?_)
    · replace hf := if_f q8 hf
      refine lv_iconst (pc := 71) (v := 0) hx hb dX8_fits_71 (by decide) ?_
      exact J72 k10 K10 v1 v2 v4 false b_now b_minds b_fled _ _ _ hf hw (lv_sub hl [0, 1, 2, 3] rfl)
    · replace hf := if_t q8 hf
      refine lv_iconst (pc := 67) (v := 1) hx hb dX8_fits_67 (by decide) ?_
      refine lv_goto (pc := 68) (tgt := 72) hx hb dX8_fits_68 (by decide) ?_
      exact J72 k10 K10 v1 v2 v4 true b_now b_minds b_fled _ _ _ hf hw (lv_sub hl [0, 1, 2, 3] rfl)
  have J79 : ∀ (v3 : Bool) (b_now : Nat → Int32) (b_minds : Nat → Int32) (b_fled : Bool) (H : Heap) (locs : List Loc) (ls : Array Slot), zf_X8_fits_79 b_elements v3 b_now b_minds b_fled = some res → zWd G A s.heap H locs [xM M b_isKept b_size b_at b_from b_sort b_fled b_flights b_firstFlight b_bestHarms b_bestRage b_harmed b_raged, xI cy ((M 2)) 39 b_now, xI cy ((M 4)) 273 b_minds, xJ cy ((M 9)) 320 b_elements] → lv_has ls 6 [(0, .ref ((M 0))), (3, .int (bI v3))] → W p l e zr_X8_fits s m args below meth c H locs 0 0 Q (F0 m 79 ls []) := by
    intro v3 b_now b_minds b_fled H locs ls hf hw hl
    rw [zf_X8_fits_79] at hf
    refine lv_aload_n (pc := 79) hx hb dX8_fits_79 rfl (lv_at hl 0 rfl) ?_
    refine lv_iconst (pc := 80) (v := 1) hx hb dX8_fits_80 (by decide) ?_
    obtain ⟨u9, u9e, hf⟩ := bd hf
    refine zk_cV (pc := 81) (ci := 8) (q0 := 0) (rest := []) (st1 := []) (w' := [xM M b_isKept b_size b_at b_from b_sort b_fled b_flights b_firstFlight b_bestHarms b_bestRage b_harmed b_raged, xI cy ((M 2)) 39 u9, xI cy ((M 4)) 273 b_minds, xJ cy ((M 9)) 320 b_elements]) (mk := [none, some (xI cy ((M 2)) 39 u9), none, none]) C hw (c_X8_lay l G cy tt M b_isKept b_size b_at b_from b_sort b_fled b_flights b_firstFlight b_bestHarms b_bestRage b_harmed b_raged (((1 : Int32))) b_now b_minds _ u9e) zy_X8_lay zm_X8_150 rfl rfl rfl [0, 1, 2] rfl rfl rfl rfl rfl rfl rfl rfl hl.1 ⟨rfl, rfl⟩ ⟨Nat.le_of_ble_eq_true rfl, Nat.le_of_ble_eq_true rfl⟩ rfl (Nat.le_of_ble_eq_true rfl) ⟨Nat.zero_le _, Nat.zero_le _⟩ dX8_fits_81 (fun H locs hw => ?_)
    refine lv_iload_n (pc := 84) hx hb dX8_fits_84 rfl (lv_at hl 1 rfl) ?_
    have hf := Option.some.inj hf
    subst hf
    exact zk_retz (pc := 85) (b := v3) (ww := [xM M b_isKept b_size b_at b_from b_sort b_fled b_flights b_firstFlight b_bestHarms b_bestRage b_harmed b_raged, xI cy ((M 2)) 39 u9, xI cy ((M 4)) 273 b_minds, xJ cy ((M 9)) 320 b_elements]) C hw hr hQ dX8_fits_85
  have J10 : ∀ (n : Nat), ∀ (v1 : Int32) (v2 : Int32) (v3 : Bool) (v4 : Int32) (b_now : Nat → Int32) (b_minds : Nat → Int32) (b_fled : Bool) (H : Heap) (locs : List Loc) (ls : Array Slot), zf_X8_fits_10 b_elements n v1 v2 v3 v4 b_now b_minds b_fled = some res → zWd G A s.heap H locs [xM M b_isKept b_size b_at b_from b_sort b_fled b_flights b_firstFlight b_bestHarms b_bestRage b_harmed b_raged, xI cy ((M 2)) 39 b_now, xI cy ((M 4)) 273 b_minds, xJ cy ((M 9)) 320 b_elements] → lv_has ls 6 [(0, .ref ((M 0))), (1, .int v1), (2, .int v2), (3, .int (bI v3)), (4, .int v4)] → W p l e zr_X8_fits s m args below meth c H locs 0 0 Q (F0 m 10 ls []) := by
    intro n
    induction n with
    | zero =>
      intro v1 v2 v3 v4 b_now b_minds b_fled H locs ls hf hw hl
      rw [zf_X8_fits_10] at hf
      cases hf
    | succ n ih =>
      intro v1 v2 v3 v4 b_now b_minds b_fled H locs ls hf hw hl
      rw [zf_X8_fits_10] at hf
      refine lv_iload (pc := 10) hx hb dX8_fits_10 (lv_at hl 4 rfl) ?_
      refine lv_iload_n (pc := 12) hx hb dX8_fits_12 rfl (lv_at hl 2 rfl) ?_
      refine lv_icmp_ge (pc := 13) (tgt := 79) hx hb dX8_fits_13 (by decide) (fun q2 => ?_) (fun q2 => ?_)
      · replace hf := if_t q2 hf
        exact J79 v3 b_now b_minds b_fled _ _ _ hf hw (lv_sub hl [0, 3] rfl)
      · replace hf := if_f q2 hf
        refine lv_iload_n (pc := 16) hx hb dX8_fits_16 rfl (lv_at hl 3 rfl) ?_
        refine zk_ifz (pc := 17) (tgt := 79) hx hb dX8_fits_17 (by decide) (fun q3 => ?_) (fun q3 => ?_)
        · replace hf := if_f q3 hf
          exact J79 v3 b_now b_minds b_fled _ _ _ hf hw (lv_sub hl [0, 3] rfl)
        · replace hf := if_t q3 hf
          refine lv_aload_n (pc := 20) hx hb dX8_fits_20 rfl (lv_at hl 0 rfl) ?_
          refine lv_iload_n (pc := 21) hx hb dX8_fits_21 rfl (lv_at hl 1 rfl) ?_
          refine lv_iconst (pc := 22) (v := 2) hx hb dX8_fits_22 (by decide) ?_
          refine lv_iload (pc := 23) hx hb dX8_fits_23 (lv_at hl 4 rfl) ?_
          refine lv_imul (pc := 25) hx hb dX8_fits_25 ?_
          obtain ⟨u4, u4e, hf⟩ := bd hf
          refine zk_cV (pc := 26) (ci := 8) (q0 := 0) (rest := []) (st1 := [.long u4]) (w' := [xM M b_isKept b_size b_at b_from b_sort b_fled b_flights b_firstFlight b_bestHarms b_bestRage b_harmed b_raged, xI cy ((M 2)) 39 b_now, xI cy ((M 4)) 273 b_minds, xJ cy ((M 9)) 320 b_elements]) (mk := [none, none, none, none]) C hw (c_X8_told l G cy tt M b_isKept b_size b_at b_from b_sort b_fled b_flights b_firstFlight b_bestHarms b_bestRage b_harmed b_raged v1 ((((2 : Int32) * v4))) b_elements _ u4e) zy_X8_told zm_X8_206 rfl rfl rfl [0, 3] rfl rfl rfl rfl rfl rfl rfl rfl hl.1 ⟨rfl, rfl⟩ ⟨Nat.le_of_ble_eq_true rfl, Nat.le_of_ble_eq_true rfl⟩ rfl (Nat.le_of_ble_eq_true rfl) ⟨Nat.zero_le _, Nat.zero_le _⟩ dX8_fits_26 (fun H locs hw => ?_)
          refine lv_l2i (pc := 29) (v := u4.toInt32) hx hb dX8_fits_29 rfl ?_
          refine lv_istore (pc := 30) (lv' := [(5, .int u4.toInt32), (0, .ref ((M 0))), (1, .int v1), (2, .int v2), (3, .int (bI v3)), (4, .int v4)]) hx hb dX8_fits_30 hl (by decide) rfl (fun ls hl => ?_)
          refine lv_aload_n (pc := 32) hx hb dX8_fits_32 rfl (lv_at hl 1 rfl) ?_
          refine lv_iload (pc := 33) hx hb dX8_fits_33 (lv_at hl 0 rfl) ?_
          obtain ⟨u5, u5e, hf⟩ := bd hf
          refine zk_cV (pc := 35) (ci := 8) (q0 := 0) (rest := []) (st1 := [.int u5.1]) (w' := [xM M b_isKept b_size b_at b_from b_sort u5.2.2 b_flights b_firstFlight b_bestHarms b_bestRage b_harmed b_raged, xI cy ((M 2)) 39 u5.2.1, xI cy ((M 4)) 273 b_minds, xJ cy ((M 9)) 320 b_elements]) (mk := [some (xM M b_isKept b_size b_at b_from b_sort u5.2.2 b_flights b_firstFlight b_bestHarms b_bestRage b_harmed b_raged), some (xI cy ((M 2)) 39 u5.2.1), none, none]) C hw (c_X8_step l G cy tt M b_isKept b_size b_at b_from b_sort b_flights b_firstFlight b_bestHarms b_bestRage b_harmed b_raged u4.toInt32 b_now b_fled _ u5e) zy_X8_step zm_X8_181 rfl rfl rfl [0, 1] rfl rfl rfl rfl rfl rfl rfl rfl hl.1 ⟨rfl, rfl⟩ ⟨Nat.le_of_ble_eq_true rfl, Nat.le_of_ble_eq_true rfl⟩ rfl (Nat.le_of_ble_eq_true rfl) ⟨Nat.zero_le _, Nat.zero_le _⟩ dX8_fits_35 (fun H locs hw => ?_)
          refine lv_pop (pc := 38) hx hb dX8_fits_38 rfl ?_
          refine lv_aload_n (pc := 39) hx hb dX8_fits_39 rfl (lv_at hl 1 rfl) ?_
          refine zk_gt (pc := 40) C hw zl_X8_162 0 rfl rfl dX8_fits_40 ?_
          refine lv_aload_n (pc := 43) hx hb dX8_fits_43 rfl (lv_at hl 1 rfl) ?_
          refine lv_iload_n (pc := 44) hx hb dX8_fits_44 rfl (lv_at hl 2 rfl) ?_
          refine lv_iconst (pc := 45) (v := 2) hx hb dX8_fits_45 (by decide) ?_
          refine lv_iload (pc := 46) hx hb dX8_fits_46 (lv_at hl 5 rfl) ?_
          refine lv_imul (pc := 48) hx hb dX8_fits_48 ?_
          refine lv_iconst (pc := 49) (v := 1) hx hb dX8_fits_49 (by decide) ?_
          refine lv_iadd (pc := 50) hx hb dX8_fits_50 ?_
          obtain ⟨u6, u6e, hf⟩ := bd hf
          refine zk_cV (pc := 51) (ci := 8) (q0 := 0) (rest := [.int (bI u5.2.2)]) (st1 := [.long u6, .int (bI u5.2.2)]) (w' := [xM M b_isKept b_size b_at b_from b_sort u5.2.2 b_flights b_firstFlight b_bestHarms b_bestRage b_harmed b_raged, xI cy ((M 2)) 39 u5.2.1, xI cy ((M 4)) 273 b_minds, xJ cy ((M 9)) 320 b_elements]) (mk := [none, none, none, none]) C hw (c_X8_told l G cy tt M b_isKept b_size b_at b_from b_sort u5.2.2 b_flights b_firstFlight b_bestHarms b_bestRage b_harmed b_raged v1 (((((2 : Int32) * v4) + (1 : Int32)))) b_elements _ u6e) zy_X8_told zm_X8_206 rfl rfl rfl [0, 3] rfl rfl rfl rfl rfl rfl rfl rfl hl.1 ⟨rfl, rfl⟩ ⟨Nat.le_of_ble_eq_true rfl, Nat.le_of_ble_eq_true rfl⟩ rfl (Nat.le_of_ble_eq_true rfl) ⟨Nat.zero_le _, Nat.zero_le _⟩ dX8_fits_51 (fun H locs hw => ?_)
          refine lv_lconst (pc := 54) (v := 0) hx hb dX8_fits_54 (by decide) ?_
          refine W.lcmp (pc := 55) hx hb dX8_fits_55 ?_
          refine lv_if_ne (pc := 56) (tgt := 63) hx hb dX8_fits_56 (by decide) (fun q7 => ?_) (fun q7 => ?_)
          · replace hf := if_f q7 hf
            refine lv_iconst (pc := 63) (v := 0) hx hb dX8_fits_63 (by decide) ?_
            exact J64 (zf_X8_fits_10 b_elements n) ih v1 v2 v4 false u5.2.2 u5.2.1 b_minds u5.2.2 _ _ _ hf hw (lv_sub hl [1, 2, 3, 5] rfl)
          · replace hf := if_t q7 hf
            refine lv_iconst (pc := 59) (v := 1) hx hb dX8_fits_59 (by decide) ?_
            refine lv_goto (pc := 60) (tgt := 64) hx hb dX8_fits_60 (by decide) ?_
            exact J64 (zf_X8_fits_10 b_elements n) ih v1 v2 v4 true u5.2.2 u5.2.1 b_minds u5.2.2 _ _ _ hf hw (lv_sub hl [1, 2, 3, 5] rfl)
  rw [zf_X8_fits] at hf
  refine lv_aload_n (pc := 0) hx hb dX8_fits_0 rfl (lv_at hl 0 rfl) ?_
  refine lv_iconst (pc := 1) (v := 1) hx hb dX8_fits_1 (by decide) ?_
  obtain ⟨u1, u1e, hf⟩ := bd hf
  refine zk_cV (pc := 2) (ci := 8) (q0 := 0) (rest := []) (st1 := []) (w' := [xM M b_isKept b_size b_at b_from b_sort b_fled b_flights b_firstFlight b_bestHarms b_bestRage b_harmed b_raged, xI cy ((M 2)) 39 b_now, xI cy ((M 4)) 273 u1, xJ cy ((M 9)) 320 b_elements]) (mk := [none, none, some (xI cy ((M 4)) 273 u1), none]) C hw (c_X8_keep l G cy tt M b_isKept b_size b_at b_from b_sort b_fled b_flights b_firstFlight b_bestHarms b_bestRage b_harmed b_raged (((1 : Int32))) b_now b_minds _ u1e) zy_X8_keep zm_X8_142 rfl rfl rfl [0, 1, 2] rfl rfl rfl rfl rfl rfl rfl rfl hl.1 ⟨rfl, rfl⟩ ⟨Nat.le_of_ble_eq_true rfl, Nat.le_of_ble_eq_true rfl⟩ rfl (Nat.le_of_ble_eq_true rfl) ⟨Nat.zero_le _, Nat.zero_le _⟩ dX8_fits_2 (fun H locs hw => ?_)
  refine lv_iconst (pc := 5) (v := 1) hx hb dX8_fits_5 (by decide) ?_
  refine lv_istore_n (pc := 6) (lv' := [(3, .int ((1 : Int32))), (0, .ref ((M 0))), (1, .int x1), (2, .int x2)]) hx hb dX8_fits_6 rfl hl (by decide) rfl (fun ls hl => ?_)
  refine lv_iconst (pc := 7) (v := 0) hx hb dX8_fits_7 (by decide) ?_
  refine lv_istore (pc := 8) (lv' := [(4, .int ((0 : Int32))), (3, .int ((1 : Int32))), (0, .ref ((M 0))), (1, .int x1), (2, .int x2)]) hx hb dX8_fits_8 hl (by decide) rfl (fun ls hl => ?_)
  exact J10 FU x1 x2 true ((0 : Int32)) b_now u1 b_fled _ _ _ hf hw (lv_sub hl [2, 3, 4, 1, 0] rfl)
def zf_X8_fillFit_50 (b_elements : Nat → Int64) (k8 : Int32 → Int32 → Int32 → Int32 → Int32 → (Nat → Int32) → (Nat → Int32) → Bool → (Nat → Int32) → Option ((Nat → Int32) × (Nat → Int32) × Bool × (Nat → Int32))) (v1 : Int32) (v2 : Int32) (v3 : Int32) (v4 : Int32) (v5 : Int32) (t0 : Bool) (t1 : Int32) (b_now : Nat → Int32) (b_minds : Nat → Int32) (b_fled : Bool) (b_fit : Nat → Int32) : Option ((Nat → Int32) × (Nat → Int32) × Bool × (Nat → Int32)) := (if ix t1 100 then k8 v1 v2 v3 v4 ((v5 + 1)) b_now b_minds b_fled ((upd b_fit t1.toNatClampNeg ((bI t0)))) else none)
def zf_X8_fillFit_49 (b_elements : Nat → Int64) (k8 : Int32 → Int32 → Int32 → Int32 → Int32 → (Nat → Int32) → (Nat → Int32) → Bool → (Nat → Int32) → Option ((Nat → Int32) × (Nat → Int32) × Bool × (Nat → Int32))) (v1 : Int32) (v2 : Int32) (v3 : Int32) (v4 : Int32) (v5 : Int32) (t0 : Int32) (b_now : Nat → Int32) (b_minds : Nat → Int32) (b_fled : Bool) (b_fit : Nat → Int32) : Option ((Nat → Int32) × (Nat → Int32) × Bool × (Nat → Int32)) := zf_X8_fillFit_50 b_elements k8 v1 v2 v3 v4 v5 false t0 b_now b_minds b_fled b_fit
def zf_X8_fillFit_8 (b_elements : Nat → Int64) : Nat → Int32 → Int32 → Int32 → Int32 → Int32 → (Nat → Int32) → (Nat → Int32) → Bool → (Nat → Int32) → Option ((Nat → Int32) × (Nat → Int32) × Bool × (Nat → Int32))
  | 0, _, _, _, _, _, _, _, _, _ => none
  | n + 1, v1, v2, v3, v4, v5, b_now, b_minds, b_fled, b_fit => (if (100 : Int32) ≤ v5 then (Option.bind (zf_X8_lay (((0 : Int32))) b_now b_minds) (fun u3 => some (u3, b_minds, b_fled, b_fit))) else (if ix v3 39 then (if v4 < v5 then zf_X8_fillFit_49 b_elements (zf_X8_fillFit_8 b_elements n) v1 v2 v3 v4 v5 v5 ((upd b_now v3.toNatClampNeg v5)) b_minds b_fled b_fit else (Option.bind (zf_X8_fits v1 v2 ((upd b_now v3.toNatClampNeg v5)) b_minds b_fled b_elements) (fun u6 => (if u6.1 then zf_X8_fillFit_50 b_elements (zf_X8_fillFit_8 b_elements n) v1 v2 v3 v4 v5 true v5 u6.2.1 u6.2.2.1 u6.2.2.2 b_fit else zf_X8_fillFit_49 b_elements (zf_X8_fillFit_8 b_elements n) v1 v2 v3 v4 v5 v5 u6.2.1 u6.2.2.1 u6.2.2.2 b_fit)))) else none))
def zf_X8_fillFit (x1 : Int32) (x2 : Int32) (x3 : Int32) (x4 : Int32) (b_now : Nat → Int32) (b_minds : Nat → Int32) (b_fled : Bool) (b_elements : Nat → Int64) (b_fit : Nat → Int32) : Option ((Nat → Int32) × (Nat → Int32) × Bool × (Nat → Int32)) := (Option.bind (zf_X8_keep (((0 : Int32))) b_now b_minds) (fun u1 => zf_X8_fillFit_8 b_elements FU x1 x2 x3 x4 ((0 : Int32)) b_now u1 b_fled b_fit))
abbrev zr_X8_fillFit : Room := { frames := 4, cells := 0, slots := 0, locals := 90 }
set_option maxHeartbeats 4000000 in
set_option maxRecDepth 100000 in
theorem c_X8_fillFit (l : Launch) (G : va_G) (cy : Nat → ClassId) (tt : Nat → Nat) (M : Nat → Nat) (b_isKept : Bool) (b_size : Int32) (b_at : Int32) (b_from : Int32) (b_sort : Int32) (b_flights : Int32) (b_firstFlight : Int32) (b_bestHarms : Int32) (b_bestRage : Int32) (b_harmed : Int64) (b_raged : Int64) (x1 : Int32) (x2 : Int32) (x3 : Int32) (x4 : Int32) (b_now : Nat → Int32) (b_minds : Nat → Int32) (b_fled : Bool) (b_elements : Nat → Int64) (b_fit : Nat → Int32) (res : (Nat → Int32) × (Nat → Int32) × Bool × (Nat → Int32)) (hf : zf_X8_fillFit x1 x2 x3 x4 b_now b_minds b_fled b_elements b_fit = some res) : zCT l yX8_fillFit cX8_fillFit 6 none zr_X8_fillFit G cy tt [.ref ((M 0)), .int x1, .int x2, .int x3, .int x4] [xM M b_isKept b_size b_at b_from b_sort b_fled b_flights b_firstFlight b_bestHarms b_bestRage b_harmed b_raged, xI cy ((M 2)) 39 b_now, xI cy ((M 4)) 273 b_minds, xJ cy ((M 9)) 320 b_elements, xZ cy ((M 14)) 100 b_fit] none [xM M b_isKept b_size b_at b_from b_sort res.2.2.1 b_flights b_firstFlight b_bestHarms b_bestRage b_harmed b_raged, xI cy ((M 2)) 39 res.1, xI cy ((M 4)) 273 res.2.1, xJ cy ((M 9)) 320 b_elements, xZ cy ((M 14)) 100 res.2.2.2] := by
  refine zk_start zn_X8 (Nat.le_of_ble_eq_true rfl) ?_
  intro p e s m args below meth c A ls Q C hr hQ hw hl
  have C : zCx p m c s args meth cX8_fillFit 6 RX8 G cy tt A := C
  have hx := C.1.1
  have hb := C.1.2.1
  have hl : lv_has ls 6 [(0, .ref ((M 0))), (1, .int x1), (2, .int x2), (3, .int x3), (4, .int x4)] := hl
  have J50 : ∀ (k8 : Int32 → Int32 → Int32 → Int32 → Int32 → (Nat → Int32) → (Nat → Int32) → Bool → (Nat → Int32) → Option ((Nat → Int32) × (Nat → Int32) × Bool × (Nat → Int32))) (K8 : ∀ (v1 : Int32) (v2 : Int32) (v3 : Int32) (v4 : Int32) (v5 : Int32) (b_now : Nat → Int32) (b_minds : Nat → Int32) (b_fled : Bool) (b_fit : Nat → Int32) (H : Heap) (locs : List Loc) (ls : Array Slot), k8 v1 v2 v3 v4 v5 b_now b_minds b_fled b_fit = some res → zWd G A s.heap H locs [xM M b_isKept b_size b_at b_from b_sort b_fled b_flights b_firstFlight b_bestHarms b_bestRage b_harmed b_raged, xI cy ((M 2)) 39 b_now, xI cy ((M 4)) 273 b_minds, xJ cy ((M 9)) 320 b_elements, xZ cy ((M 14)) 100 b_fit] → lv_has ls 6 [(0, .ref ((M 0))), (1, .int v1), (2, .int v2), (3, .int v3), (4, .int v4), (5, .int v5)] → W p l e zr_X8_fillFit s m args below meth c H locs 0 0 Q (F0 m 8 ls [])), ∀ (v1 : Int32) (v2 : Int32) (v3 : Int32) (v4 : Int32) (v5 : Int32) (t0 : Bool) (t1 : Int32) (b_now : Nat → Int32) (b_minds : Nat → Int32) (b_fled : Bool) (b_fit : Nat → Int32) (H : Heap) (locs : List Loc) (ls : Array Slot), zf_X8_fillFit_50 b_elements k8 v1 v2 v3 v4 v5 t0 t1 b_now b_minds b_fled b_fit = some res → zWd G A s.heap H locs [xM M b_isKept b_size b_at b_from b_sort b_fled b_flights b_firstFlight b_bestHarms b_bestRage b_harmed b_raged, xI cy ((M 2)) 39 b_now, xI cy ((M 4)) 273 b_minds, xJ cy ((M 9)) 320 b_elements, xZ cy ((M 14)) 100 b_fit] → lv_has ls 6 [(0, .ref ((M 0))), (1, .int v1), (2, .int v2), (3, .int v3), (4, .int v4), (5, .int v5)] → W p l e zr_X8_fillFit s m args below meth c H locs 0 0 Q (F0 m 50 ls [.int (bI t0), .int t1, .ref ((M 14))]) := by
    intro k8 K8 v1 v2 v3 v4 v5 t0 t1 b_now b_minds b_fled b_fit H locs ls hf hw hl
    rw [zf_X8_fillFit_50] at hf
    obtain ⟨q8, hf⟩ := ck hf
    refine zk_zast (pc := 50) (bb := t0) (w' := [xM M b_isKept b_size b_at b_from b_sort b_fled b_flights b_firstFlight b_bestHarms b_bestRage b_harmed b_raged, xI cy ((M 2)) 39 b_now, xI cy ((M 4)) 273 b_minds, xJ cy ((M 9)) 320 b_elements, xZ cy ((M 14)) 100 ((upd b_fit t1.toNatClampNeg ((bI t0))))]) C hw 4 rfl q8 rfl dX8_fillFit_50 (fun H locs hw => ?_)
    refine lv_iinc (pc := 51) (v := (v5 + 1)) (lv' := [(5, .int ((v5 + 1))), (0, .ref ((M 0))), (1, .int v1), (2, .int v2), (3, .int v3), (4, .int v4)]) hx hb dX8_fillFit_51 hl (k := 5) rfl rfl (by decide) rfl (fun ls hl => ?_)
    refine lv_goto (pc := 54) (tgt := 8) hx hb dX8_fillFit_54 (by decide) ?_
    exact K8 v1 v2 v3 v4 ((v5 + 1)) b_now b_minds b_fled ((upd b_fit t1.toNatClampNeg ((bI t0)))) _ _ _ hf hw (lv_sub hl [1, 2, 3, 4, 5, 0] rfl)
  have J49 : ∀ (k8 : Int32 → Int32 → Int32 → Int32 → Int32 → (Nat → Int32) → (Nat → Int32) → Bool → (Nat → Int32) → Option ((Nat → Int32) × (Nat → Int32) × Bool × (Nat → Int32))) (K8 : ∀ (v1 : Int32) (v2 : Int32) (v3 : Int32) (v4 : Int32) (v5 : Int32) (b_now : Nat → Int32) (b_minds : Nat → Int32) (b_fled : Bool) (b_fit : Nat → Int32) (H : Heap) (locs : List Loc) (ls : Array Slot), k8 v1 v2 v3 v4 v5 b_now b_minds b_fled b_fit = some res → zWd G A s.heap H locs [xM M b_isKept b_size b_at b_from b_sort b_fled b_flights b_firstFlight b_bestHarms b_bestRage b_harmed b_raged, xI cy ((M 2)) 39 b_now, xI cy ((M 4)) 273 b_minds, xJ cy ((M 9)) 320 b_elements, xZ cy ((M 14)) 100 b_fit] → lv_has ls 6 [(0, .ref ((M 0))), (1, .int v1), (2, .int v2), (3, .int v3), (4, .int v4), (5, .int v5)] → W p l e zr_X8_fillFit s m args below meth c H locs 0 0 Q (F0 m 8 ls [])), ∀ (v1 : Int32) (v2 : Int32) (v3 : Int32) (v4 : Int32) (v5 : Int32) (t0 : Int32) (b_now : Nat → Int32) (b_minds : Nat → Int32) (b_fled : Bool) (b_fit : Nat → Int32) (H : Heap) (locs : List Loc) (ls : Array Slot), zf_X8_fillFit_49 b_elements k8 v1 v2 v3 v4 v5 t0 b_now b_minds b_fled b_fit = some res → zWd G A s.heap H locs [xM M b_isKept b_size b_at b_from b_sort b_fled b_flights b_firstFlight b_bestHarms b_bestRage b_harmed b_raged, xI cy ((M 2)) 39 b_now, xI cy ((M 4)) 273 b_minds, xJ cy ((M 9)) 320 b_elements, xZ cy ((M 14)) 100 b_fit] → lv_has ls 6 [(0, .ref ((M 0))), (1, .int v1), (2, .int v2), (3, .int v3), (4, .int v4), (5, .int v5)] → W p l e zr_X8_fillFit s m args below meth c H locs 0 0 Q (F0 m 49 ls [.int t0, .ref ((M 14))]) := by
    intro k8 K8 v1 v2 v3 v4 v5 t0 b_now b_minds b_fled b_fit H locs ls hf hw hl
    rw [zf_X8_fillFit_49] at hf
    refine lv_iconst (pc := 49) (v := 0) hx hb dX8_fillFit_49 (by decide) ?_
    exact J50 k8 K8 v1 v2 v3 v4 v5 false t0 b_now b_minds b_fled b_fit _ _ _ hf hw (lv_sub hl [0, 1, 2, 3, 4, 5] rfl)
  have J8 : ∀ (n : Nat), ∀ (v1 : Int32) (v2 : Int32) (v3 : Int32) (v4 : Int32) (v5 : Int32) (b_now : Nat → Int32) (b_minds : Nat → Int32) (b_fled : Bool) (b_fit : Nat → Int32) (H : Heap) (locs : List Loc) (ls : Array Slot), zf_X8_fillFit_8 b_elements n v1 v2 v3 v4 v5 b_now b_minds b_fled b_fit = some res → zWd G A s.heap H locs [xM M b_isKept b_size b_at b_from b_sort b_fled b_flights b_firstFlight b_bestHarms b_bestRage b_harmed b_raged, xI cy ((M 2)) 39 b_now, xI cy ((M 4)) 273 b_minds, xJ cy ((M 9)) 320 b_elements, xZ cy ((M 14)) 100 b_fit] → lv_has ls 6 [(0, .ref ((M 0))), (1, .int v1), (2, .int v2), (3, .int v3), (4, .int v4), (5, .int v5)] → W p l e zr_X8_fillFit s m args below meth c H locs 0 0 Q (F0 m 8 ls []) := by
    intro n
    induction n with
    | zero =>
      intro v1 v2 v3 v4 v5 b_now b_minds b_fled b_fit H locs ls hf hw hl
      rw [zf_X8_fillFit_8] at hf
      cases hf
    | succ n ih =>
      intro v1 v2 v3 v4 v5 b_now b_minds b_fled b_fit H locs ls hf hw hl
      rw [zf_X8_fillFit_8] at hf
      refine lv_iload (pc := 8) hx hb dX8_fillFit_8 (lv_at hl 5 rfl) ?_
      refine lv_bipush (pc := 10) (v := 100) hx hb dX8_fillFit_10 (by decide) ?_
      refine lv_icmp_ge (pc := 12) (tgt := 57) hx hb dX8_fillFit_12 (by decide) (fun q2 => ?_) (fun q2 => ?_)
      · replace hf := if_t q2 hf
        refine lv_aload_n (pc := 57) hx hb dX8_fillFit_57 rfl (lv_at hl 0 rfl) ?_
        refine lv_iconst (pc := 58) (v := 0) hx hb dX8_fillFit_58 (by decide) ?_
        obtain ⟨u3, u3e, hf⟩ := bd hf
        refine zk_cV (pc := 59) (ci := 8) (q0 := 0) (rest := []) (st1 := []) (w' := [xM M b_isKept b_size b_at b_from b_sort b_fled b_flights b_firstFlight b_bestHarms b_bestRage b_harmed b_raged, xI cy ((M 2)) 39 u3, xI cy ((M 4)) 273 b_minds, xJ cy ((M 9)) 320 b_elements, xZ cy ((M 14)) 100 b_fit]) (mk := [none, some (xI cy ((M 2)) 39 u3), none, none, none]) C hw (c_X8_lay l G cy tt M b_isKept b_size b_at b_from b_sort b_fled b_flights b_firstFlight b_bestHarms b_bestRage b_harmed b_raged (((0 : Int32))) b_now b_minds _ u3e) zy_X8_lay zm_X8_150 rfl rfl rfl [0, 1, 2] rfl rfl rfl rfl rfl rfl rfl rfl hl.1 ⟨rfl, rfl⟩ ⟨Nat.le_of_ble_eq_true rfl, Nat.le_of_ble_eq_true rfl⟩ rfl (Nat.le_of_ble_eq_true rfl) ⟨Nat.zero_le _, Nat.zero_le _⟩ dX8_fillFit_59 (fun H locs hw => ?_)
        have hf := Option.some.inj hf
        subst hf
        exact zk_retv (pc := 62) (ww := [xM M b_isKept b_size b_at b_from b_sort b_fled b_flights b_firstFlight b_bestHarms b_bestRage b_harmed b_raged, xI cy ((M 2)) 39 u3, xI cy ((M 4)) 273 b_minds, xJ cy ((M 9)) 320 b_elements, xZ cy ((M 14)) 100 b_fit]) C hw hr hQ dX8_fillFit_62
      · replace hf := if_f q2 hf
        refine lv_aload_n (pc := 15) hx hb dX8_fillFit_15 rfl (lv_at hl 0 rfl) ?_
        refine zk_gt (pc := 16) C hw zl_X8_17 0 rfl rfl dX8_fillFit_16 ?_
        refine lv_iload_n (pc := 19) hx hb dX8_fillFit_19 rfl (lv_at hl 3 rfl) ?_
        refine lv_iload (pc := 20) hx hb dX8_fillFit_20 (lv_at hl 5 rfl) ?_
        obtain ⟨q4, hf⟩ := ck hf
        refine zk_iast (pc := 22) (w' := [xM M b_isKept b_size b_at b_from b_sort b_fled b_flights b_firstFlight b_bestHarms b_bestRage b_harmed b_raged, xI cy ((M 2)) 39 ((upd b_now v3.toNatClampNeg v5)), xI cy ((M 4)) 273 b_minds, xJ cy ((M 9)) 320 b_elements, xZ cy ((M 14)) 100 b_fit]) C hw 1 rfl q4 rfl dX8_fillFit_22 (fun H locs hw => ?_)
        refine lv_aload_n (pc := 23) hx hb dX8_fillFit_23 rfl (lv_at hl 0 rfl) ?_
        refine zk_gt (pc := 24) C hw zl_X8_55 0 rfl rfl dX8_fillFit_24 ?_
        refine lv_iload (pc := 27) hx hb dX8_fillFit_27 (lv_at hl 5 rfl) ?_
        refine lv_iload (pc := 29) hx hb dX8_fillFit_29 (lv_at hl 5 rfl) ?_
        refine lv_iload (pc := 31) hx hb dX8_fillFit_31 (lv_at hl 4 rfl) ?_
        refine lv_icmp_gt (pc := 33) (tgt := 49) hx hb dX8_fillFit_33 (by decide) (fun q5 => ?_) (fun q5 => ?_)
        · replace hf := if_t q5 hf
          exact J49 (zf_X8_fillFit_8 b_elements n) ih v1 v2 v3 v4 v5 v5 ((upd b_now v3.toNatClampNeg v5)) b_minds b_fled b_fit _ _ _ hf hw (lv_sub hl [0, 1, 2, 3, 4, 5] rfl)
        · replace hf := if_f q5 hf
          refine lv_aload_n (pc := 36) hx hb dX8_fillFit_36 rfl (lv_at hl 0 rfl) ?_
          refine lv_iload_n (pc := 37) hx hb dX8_fillFit_37 rfl (lv_at hl 1 rfl) ?_
          refine lv_iload_n (pc := 38) hx hb dX8_fillFit_38 rfl (lv_at hl 2 rfl) ?_
          obtain ⟨u6, u6e, hf⟩ := bd hf
          refine zk_cV (pc := 39) (ci := 8) (q0 := 0) (rest := [.int v5, .ref ((M 14))]) (st1 := [.int (bI u6.1), .int v5, .ref ((M 14))]) (w' := [xM M b_isKept b_size b_at b_from b_sort u6.2.2.2 b_flights b_firstFlight b_bestHarms b_bestRage b_harmed b_raged, xI cy ((M 2)) 39 u6.2.1, xI cy ((M 4)) 273 u6.2.2.1, xJ cy ((M 9)) 320 b_elements, xZ cy ((M 14)) 100 b_fit]) (mk := [some (xM M b_isKept b_size b_at b_from b_sort u6.2.2.2 b_flights b_firstFlight b_bestHarms b_bestRage b_harmed b_raged), some (xI cy ((M 2)) 39 u6.2.1), some (xI cy ((M 4)) 273 u6.2.2.1), none, none]) C hw (c_X8_fits l G cy tt M b_isKept b_size b_at b_from b_sort b_flights b_firstFlight b_bestHarms b_bestRage b_harmed b_raged v1 v2 ((upd b_now v3.toNatClampNeg v5)) b_minds b_fled b_elements _ u6e) zy_X8_fits zm_X8_246 rfl rfl rfl [0, 1, 2, 3] rfl rfl rfl rfl rfl rfl rfl rfl hl.1 ⟨rfl, rfl⟩ ⟨Nat.le_of_ble_eq_true rfl, Nat.le_of_ble_eq_true rfl⟩ rfl (Nat.le_of_ble_eq_true rfl) ⟨Nat.zero_le _, Nat.zero_le _⟩ dX8_fillFit_39 (fun H locs hw => ?_)
          refine zk_ifz (pc := 42) (tgt := 49) hx hb dX8_fillFit_42 (by decide) (fun q7 => ?_) (fun q7 => ?_)
          · replace hf := if_f q7 hf
            exact J49 (zf_X8_fillFit_8 b_elements n) ih v1 v2 v3 v4 v5 v5 u6.2.1 u6.2.2.1 u6.2.2.2 b_fit _ _ _ hf hw (lv_sub hl [0, 1, 2, 3, 4, 5] rfl)
          · replace hf := if_t q7 hf
            refine lv_iconst (pc := 45) (v := 1) hx hb dX8_fillFit_45 (by decide) ?_
            refine lv_goto (pc := 46) (tgt := 50) hx hb dX8_fillFit_46 (by decide) ?_
            exact J50 (zf_X8_fillFit_8 b_elements n) ih v1 v2 v3 v4 v5 true v5 u6.2.1 u6.2.2.1 u6.2.2.2 b_fit _ _ _ hf hw (lv_sub hl [0, 1, 2, 3, 4, 5] rfl)
  rw [zf_X8_fillFit] at hf
  refine lv_aload_n (pc := 0) hx hb dX8_fillFit_0 rfl (lv_at hl 0 rfl) ?_
  refine lv_iconst (pc := 1) (v := 0) hx hb dX8_fillFit_1 (by decide) ?_
  obtain ⟨u1, u1e, hf⟩ := bd hf
  refine zk_cV (pc := 2) (ci := 8) (q0 := 0) (rest := []) (st1 := []) (w' := [xM M b_isKept b_size b_at b_from b_sort b_fled b_flights b_firstFlight b_bestHarms b_bestRage b_harmed b_raged, xI cy ((M 2)) 39 b_now, xI cy ((M 4)) 273 u1, xJ cy ((M 9)) 320 b_elements, xZ cy ((M 14)) 100 b_fit]) (mk := [none, none, some (xI cy ((M 4)) 273 u1), none, none]) C hw (c_X8_keep l G cy tt M b_isKept b_size b_at b_from b_sort b_fled b_flights b_firstFlight b_bestHarms b_bestRage b_harmed b_raged (((0 : Int32))) b_now b_minds _ u1e) zy_X8_keep zm_X8_142 rfl rfl rfl [0, 1, 2] rfl rfl rfl rfl rfl rfl rfl rfl hl.1 ⟨rfl, rfl⟩ ⟨Nat.le_of_ble_eq_true rfl, Nat.le_of_ble_eq_true rfl⟩ rfl (Nat.le_of_ble_eq_true rfl) ⟨Nat.zero_le _, Nat.zero_le _⟩ dX8_fillFit_2 (fun H locs hw => ?_)
  refine lv_iconst (pc := 5) (v := 0) hx hb dX8_fillFit_5 (by decide) ?_
  refine lv_istore (pc := 6) (lv' := [(5, .int ((0 : Int32))), (0, .ref ((M 0))), (1, .int x1), (2, .int x2), (3, .int x3), (4, .int x4)]) hx hb dX8_fillFit_6 hl (by decide) rfl (fun ls hl => ?_)
  exact J8 FU x1 x2 x3 x4 ((0 : Int32)) b_now u1 b_fled b_fit _ _ _ hf hw (lv_sub hl [1, 2, 3, 4, 5, 0] rfl)
def zf_X8_ofFit_46 (b_fit : Nat → Int32) (k10 : Int32 → Int32 → Int32 → Int32 → Int32 → Option (Int32)) (v1 : Int32) (v2 : Int32) (v3 : Int32) (v4 : Int32) (v5 : Int32) : Option (Int32) := k10 v1 v2 v3 v4 ((v5 + 1))
def zf_X8_ofFit_41 (b_fit : Nat → Int32) (k10 : Int32 → Int32 → Int32 → Int32 → Int32 → Option (Int32)) (v1 : Int32) (v2 : Int32) (v5 : Int32) (t0 : Int32) : Option (Int32) := zf_X8_ofFit_46 b_fit k10 v1 v2 t0 v5 v5
def zf_X8_ofFit_10 (b_fit : Nat → Int32) : Nat → Int32 → Int32 → Int32 → Int32 → Int32 → Option (Int32)
  | 0, _, _, _, _, _ => none
  | n + 1, v1, v2, v3, v4, v5 => (if (100 : Int32) ≤ v5 then (if v1 = 0 then some (v2) else (if v1 = (1 : Int32) then some (v3) else some (v4))) else (if ix v5 100 then (if (b_fit v5.toNatClampNeg) = 0 then zf_X8_ofFit_46 b_fit (zf_X8_ofFit_10 b_fit n) v1 v2 v3 v4 v5 else (if v3 = (-1 : Int32) then zf_X8_ofFit_41 b_fit (zf_X8_ofFit_10 b_fit n) v1 ((v2 + 1)) v5 v5 else zf_X8_ofFit_41 b_fit (zf_X8_ofFit_10 b_fit n) v1 ((v2 + 1)) v5 v3)) else none))
def zf_X8_ofFit (x1 : Int32) (b_fit : Nat → Int32) : Option (Int32) := zf_X8_ofFit_10 b_fit FU x1 ((0 : Int32)) ((-1 : Int32)) ((-1 : Int32)) ((0 : Int32))
abbrev zr_X8_ofFit : Room := { frames := 0, cells := 0, slots := 0, locals := 0 }
set_option maxHeartbeats 4000000 in
set_option maxRecDepth 100000 in
theorem c_X8_ofFit (l : Launch) (G : va_G) (cy : Nat → ClassId) (tt : Nat → Nat) (M : Nat → Nat) (b_isKept : Bool) (b_size : Int32) (b_at : Int32) (b_from : Int32) (b_sort : Int32) (b_fled : Bool) (b_flights : Int32) (b_firstFlight : Int32) (b_bestHarms : Int32) (b_bestRage : Int32) (b_harmed : Int64) (b_raged : Int64) (x1 : Int32) (b_fit : Nat → Int32) (res : Int32) (hf : zf_X8_ofFit x1 b_fit = some res) : zCT l yX8_ofFit cX8_ofFit 6 (some .int) zr_X8_ofFit G cy tt [.ref ((M 0)), .int x1] [xM M b_isKept b_size b_at b_from b_sort b_fled b_flights b_firstFlight b_bestHarms b_bestRage b_harmed b_raged, xZ cy ((M 14)) 100 b_fit] (some (.int res)) [xM M b_isKept b_size b_at b_from b_sort b_fled b_flights b_firstFlight b_bestHarms b_bestRage b_harmed b_raged, xZ cy ((M 14)) 100 b_fit] := by
  refine zk_start zn_X8 (Nat.le_of_ble_eq_true rfl) ?_
  intro p e s m args below meth c A ls Q C hr hQ hw hl
  have C : zCx p m c s args meth cX8_ofFit 6 RX8 G cy tt A := C
  have hx := C.1.1
  have hb := C.1.2.1
  have hl : lv_has ls 6 [(0, .ref ((M 0))), (1, .int x1)] := hl
  have J46 : ∀ (k10 : Int32 → Int32 → Int32 → Int32 → Int32 → Option (Int32)) (K10 : ∀ (v1 : Int32) (v2 : Int32) (v3 : Int32) (v4 : Int32) (v5 : Int32) (H : Heap) (locs : List Loc) (ls : Array Slot), k10 v1 v2 v3 v4 v5 = some res → zWd G A s.heap H locs [xM M b_isKept b_size b_at b_from b_sort b_fled b_flights b_firstFlight b_bestHarms b_bestRage b_harmed b_raged, xZ cy ((M 14)) 100 b_fit] → lv_has ls 6 [(0, .ref ((M 0))), (1, .int v1), (2, .int v2), (3, .int v3), (4, .int v4), (5, .int v5)] → W p l e zr_X8_ofFit s m args below meth c H locs 0 0 Q (F0 m 10 ls [])), ∀ (v1 : Int32) (v2 : Int32) (v3 : Int32) (v4 : Int32) (v5 : Int32) (H : Heap) (locs : List Loc) (ls : Array Slot), zf_X8_ofFit_46 b_fit k10 v1 v2 v3 v4 v5 = some res → zWd G A s.heap H locs [xM M b_isKept b_size b_at b_from b_sort b_fled b_flights b_firstFlight b_bestHarms b_bestRage b_harmed b_raged, xZ cy ((M 14)) 100 b_fit] → lv_has ls 6 [(0, .ref ((M 0))), (1, .int v1), (2, .int v2), (3, .int v3), (4, .int v4), (5, .int v5)] → W p l e zr_X8_ofFit s m args below meth c H locs 0 0 Q (F0 m 46 ls []) := by
    intro k10 K10 v1 v2 v3 v4 v5 H locs ls hf hw hl
    rw [zf_X8_ofFit_46] at hf
    refine lv_iinc (pc := 46) (v := (v5 + 1)) (lv' := [(5, .int ((v5 + 1))), (0, .ref ((M 0))), (1, .int v1), (2, .int v2), (3, .int v3), (4, .int v4)]) hx hb dX8_ofFit_46 hl (k := 5) rfl rfl (by decide) rfl (fun ls hl => ?_)
    refine lv_goto (pc := 49) (tgt := 10) hx hb dX8_ofFit_49 (by decide) ?_
    exact K10 v1 v2 v3 v4 ((v5 + 1)) _ _ _ hf hw (lv_sub hl [1, 2, 3, 4, 5, 0] rfl)
  have J41 : ∀ (k10 : Int32 → Int32 → Int32 → Int32 → Int32 → Option (Int32)) (K10 : ∀ (v1 : Int32) (v2 : Int32) (v3 : Int32) (v4 : Int32) (v5 : Int32) (H : Heap) (locs : List Loc) (ls : Array Slot), k10 v1 v2 v3 v4 v5 = some res → zWd G A s.heap H locs [xM M b_isKept b_size b_at b_from b_sort b_fled b_flights b_firstFlight b_bestHarms b_bestRage b_harmed b_raged, xZ cy ((M 14)) 100 b_fit] → lv_has ls 6 [(0, .ref ((M 0))), (1, .int v1), (2, .int v2), (3, .int v3), (4, .int v4), (5, .int v5)] → W p l e zr_X8_ofFit s m args below meth c H locs 0 0 Q (F0 m 10 ls [])), ∀ (v1 : Int32) (v2 : Int32) (v5 : Int32) (t0 : Int32) (H : Heap) (locs : List Loc) (ls : Array Slot), zf_X8_ofFit_41 b_fit k10 v1 v2 v5 t0 = some res → zWd G A s.heap H locs [xM M b_isKept b_size b_at b_from b_sort b_fled b_flights b_firstFlight b_bestHarms b_bestRage b_harmed b_raged, xZ cy ((M 14)) 100 b_fit] → lv_has ls 6 [(0, .ref ((M 0))), (1, .int v1), (2, .int v2), (5, .int v5)] → W p l e zr_X8_ofFit s m args below meth c H locs 0 0 Q (F0 m 41 ls [.int t0]) := by
    intro k10 K10 v1 v2 v5 t0 H locs ls hf hw hl
    rw [zf_X8_ofFit_41] at hf
    refine lv_istore_n (pc := 41) (lv' := [(3, .int t0), (0, .ref ((M 0))), (1, .int v1), (2, .int v2), (5, .int v5)]) hx hb dX8_ofFit_41 rfl hl (by decide) rfl (fun ls hl => ?_)
    refine lv_iload (pc := 42) hx hb dX8_ofFit_42 (lv_at hl 4 rfl) ?_
    refine lv_istore (pc := 44) (lv' := [(4, .int v5), (3, .int t0), (0, .ref ((M 0))), (1, .int v1), (2, .int v2), (5, .int v5)]) hx hb dX8_ofFit_44 hl (by decide) rfl (fun ls hl => ?_)
    exact J46 k10 K10 v1 v2 t0 v5 v5 _ _ _ hf hw (lv_sub hl [2, 3, 4, 1, 0, 5] rfl)
  have J10 : ∀ (n : Nat), ∀ (v1 : Int32) (v2 : Int32) (v3 : Int32) (v4 : Int32) (v5 : Int32) (H : Heap) (locs : List Loc) (ls : Array Slot), zf_X8_ofFit_10 b_fit n v1 v2 v3 v4 v5 = some res → zWd G A s.heap H locs [xM M b_isKept b_size b_at b_from b_sort b_fled b_flights b_firstFlight b_bestHarms b_bestRage b_harmed b_raged, xZ cy ((M 14)) 100 b_fit] → lv_has ls 6 [(0, .ref ((M 0))), (1, .int v1), (2, .int v2), (3, .int v3), (4, .int v4), (5, .int v5)] → W p l e zr_X8_ofFit s m args below meth c H locs 0 0 Q (F0 m 10 ls []) := by
    intro n
    induction n with
    | zero =>
      intro v1 v2 v3 v4 v5 H locs ls hf hw hl
      rw [zf_X8_ofFit_10] at hf
      cases hf
    | succ n ih =>
      intro v1 v2 v3 v4 v5 H locs ls hf hw hl
      rw [zf_X8_ofFit_10] at hf
      refine lv_iload (pc := 10) hx hb dX8_ofFit_10 (lv_at hl 5 rfl) ?_
      refine lv_bipush (pc := 12) (v := 100) hx hb dX8_ofFit_12 (by decide) ?_
      refine lv_icmp_ge (pc := 14) (tgt := 52) hx hb dX8_ofFit_14 (by decide) (fun q1 => ?_) (fun q1 => ?_)
      · replace hf := if_t q1 hf
        refine lv_iload_n (pc := 52) hx hb dX8_ofFit_52 rfl (lv_at hl 1 rfl) ?_
        refine lv_if_ne (pc := 53) (tgt := 60) hx hb dX8_ofFit_53 (by decide) (fun q2 => ?_) (fun q2 => ?_)
        · replace hf := if_f q2 hf
          refine lv_iload_n (pc := 60) hx hb dX8_ofFit_60 rfl (lv_at hl 1 rfl) ?_
          refine lv_iconst (pc := 61) (v := 1) hx hb dX8_ofFit_61 (by decide) ?_
          refine lv_icmp_ne (pc := 62) (tgt := 69) hx hb dX8_ofFit_62 (by decide) (fun q3 => ?_) (fun q3 => ?_)
          · replace hf := if_f q3 hf
            refine lv_iload (pc := 69) hx hb dX8_ofFit_69 (lv_at hl 4 rfl) ?_
            have hf := Option.some.inj hf
            subst hf
            exact zk_reti (pc := 71) (ww := [xM M b_isKept b_size b_at b_from b_sort b_fled b_flights b_firstFlight b_bestHarms b_bestRage b_harmed b_raged, xZ cy ((M 14)) 100 b_fit]) C hw hr hQ dX8_ofFit_71
          · replace hf := if_t q3 hf
            refine lv_iload_n (pc := 65) hx hb dX8_ofFit_65 rfl (lv_at hl 3 rfl) ?_
            refine lv_goto (pc := 66) (tgt := 71) hx hb dX8_ofFit_66 (by decide) ?_
            have hf := Option.some.inj hf
            subst hf
            exact zk_reti (pc := 71) (ww := [xM M b_isKept b_size b_at b_from b_sort b_fled b_flights b_firstFlight b_bestHarms b_bestRage b_harmed b_raged, xZ cy ((M 14)) 100 b_fit]) C hw hr hQ dX8_ofFit_71
        · replace hf := if_t q2 hf
          refine lv_iload_n (pc := 56) hx hb dX8_ofFit_56 rfl (lv_at hl 2 rfl) ?_
          refine lv_goto (pc := 57) (tgt := 71) hx hb dX8_ofFit_57 (by decide) ?_
          have hf := Option.some.inj hf
          subst hf
          exact zk_reti (pc := 71) (ww := [xM M b_isKept b_size b_at b_from b_sort b_fled b_flights b_firstFlight b_bestHarms b_bestRage b_harmed b_raged, xZ cy ((M 14)) 100 b_fit]) C hw hr hQ dX8_ofFit_71
      · replace hf := if_f q1 hf
        refine lv_aload_n (pc := 17) hx hb dX8_ofFit_17 rfl (lv_at hl 0 rfl) ?_
        refine zk_gt (pc := 18) C hw zl_X8_55 0 rfl rfl dX8_ofFit_18 ?_
        refine lv_iload (pc := 21) hx hb dX8_ofFit_21 (lv_at hl 5 rfl) ?_
        obtain ⟨q4, hf⟩ := ck hf
        refine zk_zald (pc := 23) C hw 1 rfl q4 dX8_ofFit_23 ?_
        refine lv_if_eq (pc := 24) (tgt := 46) hx hb dX8_ofFit_24 (by decide) (fun q5 => ?_) (fun q5 => ?_)
        · replace hf := if_t q5 hf
          exact J46 (zf_X8_ofFit_10 b_fit n) ih v1 v2 v3 v4 v5 _ _ _ hf hw (lv_sub hl [0, 1, 2, 3, 4, 5] rfl)
        · replace hf := if_f q5 hf
          refine lv_iinc (pc := 27) (v := (v2 + 1)) (lv' := [(2, .int ((v2 + 1))), (0, .ref ((M 0))), (1, .int v1), (3, .int v3), (4, .int v4), (5, .int v5)]) hx hb dX8_ofFit_27 hl (k := 2) rfl rfl (by decide) rfl (fun ls hl => ?_)
          refine lv_iload_n (pc := 30) hx hb dX8_ofFit_30 rfl (lv_at hl 3 rfl) ?_
          refine lv_iconst (pc := 31) (v := -1) hx hb dX8_ofFit_31 (by decide) ?_
          refine lv_icmp_ne (pc := 32) (tgt := 40) hx hb dX8_ofFit_32 (by decide) (fun q6 => ?_) (fun q6 => ?_)
          · replace hf := if_f q6 hf
            refine lv_iload_n (pc := 40) hx hb dX8_ofFit_40 rfl (lv_at hl 3 rfl) ?_
            exact J41 (zf_X8_ofFit_10 b_fit n) ih v1 ((v2 + 1)) v5 v3 _ _ _ hf hw (lv_sub hl [1, 2, 0, 5] rfl)
          · replace hf := if_t q6 hf
            refine lv_iload (pc := 35) hx hb dX8_ofFit_35 (lv_at hl 5 rfl) ?_
            refine lv_goto (pc := 37) (tgt := 41) hx hb dX8_ofFit_37 (by decide) ?_
            exact J41 (zf_X8_ofFit_10 b_fit n) ih v1 ((v2 + 1)) v5 v5 _ _ _ hf hw (lv_sub hl [1, 2, 0, 5] rfl)
  rw [zf_X8_ofFit] at hf
  refine lv_iconst (pc := 0) (v := 0) hx hb dX8_ofFit_0 (by decide) ?_
  refine lv_istore_n (pc := 1) (lv' := [(2, .int ((0 : Int32))), (0, .ref ((M 0))), (1, .int x1)]) hx hb dX8_ofFit_1 rfl hl (by decide) rfl (fun ls hl => ?_)
  refine lv_iconst (pc := 2) (v := -1) hx hb dX8_ofFit_2 (by decide) ?_
  refine lv_istore_n (pc := 3) (lv' := [(3, .int ((-1 : Int32))), (2, .int ((0 : Int32))), (0, .ref ((M 0))), (1, .int x1)]) hx hb dX8_ofFit_3 rfl hl (by decide) rfl (fun ls hl => ?_)
  refine lv_iconst (pc := 4) (v := -1) hx hb dX8_ofFit_4 (by decide) ?_
  refine lv_istore (pc := 5) (lv' := [(4, .int ((-1 : Int32))), (3, .int ((-1 : Int32))), (2, .int ((0 : Int32))), (0, .ref ((M 0))), (1, .int x1)]) hx hb dX8_ofFit_5 hl (by decide) rfl (fun ls hl => ?_)
  refine lv_iconst (pc := 7) (v := 0) hx hb dX8_ofFit_7 (by decide) ?_
  refine lv_istore (pc := 8) (lv' := [(5, .int ((0 : Int32))), (4, .int ((-1 : Int32))), (3, .int ((-1 : Int32))), (2, .int ((0 : Int32))), (0, .ref ((M 0))), (1, .int x1)]) hx hb dX8_ofFit_8 hl (by decide) rfl (fun ls hl => ?_)
  exact J10 FU x1 ((0 : Int32)) ((-1 : Int32)) ((-1 : Int32)) ((0 : Int32)) _ _ _ hf hw (lv_sub hl [4, 5, 3, 2, 1, 0] rfl)
def zf_X8_rages (x1 : Int32) (x2 : Int32) (x3 : Int32) (b_refused : Nat → Int32) (b_now : Nat → Int32) (b_minds : Nat → Int32) (b_fled : Bool) (b_holds : Nat → Int32) (b_sizes : Nat → Int32) (b_elements : Nat → Int64) (b_fit : Nat → Int32) : Option (Int32 × (Nat → Int32) × (Nat → Int32) × (Nat → Int32) × Bool × (Nat → Int32)) := (Option.bind (zf_X8_isIn x3.toInt64 (((0 : Int64))) (((2 : Int64)))) (fun u1 => (Option.bind (zf_X8_twos u1 x1 x2 b_now b_holds b_sizes b_elements) (fun u2 => (if 0 ≤ u2 then (Option.bind (zf_X8_fillFit x1 x2 (((33 : Int32))) (((99 : Int32))) b_now b_minds b_fled b_elements b_fit) (fun u4 => (Option.bind (zf_X8_ofFit x3 u4.2.2.2) (fun u5 => some (u5, b_refused, u4.1, u4.2.1, u4.2.2.1, u4.2.2.2))))) else (Option.bind (zf_X8_refuse u2 b_refused) (fun u6 => some (u6.1, u6.2, b_now, b_minds, b_fled, b_fit))))))))
abbrev zr_X8_rages : Room := { frames := 5, cells := 0, slots := 0, locals := 115 }
set_option maxHeartbeats 4000000 in
set_option maxRecDepth 100000 in
theorem c_X8_rages (l : Launch) (G : va_G) (cy : Nat → ClassId) (tt : Nat → Nat) (M : Nat → Nat) (b_isKept : Bool) (b_size : Int32) (b_at : Int32) (b_from : Int32) (b_sort : Int32) (b_flights : Int32) (b_firstFlight : Int32) (b_bestHarms : Int32) (b_bestRage : Int32) (b_harmed : Int64) (b_raged : Int64) (x1 : Int32) (x2 : Int32) (x3 : Int32) (b_refused : Nat → Int32) (b_now : Nat → Int32) (b_minds : Nat → Int32) (b_fled : Bool) (b_holds : Nat → Int32) (b_sizes : Nat → Int32) (b_elements : Nat → Int64) (b_fit : Nat → Int32) (res : Int32 × (Nat → Int32) × (Nat → Int32) × (Nat → Int32) × Bool × (Nat → Int32)) (hf : zf_X8_rages x1 x2 x3 b_refused b_now b_minds b_fled b_holds b_sizes b_elements b_fit = some res) : zCT l yX8_rages cX8_rages 5 (some .int) zr_X8_rages G cy tt [.ref ((M 0)), .int x1, .int x2, .int x3] [xM M b_isKept b_size b_at b_from b_sort b_fled b_flights b_firstFlight b_bestHarms b_bestRage b_harmed b_raged, xI cy ((M 1)) 7 b_refused, xI cy ((M 2)) 39 b_now, xI cy ((M 4)) 273 b_minds, xI cy ((M 7)) 8 b_holds, xI cy ((M 8)) 8 b_sizes, xJ cy ((M 9)) 320 b_elements, xZ cy ((M 14)) 100 b_fit] (some (.int res.1)) [xM M b_isKept b_size b_at b_from b_sort res.2.2.2.2.1 b_flights b_firstFlight b_bestHarms b_bestRage b_harmed b_raged, xI cy ((M 1)) 7 res.2.1, xI cy ((M 2)) 39 res.2.2.1, xI cy ((M 4)) 273 res.2.2.2.1, xI cy ((M 7)) 8 b_holds, xI cy ((M 8)) 8 b_sizes, xJ cy ((M 9)) 320 b_elements, xZ cy ((M 14)) 100 res.2.2.2.2.2] := by
  refine zk_start zn_X8 (Nat.le_of_ble_eq_true rfl) ?_
  intro p e s m args below meth c A ls Q C hr hQ hw hl
  have C : zCx p m c s args meth cX8_rages 5 RX8 G cy tt A := C
  have hx := C.1.1
  have hb := C.1.2.1
  have hl : lv_has ls 5 [(0, .ref ((M 0))), (1, .int x1), (2, .int x2), (3, .int x3)] := hl
  rw [zf_X8_rages] at hf
  refine lv_aload_n (pc := 0) hx hb dX8_rages_0 rfl (lv_at hl 0 rfl) ?_
  refine lv_iload_n (pc := 1) hx hb dX8_rages_1 rfl (lv_at hl 3 rfl) ?_
  refine lv_i2l (pc := 2) (v := x3.toInt64) hx hb dX8_rages_2 rfl ?_
  refine lv_lconst (pc := 3) (v := 0) hx hb dX8_rages_3 (by decide) ?_
  refine lv_ldc2 (pc := 4) (v := 2) hx hb C.1.2.2.2.1 (C.1.2.2.2.2 _ zc_X8_190) dX8_rages_4 ?_
  obtain ⟨u1, u1e, hf⟩ := bd hf
  refine zk_cS (pc := 7) (rest := [.ref ((M 0))]) (st1 := [.int (bI u1), .ref ((M 0))]) (w' := [xM M b_isKept b_size b_at b_from b_sort b_fled b_flights b_firstFlight b_bestHarms b_bestRage b_harmed b_raged, xI cy ((M 1)) 7 b_refused, xI cy ((M 2)) 39 b_now, xI cy ((M 4)) 273 b_minds, xI cy ((M 7)) 8 b_holds, xI cy ((M 8)) 8 b_sizes, xJ cy ((M 9)) 320 b_elements, xZ cy ((M 14)) 100 b_fit]) (mk := [none, none, none, none, none, none, none, none]) C hw (c_X8_isIn l G cy tt x3.toInt64 (((0 : Int64))) (((2 : Int64))) _ u1e) zy_X8_isIn zm_X8_68 [] rfl rfl rfl rfl rfl rfl rfl rfl hl.1 ⟨rfl, rfl⟩ ⟨Nat.le_of_ble_eq_true rfl, Nat.le_of_ble_eq_true rfl⟩ rfl (Nat.le_of_ble_eq_true rfl) ⟨Nat.zero_le _, Nat.zero_le _⟩ dX8_rages_7 (fun H locs hw => ?_)
  refine lv_iload_n (pc := 10) hx hb dX8_rages_10 rfl (lv_at hl 1 rfl) ?_
  refine lv_iload_n (pc := 11) hx hb dX8_rages_11 rfl (lv_at hl 2 rfl) ?_
  obtain ⟨u2, u2e, hf⟩ := bd hf
  refine zk_cV (pc := 12) (ci := 8) (q0 := 0) (rest := []) (st1 := [.int u2]) (w' := [xM M b_isKept b_size b_at b_from b_sort b_fled b_flights b_firstFlight b_bestHarms b_bestRage b_harmed b_raged, xI cy ((M 1)) 7 b_refused, xI cy ((M 2)) 39 b_now, xI cy ((M 4)) 273 b_minds, xI cy ((M 7)) 8 b_holds, xI cy ((M 8)) 8 b_sizes, xJ cy ((M 9)) 320 b_elements, xZ cy ((M 14)) 100 b_fit]) (mk := [none, none, none, none, none, none, none, none]) C hw (c_X8_twos l G cy tt M b_isKept b_size b_at b_from b_sort b_fled b_flights b_firstFlight b_bestHarms b_bestRage b_harmed b_raged u1 x1 x2 b_now b_holds b_sizes b_elements _ u2e) zy_X8_twos zm_X8_250 rfl rfl rfl [0, 2, 4, 5, 6] rfl rfl rfl rfl rfl rfl rfl rfl hl.1 ⟨rfl, rfl⟩ ⟨Nat.le_of_ble_eq_true rfl, Nat.le_of_ble_eq_true rfl⟩ rfl (Nat.le_of_ble_eq_true rfl) ⟨Nat.zero_le _, Nat.zero_le _⟩ dX8_rages_12 (fun H locs hw => ?_)
  refine lv_istore (pc := 15) (lv' := [(4, .int u2), (0, .ref ((M 0))), (1, .int x1), (2, .int x2), (3, .int x3)]) hx hb dX8_rages_15 hl (by decide) rfl (fun ls hl => ?_)
  refine lv_iload (pc := 17) hx hb dX8_rages_17 (lv_at hl 0 rfl) ?_
  refine lv_if_ge (pc := 19) (tgt := 29) hx hb dX8_rages_19 (by decide) (fun q3 => ?_) (fun q3 => ?_)
  · replace hf := if_t q3 hf
    refine lv_aload_n (pc := 29) hx hb dX8_rages_29 rfl (lv_at hl 1 rfl) ?_
    refine lv_iload_n (pc := 30) hx hb dX8_rages_30 rfl (lv_at hl 2 rfl) ?_
    refine lv_iload_n (pc := 31) hx hb dX8_rages_31 rfl (lv_at hl 3 rfl) ?_
    refine lv_bipush (pc := 32) (v := 33) hx hb dX8_rages_32 (by decide) ?_
    refine lv_bipush (pc := 34) (v := 99) hx hb dX8_rages_34 (by decide) ?_
    obtain ⟨u4, u4e, hf⟩ := bd hf
    refine zk_cV (pc := 36) (ci := 8) (q0 := 0) (rest := []) (st1 := []) (w' := [xM M b_isKept b_size b_at b_from b_sort u4.2.2.1 b_flights b_firstFlight b_bestHarms b_bestRage b_harmed b_raged, xI cy ((M 1)) 7 b_refused, xI cy ((M 2)) 39 u4.1, xI cy ((M 4)) 273 u4.2.1, xI cy ((M 7)) 8 b_holds, xI cy ((M 8)) 8 b_sizes, xJ cy ((M 9)) 320 b_elements, xZ cy ((M 14)) 100 u4.2.2.2]) (mk := [some (xM M b_isKept b_size b_at b_from b_sort u4.2.2.1 b_flights b_firstFlight b_bestHarms b_bestRage b_harmed b_raged), none, some (xI cy ((M 2)) 39 u4.1), some (xI cy ((M 4)) 273 u4.2.1), none, none, none, some (xZ cy ((M 14)) 100 u4.2.2.2)]) C hw (c_X8_fillFit l G cy tt M b_isKept b_size b_at b_from b_sort b_flights b_firstFlight b_bestHarms b_bestRage b_harmed b_raged x1 x2 (((33 : Int32))) (((99 : Int32))) b_now b_minds b_fled b_elements b_fit _ u4e) zy_X8_fillFit zm_X8_253 rfl rfl rfl [0, 2, 3, 6, 7] rfl rfl rfl rfl rfl rfl rfl rfl hl.1 ⟨rfl, rfl⟩ ⟨Nat.le_of_ble_eq_true rfl, Nat.le_of_ble_eq_true rfl⟩ rfl (Nat.le_of_ble_eq_true rfl) ⟨Nat.zero_le _, Nat.zero_le _⟩ dX8_rages_36 (fun H locs hw => ?_)
    refine lv_aload_n (pc := 39) hx hb dX8_rages_39 rfl (lv_at hl 1 rfl) ?_
    refine lv_iload_n (pc := 40) hx hb dX8_rages_40 rfl (lv_at hl 4 rfl) ?_
    obtain ⟨u5, u5e, hf⟩ := bd hf
    refine zk_cV (pc := 41) (ci := 8) (q0 := 0) (rest := []) (st1 := [.int u5]) (w' := [xM M b_isKept b_size b_at b_from b_sort u4.2.2.1 b_flights b_firstFlight b_bestHarms b_bestRage b_harmed b_raged, xI cy ((M 1)) 7 b_refused, xI cy ((M 2)) 39 u4.1, xI cy ((M 4)) 273 u4.2.1, xI cy ((M 7)) 8 b_holds, xI cy ((M 8)) 8 b_sizes, xJ cy ((M 9)) 320 b_elements, xZ cy ((M 14)) 100 u4.2.2.2]) (mk := [none, none, none, none, none, none, none, none]) C hw (c_X8_ofFit l G cy tt M b_isKept b_size b_at b_from b_sort u4.2.2.1 b_flights b_firstFlight b_bestHarms b_bestRage b_harmed b_raged x3 u4.2.2.2 _ u5e) zy_X8_ofFit zm_X8_257 rfl rfl rfl [0, 7] rfl rfl rfl rfl rfl rfl rfl rfl hl.1 ⟨rfl, rfl⟩ ⟨Nat.le_of_ble_eq_true rfl, Nat.le_of_ble_eq_true rfl⟩ rfl (Nat.le_of_ble_eq_true rfl) ⟨Nat.zero_le _, Nat.zero_le _⟩ dX8_rages_41 (fun H locs hw => ?_)
    have hf := Option.some.inj hf
    subst hf
    exact zk_reti (pc := 44) (ww := [xM M b_isKept b_size b_at b_from b_sort u4.2.2.1 b_flights b_firstFlight b_bestHarms b_bestRage b_harmed b_raged, xI cy ((M 1)) 7 b_refused, xI cy ((M 2)) 39 u4.1, xI cy ((M 4)) 273 u4.2.1, xI cy ((M 7)) 8 b_holds, xI cy ((M 8)) 8 b_sizes, xJ cy ((M 9)) 320 b_elements, xZ cy ((M 14)) 100 u4.2.2.2]) C hw hr hQ dX8_rages_44
  · replace hf := if_f q3 hf
    refine lv_aload_n (pc := 22) hx hb dX8_rages_22 rfl (lv_at hl 1 rfl) ?_
    refine lv_iload (pc := 23) hx hb dX8_rages_23 (lv_at hl 0 rfl) ?_
    obtain ⟨u6, u6e, hf⟩ := bd hf
    refine zk_cV (pc := 25) (ci := 8) (q0 := 0) (rest := []) (st1 := [.int u6.1]) (w' := [xM M b_isKept b_size b_at b_from b_sort b_fled b_flights b_firstFlight b_bestHarms b_bestRage b_harmed b_raged, xI cy ((M 1)) 7 u6.2, xI cy ((M 2)) 39 b_now, xI cy ((M 4)) 273 b_minds, xI cy ((M 7)) 8 b_holds, xI cy ((M 8)) 8 b_sizes, xJ cy ((M 9)) 320 b_elements, xZ cy ((M 14)) 100 b_fit]) (mk := [none, some (xI cy ((M 1)) 7 u6.2), none, none, none, none, none, none]) C hw (c_X8_refuse l G cy tt M b_isKept b_size b_at b_from b_sort b_fled b_flights b_firstFlight b_bestHarms b_bestRage b_harmed b_raged u2 b_refused _ u6e) zy_X8_refuse zm_X8_90 rfl rfl rfl [0, 1] rfl rfl rfl rfl rfl rfl rfl rfl hl.1 ⟨rfl, rfl⟩ ⟨Nat.le_of_ble_eq_true rfl, Nat.le_of_ble_eq_true rfl⟩ rfl (Nat.le_of_ble_eq_true rfl) ⟨Nat.zero_le _, Nat.zero_le _⟩ dX8_rages_25 (fun H locs hw => ?_)
    have hf := Option.some.inj hf
    subst hf
    exact zk_reti (pc := 28) (ww := [xM M b_isKept b_size b_at b_from b_sort b_fled b_flights b_firstFlight b_bestHarms b_bestRage b_harmed b_raged, xI cy ((M 1)) 7 u6.2, xI cy ((M 2)) 39 b_now, xI cy ((M 4)) 273 b_minds, xI cy ((M 7)) 8 b_holds, xI cy ((M 8)) 8 b_sizes, xJ cy ((M 9)) 320 b_elements, xZ cy ((M 14)) 100 b_fit]) C hw hr hQ dX8_rages_28
