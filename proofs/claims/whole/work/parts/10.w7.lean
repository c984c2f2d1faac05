def zf_X8_nerves_28 (b_holds : Nat → Int32) (b_sizes : Nat → Int32) (b_elements : Nat → Int64) (v1 : Int32) (v2 : Int32) (v3 : Int32) (v4 : Int32) (t0 : Bool) (b_refused : Nat → Int32) (b_now : Nat → Int32) (b_minds : Nat → Int32) (b_fled : Bool) (b_fit : Nat → Int32) : Option (Int32 × (Nat → Int32) × (Nat → Int32) × (Nat → Int32) × Bool × (Nat → Int32)) := (Option.bind (zf_X8_twos t0 v1 v2 b_now b_holds b_sizes b_elements) (fun u5 => (if 0 ≤ u5 then (Option.bind (zf_X8_fillFit v1 v2 (((((4 : Int32) * v3) + (2 : Int32)))) (((40 : Int32))) b_now b_minds b_fled b_elements b_fit) (fun u7 => (Option.bind (zf_X8_ofFit v4 u7.2.2.2) (fun u8 => some (u8, b_refused, u7.1, u7.2.1, u7.2.2.1, u7.2.2.2))))) else (Option.bind (zf_X8_refuse u5 b_refused) (fun u9 => some (u9.1, u9.2, b_now, b_minds, b_fled, b_fit))))))
def zf_X8_nerves_27 (b_holds : Nat → Int32) (b_sizes : Nat → Int32) (b_elements : Nat → Int64) (v1 : Int32) (v2 : Int32) (v3 : Int32) (v4 : Int32) (b_refused : Nat → Int32) (b_now : Nat → Int32) (b_minds : Nat → Int32) (b_fled : Bool) (b_fit : Nat → Int32) : Option (Int32 × (Nat → Int32) × (Nat → Int32) × (Nat → Int32) × Bool × (Nat → Int32)) := zf_X8_nerves_28 b_holds b_sizes b_elements v1 v2 v3 v4 false b_refused b_now b_minds b_fled b_fit
def zf_X8_nerves (x1 : Int32) (x2 : Int32) (x3 : Int32) (x4 : Int32) (b_refused : Nat → Int32) (b_now : Nat → Int32) (b_minds : Nat → Int32) (b_fled : Bool) (b_holds : Nat → Int32) (b_sizes : Nat → Int32) (b_elements : Nat → Int64) (b_fit : Nat → Int32) : Option (Int32 × (Nat → Int32) × (Nat → Int32) × (Nat → Int32) × Bool × (Nat → Int32)) := (Option.bind (zf_X8_isKeeper x3.toInt64 b_now) (fun u1 => (if u1 then (Option.bind (zf_X8_isIn x4.toInt64 (((0 : Int64))) (((2 : Int64)))) (fun u3 => (if u3 then zf_X8_nerves_28 b_holds b_sizes b_elements x1 x2 x3 x4 true b_refused b_now b_minds b_fled b_fit else zf_X8_nerves_27 b_holds b_sizes b_elements x1 x2 x3 x4 b_refused b_now b_minds b_fled b_fit))) else zf_X8_nerves_27 b_holds b_sizes b_elements x1 x2 x3 x4 b_refused b_now b_minds b_fled b_fit)))
abbrev zr_X8_nerves : Room := { frames := 5, cells := 0, slots := 0, locals := 115 }
set_option maxHeartbeats 4000000 in
set_option maxRecDepth 100000 in
theorem c_X8_nerves (l : Launch) (G : va_G) (cy : Nat → ClassId) (tt : Nat → Nat) (M : Nat → Nat) (b_isKept : Bool) (b_size : Int32) (b_at : Int32) (b_from : Int32) (b_sort : Int32) (b_flights : Int32) (b_firstFlight : Int32) (b_bestHarms : Int32) (b_bestRage : Int32) (b_harmed : Int64) (b_raged : Int64) (x1 : Int32) (x2 : Int32) (x3 : Int32) (x4 : Int32) (b_refused : Nat → Int32) (b_now : Nat → Int32) (b_minds : Nat → Int32) (b_fled : Bool) (b_holds : Nat → Int32) (b_sizes : Nat → Int32) (b_elements : Nat → Int64) (b_fit : Nat → Int32) (res : Int32 × (Nat → Int32) × (Nat → Int32) × (Nat → Int32) × Bool × (Nat → Int32)) (hf : zf_X8_nerves x1 x2 x3 x4 b_refused b_now b_minds b_fled b_holds b_sizes b_elements b_fit = some res) : zCT l yX8_nerves cX8_nerves 6 (some .int) zr_X8_nerves G cy tt [.ref ((M 0)), .int x1, .int x2, .int x3, .int x4] [xM M b_isKept b_size b_at b_from b_sort b_fled b_flights b_firstFlight b_bestHarms b_bestRage b_harmed b_raged, xI cy ((M 1)) 7 b_refused, xI cy ((M 2)) 39 b_now, xI cy ((M 4)) 273 b_minds, xI cy ((M 7)) 8 b_holds, xI cy ((M 8)) 8 b_sizes, xJ cy ((M 9)) 320 b_elements, xZ cy ((M 14)) 100 b_fit] (some (.int res.1)) [xM M b_isKept b_size b_at b_from b_sort res.2.2.2.2.1 b_flights b_firstFlight b_bestHarms b_bestRage b_harmed b_raged, xI cy ((M 1)) 7 res.2.1, xI cy ((M 2)) 39 res.2.2.1, xI cy ((M 4)) 273 res.2.2.2.1, xI cy ((M 7)) 8 b_holds, xI cy ((M 8)) 8 b_sizes, xJ cy ((M 9)) 320 b_elements, xZ cy ((M 14)) 100 res.2.2.2.2.2] := by
  refine zk_start zn_X8 (Nat.le_of_ble_eq_true rfl) ?_
  intro p e s m args below meth c A ls Q C hr hQ hw hl
  have C : zCx p m c s args meth cX8_nerves 6 RX8 G cy tt A := C
  have hx := C.1.1
  have hb := C.1.2.1
  have hl : lv_has ls 6 [(0, .ref ((M 0))), (1, .int x1), (2, .int x2), (3, .int x3), (4, .int x4)] := hl
  have J28 : ∀ (v1 : Int32) (v2 : Int32) (v3 : Int32) (v4 : Int32) (t0 : Bool) (b_refused : Nat → Int32) (b_now : Nat → Int32) (b_minds : Nat → Int32) (b_fled : Bool) (b_fit : Nat → Int32) (H : Heap) (locs : List Loc) (ls : Array Slot), zf_X8_nerves_28 b_holds b_sizes b_elements v1 v2 v3 v4 t0 b_refused b_now b_minds b_fled b_fit = some res → zWd G A s.heap H locs [xM M b_isKept b_size b_at b_from b_sort b_fled b_flights b_firstFlight b_bestHarms b_bestRage b_harmed b_raged, xI cy ((M 1)) 7 b_refused, xI cy ((M 2)) 39 b_now, xI cy ((M 4)) 273 b_minds, xI cy ((M 7)) 8 b_holds, xI cy ((M 8)) 8 b_sizes, xJ cy ((M 9)) 320 b_elements, xZ cy ((M 14)) 100 b_fit] → lv_has ls 6 [(0, .ref ((M 0))), (1, .int v1), (2, .int v2), (3, .int v3), (4, .int v4)] → W p l e zr_X8_nerves s m args below meth c H locs 0 0 Q (F0 m 28 ls [.int (bI t0), .ref ((M 0))]) := by
    intro v1 v2 v3 v4 t0 b_refused b_now b_minds b_fled b_fit H locs ls hf hw hl
    rw [zf_X8_nerves_28] at hf
    refine lv_iload_n (pc := 28) hx hb dX8_nerves_28 rfl (lv_at hl 1 rfl) ?_
    refine lv_iload_n (pc := 29) hx hb dX8_nerves_29 rfl (lv_at hl 2 rfl) ?_
    obtain ⟨u5, u5e, hf⟩ := bd hf
    refine zk_cV (pc := 30) (ci := 8) (q0 := 0) (rest := []) (st1 := [.int u5]) (w' := [xM M b_isKept b_size b_at b_from b_sort b_fled b_flights b_firstFlight b_bestHarms b_bestRage b_harmed b_raged, xI cy ((M 1)) 7 b_refused, xI cy ((M 2)) 39 b_now, xI cy ((M 4)) 273 b_minds, xI cy ((M 7)) 8 b_holds, xI cy ((M 8)) 8 b_sizes, xJ cy ((M 9)) 320 b_elements, xZ cy ((M 14)) 100 b_fit]) (mk := [none, none, none, none, none, none, none, none]) C hw (c_X8_twos l G cy tt M b_isKept b_size b_at b_from b_sort b_fled b_flights b_firstFlight b_bestHarms b_bestRage b_harmed b_raged t0 v1 v2 b_now b_holds b_sizes b_elements _ u5e) zy_X8_twos zm_X8_250 rfl rfl rfl [0, 2, 4, 5, 6] rfl rfl rfl rfl rfl rfl rfl rfl hl.1 ⟨rfl, rfl⟩ ⟨Nat.le_of_ble_eq_true rfl, Nat.le_of_ble_eq_true rfl⟩ rfl (Nat.le_of_ble_eq_true rfl) ⟨Nat.zero_le _, Nat.zero_le _⟩ dX8_nerves_30 (fun H locs hw => ?_)
    refine lv_istore (pc := 33) (lv' := [(5, .int u5), (0, .ref ((M 0))), (1, .int v1), (2, .int v2), (3, .int v3), (4, .int v4)]) hx hb dX8_nerves_33 hl (by decide) rfl (fun ls hl => ?_)
    refine lv_iload (pc := 35) hx hb dX8_nerves_35 (lv_at hl 0 rfl) ?_
    refine lv_if_ge (pc := 37) (tgt := 47) hx hb dX8_nerves_37 (by decide) (fun q6 => ?_) (fun q6 => ?_)
    · replace hf := if_t q6 hf
      refine lv_aload_n (pc := 47) hx hb dX8_nerves_47 rfl (lv_at hl 1 rfl) ?_
      refine lv_iload_n (pc := 48) hx hb dX8_nerves_48 rfl (lv_at hl 2 rfl) ?_
      refine lv_iload_n (pc := 49) hx hb dX8_nerves_49 rfl (lv_at hl 3 rfl) ?_
      refine lv_iconst (pc := 50) (v := 4) hx hb dX8_nerves_50 (by decide) ?_
      refine lv_iload_n (pc := 51) hx hb dX8_nerves_51 rfl (lv_at hl 4 rfl) ?_
      refine lv_imul (pc := 52) hx hb dX8_nerves_52 ?_
      refine lv_iconst (pc := 53) (v := 2) hx hb dX8_nerves_53 (by decide) ?_
      refine lv_iadd (pc := 54) hx hb dX8_nerves_54 ?_
      refine lv_bipush (pc := 55) (v := 40) hx hb dX8_nerves_55 (by decide) ?_
      obtain ⟨u7, u7e, hf⟩ := bd hf
      refine zk_cV (pc := 57) (ci := 8) (q0 := 0) (rest := []) (st1 := []) (w' := [xM M b_isKept b_size b_at b_from b_sort u7.2.2.1 b_flights b_firstFlight b_bestHarms b_bestRage b_harmed b_raged, xI cy ((M 1)) 7 b_refused, xI cy ((M 2)) 39 u7.1, xI cy ((M 4)) 273 u7.2.1, xI cy ((M 7)) 8 b_holds, xI cy ((M 8)) 8 b_sizes, xJ cy ((M 9)) 320 b_elements, xZ cy ((M 14)) 100 u7.2.2.2]) (mk := [some (xM M b_isKept b_size b_at b_from b_sort u7.2.2.1 b_flights b_firstFlight b_bestHarms b_bestRage b_harmed b_raged), none, some (xI cy ((M 2)) 39 u7.1), some (xI cy ((M 4)) 273 u7.2.1), none, none, none, some (xZ cy ((M 14)) 100 u7.2.2.2)]) C hw (c_X8_fillFit l G cy tt M b_isKept b_size b_at b_from b_sort b_flights b_firstFlight b_bestHarms b_bestRage b_harmed b_raged v1 v2 (((((4 : Int32) * v3) + (2 : Int32)))) (((40 : Int32))) b_now b_minds b_fled b_elements b_fit _ u7e) zy_X8_fillFit zm_X8_253 rfl rfl rfl [0, 2, 3, 6, 7] rfl rfl rfl rfl rfl rfl rfl rfl hl.1 ⟨rfl, rfl⟩ ⟨Nat.le_of_ble_eq_true rfl, Nat.le_of_ble_eq_true rfl⟩ rfl (Nat.le_of_ble_eq_true rfl) ⟨Nat.zero_le _, Nat.zero_le _⟩ dX8_nerves_57 (fun H locs hw => ?_)
      refine lv_aload_n (pc := 60) hx hb dX8_nerves_60 rfl (lv_at hl 1 rfl) ?_
      refine lv_iload (pc := 61) hx hb dX8_nerves_61 (lv_at hl 5 rfl) ?_
      obtain ⟨u8, u8e, hf⟩ := bd hf
      refine zk_cV (pc := 63) (ci := 8) (q0 := 0) (rest := []) (st1 := [.int u8]) (w' := [xM M b_isKept b_size b_at b_from b_sort u7.2.2.1 b_flights b_firstFlight b_bestHarms b_bestRage b_harmed b_raged, xI cy ((M 1)) 7 b_refused, xI cy ((M 2)) 39 u7.1, xI cy ((M 4)) 273 u7.2.1, xI cy ((M 7)) 8 b_holds, xI cy ((M 8)) 8 b_sizes, xJ cy ((M 9)) 320 b_elements, xZ cy ((M 14)) 100 u7.2.2.2]) (mk := [none, none, none, none, none, none, none, none]) C hw (c_X8_ofFit l G cy tt M b_isKept b_size b_at b_from b_sort u7.2.2.1 b_flights b_firstFlight b_bestHarms b_bestRage b_harmed b_raged v4 u7.2.2.2 _ u8e) zy_X8_ofFit zm_X8_257 rfl rfl rfl [0, 7] rfl rfl rfl rfl rfl rfl rfl rfl hl.1 ⟨rfl, rfl⟩ ⟨Nat.le_of_ble_eq_true rfl, Nat.le_of_ble_eq_true rfl⟩ rfl (Nat.le_of_ble_eq_true rfl) ⟨Nat.zero_le _, Nat.zero_le _⟩ dX8_nerves_63 (fun H locs hw => ?_)
      have hf := Option.some.inj hf
      subst hf
      exact zk_reti (pc := 66) (ww := [xM M b_isKept b_size b_at b_from b_sort u7.2.2.1 b_flights b_firstFlight b_bestHarms b_bestRage b_harmed b_raged, xI cy ((M 1)) 7 b_refused, xI cy ((M 2)) 39 u7.1, xI cy ((M 4)) 273 u7.2.1, xI cy ((M 7)) 8 b_holds, xI cy ((M 8)) 8 b_sizes, xJ cy ((M 9)) 320 b_elements, xZ cy ((M 14)) 100 u7.2.2.2]) C hw hr hQ dX8_nerves_66
    · replace hf := if_f q6 hf
      refine lv_aload_n (pc := 40) hx hb dX8_nerves_40 rfl (lv_at hl 1 rfl) ?_
      refine lv_iload (pc := 41) hx hb dX8_nerves_41 (lv_at hl 0 rfl) ?_
      obtain ⟨u9, u9e, hf⟩ := bd hf
      refine zk_cV (pc := 43) (ci := 8) (q0 := 0) (rest := []) (st1 := [.int u9.1]) (w' := [xM M b_isKept b_size b_at b_from b_sort b_fled b_flights b_firstFlight b_bestHarms b_bestRage b_harmed b_raged, xI cy ((M 1)) 7 u9.2, xI cy ((M 2)) 39 b_now, xI cy ((M 4)) 273 b_minds, xI cy ((M 7)) 8 b_holds, xI cy ((M 8)) 8 b_sizes, xJ cy ((M 9)) 320 b_elements, xZ cy ((M 14)) 100 b_fit]) (mk := [none, some (xI cy ((M 1)) 7 u9.2), none, none, none, none, none, none]) C hw (c_X8_refuse l G cy tt M b_isKept b_size b_at b_from b_sort b_fled b_flights b_firstFlight b_bestHarms b_bestRage b_harmed b_raged u5 b_refused _ u9e) zy_X8_refuse zm_X8_90 rfl rfl rfl [0, 1] rfl rfl rfl rfl rfl rfl rfl rfl hl.1 ⟨rfl, rfl⟩ ⟨Nat.le_of_ble_eq_true rfl, Nat.le_of_ble_eq_true rfl⟩ rfl (Nat.le_of_ble_eq_true rfl) ⟨Nat.zero_le _, Nat.zero_le _⟩ dX8_nerves_43 (fun H locs hw => ?_)
      have hf := Option.some.inj hf
      subst hf
      exact zk_reti (pc := 46) (ww := [xM M b_isKept b_size b_at b_from b_sort b_fled b_flights b_firstFlight b_bestHarms b_bestRage b_harmed b_raged, xI cy ((M 1)) 7 u9.2, xI cy ((M 2)) 39 b_now, xI cy ((M 4)) 273 b_minds, xI cy ((M 7)) 8 b_holds, xI cy ((M 8)) 8 b_sizes, xJ cy ((M 9)) 320 b_elements, xZ cy ((M 14)) 100 b_fit]) C hw hr hQ dX8_nerves_46
  have J27 : ∀ (v1 : Int32) (v2 : Int32) (v3 : Int32) (v4 : Int32) (b_refused : Nat → Int32) (b_now : Nat → Int32) (b_minds : Nat → Int32) (b_fled : Bool) (b_fit : Nat → Int32) (H : Heap) (locs : List Loc) (ls : Array Slot), zf_X8_nerves_27 b_holds b_sizes b_elements v1 v2 v3 v4 b_refused b_now b_minds b_fled b_fit = some res → zWd G A s.heap H locs [xM M b_isKept b_size b_at b_from b_sort b_fled b_flights b_firstFlight b_bestHarms b_bestRage b_harmed b_raged, xI cy ((M 1)) 7 b_refused, xI cy ((M 2)) 39 b_now, xI cy ((M 4)) 273 b_minds, xI cy ((M 7)) 8 b_holds, xI cy ((M 8)) 8 b_sizes, xJ cy ((M 9)) 320 b_elements, xZ cy ((M 14)) 100 b_fit] → lv_has ls 6 [(0, .ref ((M 0))), (1, .int v1), (2, .int v2), (3, .int v3), (4, .int v4)] → W p l e zr_X8_nerves s m args below meth c H locs 0 0 Q (F0 m 27 ls [.ref ((M 0))]) := by
    intro v1 v2 v3 v4 b_refused b_now b_minds b_fled b_fit H locs ls hf hw hl
    rw [zf_X8_nerves_27] at hf
    refine lv_iconst (pc := 27) (v := 0) hx hb dX8_nerves_27 (by decide) ?_
    exact J28 v1 v2 v3 v4 false b_refused b_now b_minds b_fled b_fit _ _ _ hf hw (lv_sub hl [0, 1, 2, 3, 4] rfl)
  rw [zf_X8_nerves] at hf
  refine lv_aload_n (pc := 0) hx hb dX8_nerves_0 rfl (lv_at hl 0 rfl) ?_
  refine lv_aload_n (pc := 1) hx hb dX8_nerves_1 rfl (lv_at hl 0 rfl) ?_
  refine lv_iload_n (pc := 2) hx hb dX8_nerves_2 rfl (lv_at hl 3 rfl) ?_
  refine lv_i2l (pc := 3) (v := x3.toInt64) hx hb dX8_nerves_3 rfl ?_
  obtain ⟨u1, u1e, hf⟩ := bd hf
  refine zk_cV (pc := 4) (ci := 8) (q0 := 0) (rest := [.ref ((M 0))]) (st1 := [.int (bI u1), .ref ((M 0))]) (w' := [xM M b_isKept b_size b_at b_from b_sort b_fled b_flights b_firstFlight b_bestHarms b_bestRage b_harmed b_raged, xI cy ((M 1)) 7 b_refused, xI cy ((M 2)) 39 b_now, xI cy ((M 4)) 273 b_minds, xI cy ((M 7)) 8 b_holds, xI cy ((M 8)) 8 b_sizes, xJ cy ((M 9)) 320 b_elements, xZ cy ((M 14)) 100 b_fit]) (mk := [none, none, none, none, none, none, none, none]) C hw (c_X8_isKeeper l G cy tt M b_isKept b_size b_at b_from b_sort b_fled b_flights b_firstFlight b_bestHarms b_bestRage b_harmed b_raged x3.toInt64 b_now _ u1e) zy_X8_isKeeper zm_X8_76 rfl rfl rfl [0, 2] rfl rfl rfl rfl rfl rfl rfl rfl hl.1 ⟨rfl, rfl⟩ ⟨Nat.le_of_ble_eq_true rfl, Nat.le_of_ble_eq_true rfl⟩ rfl (Nat.le_of_ble_eq_true rfl) ⟨Nat.zero_le _, Nat.zero_le _⟩ dX8_nerves_4 (fun H locs hw => ?_)
  refine zk_ifz (pc := 7) (tgt := 27) hx hb dX8_nerves_7 (by decide) (fun q2 => ?_) (fun q2 => ?_)
  · replace hf := if_f q2 hf
    exact J27 x1 x2 x3 x4 b_refused b_now b_minds b_fled b_fit _ _ _ hf hw (lv_sub hl [0, 1, 2, 3, 4] rfl)
  · replace hf := if_t q2 hf
    refine lv_iload (pc := 10) hx hb dX8_nerves_10 (lv_at hl 4 rfl) ?_
    refine lv_i2l (pc := 12) (v := x4.toInt64) hx hb dX8_nerves_12 rfl ?_
    refine lv_lconst (pc := 13) (v := 0) hx hb dX8_nerves_13 (by decide) ?_
    refine lv_ldc2 (pc := 14) (v := 2) hx hb C.1.2.2.2.1 (C.1.2.2.2.2 _ zc_X8_190) dX8_nerves_14 ?_
    obtain ⟨u3, u3e, hf⟩ := bd hf
    refine zk_cS (pc := 17) (rest := [.ref ((M 0))]) (st1 := [.int (bI u3), .ref ((M 0))]) (w' := [xM M b_isKept b_size b_at b_from b_sort b_fled b_flights b_firstFlight b_bestHarms b_bestRage b_harmed b_raged, xI cy ((M 1)) 7 b_refused, xI cy ((M 2)) 39 b_now, xI cy ((M 4)) 273 b_minds, xI cy ((M 7)) 8 b_holds, xI cy ((M 8)) 8 b_sizes, xJ cy ((M 9)) 320 b_elements, xZ cy ((M 14)) 100 b_fit]) (mk := [none, none, none, none, none, none, none, none]) C hw (c_X8_isIn l G cy tt x4.toInt64 (((0 : Int64))) (((2 : Int64))) _ u3e) zy_X8_isIn zm_X8_68 [] rfl rfl rfl rfl rfl rfl rfl rfl hl.1 ⟨rfl, rfl⟩ ⟨Nat.le_of_ble_eq_true rfl, Nat.le_of_ble_eq_true rfl⟩ rfl (Nat.le_of_ble_eq_true rfl) ⟨Nat.zero_le _, Nat.zero_le _⟩ dX8_nerves_17 (fun H locs hw => ?_)
    refine zk_ifz (pc := 20) (tgt := 27) hx hb dX8_nerves_20 (by decide) (fun q4 => ?_) (fun q4 => ?_)
    · replace hf := if_f q4 hf
      exact J27 x1 x2 x3 x4 b_refused b_now b_minds b_fled b_fit _ _ _ hf hw (lv_sub hl [0, 1, 2, 3, 4] rfl)
    · replace hf := if_t q4 hf
      refine lv_iconst (pc := 23) (v := 1) hx hb dX8_nerves_23 (by decide) ?_
      refine lv_goto (pc := 24) (tgt := 28) hx hb dX8_nerves_24 (by decide) ?_
      exact J28 x1 x2 x3 x4 true b_refused b_now b_minds b_fled b_fit _ _ _ hf hw (lv_sub hl [0, 1, 2, 3, 4] rfl)
def zf_X8_send_117 (b_holds : Nat → Int32) (b_sizes : Nat → Int32) (b_elements : Nat → Int64) (k75 : Int32 → Int32 → Int32 → Int32 → Int32 → Int32 → Int32 → (Nat → Int32) → (Nat → Int32) → (Nat → Int32) → Bool → (Nat → Int32) → Option (Int32 × (Nat → Int32) × (Nat → Int32) × (Nat → Int32) × Bool × (Nat → Int32))) (v4 : Int32) (v5 : Int32) (v6 : Int32) (v7 : Int32) (v8 : Int32) (v10 : Int32) (t0 : Bool) (t1 : Int32) (b_refused : Nat → Int32) (b_now : Nat → Int32) (b_minds : Nat → Int32) (b_fled : Bool) (b_fit : Nat → Int32) : Option (Int32 × (Nat → Int32) × (Nat → Int32) × (Nat → Int32) × Bool × (Nat → Int32)) := k75 v4 v5 v6 v7 v8 ((t1 + (bI t0))) ((v10 + 1)) b_refused b_now b_minds b_fled b_fit
def zf_X8_send_116 (b_holds : Nat → Int32) (b_sizes : Nat → Int32) (b_elements : Nat → Int64) (k75 : Int32 → Int32 → Int32 → Int32 → Int32 → Int32 → Int32 → (Nat → Int32) → (Nat → Int32) → (Nat → Int32) → Bool → (Nat → Int32) → Option (Int32 × (Nat → Int32) × (Nat → Int32) × (Nat → Int32) × Bool × (Nat → Int32))) (v4 : Int32) (v5 : Int32) (v6 : Int32) (v7 : Int32) (v8 : Int32) (v10 : Int32) (t0 : Int32) (b_refused : Nat → Int32) (b_now : Nat → Int32) (b_minds : Nat → Int32) (b_fled : Bool) (b_fit : Nat → Int32) : Option (Int32 × (Nat → Int32) × (Nat → Int32) × (Nat → Int32) × Bool × (Nat → Int32)) := zf_X8_send_117 b_holds b_sizes b_elements k75 v4 v5 v6 v7 v8 v10 false t0 b_refused b_now b_minds b_fled b_fit
def zf_X8_send_152 (b_holds : Nat → Int32) (b_sizes : Nat → Int32) (b_elements : Nat → Int64) (k54 : Int32 → Int32 → Int32 → Int32 → Int32 → (Nat → Int32) → (Nat → Int32) → (Nat → Int32) → Bool → (Nat → Int32) → Option (Int32 × (Nat → Int32) × (Nat → Int32) × (Nat → Int32) × Bool × (Nat → Int32))) (v4 : Int32) (v6 : Int32) (v7 : Int32) (v8 : Int32) (v10 : Int32) (t0 : Int32) (b_refused : Nat → Int32) (b_now : Nat → Int32) (b_minds : Nat → Int32) (b_fled : Bool) (b_fit : Nat → Int32) : Option (Int32 × (Nat → Int32) × (Nat → Int32) × (Nat → Int32) × Bool × (Nat → Int32)) := k54 v4 t0 ((if v6 < v10 then v6 else v10)) v7 ((v8 + 1)) b_refused b_now b_minds b_fled b_fit
def zf_X8_send_75 (b_holds : Nat → Int32) (b_sizes : Nat → Int32) (b_elements : Nat → Int64) (k54 : Int32 → Int32 → Int32 → Int32 → Int32 → (Nat → Int32) → (Nat → Int32) → (Nat → Int32) → Bool → (Nat → Int32) → Option (Int32 × (Nat → Int32) × (Nat → Int32) × (Nat → Int32) × Bool × (Nat → Int32))) : Nat → Int32 → Int32 → Int32 → Int32 → Int32 → Int32 → Int32 → (Nat → Int32) → (Nat → Int32) → (Nat → Int32) → Bool → (Nat → Int32) → Option (Int32 × (Nat → Int32) × (Nat → Int32) × (Nat → Int32) × Bool × (Nat → Int32))
  | 0, _, _, _, _, _, _, _, _, _, _, _, _ => none
  | n + 1, v4, v5, v6, v7, v8, v9, v10, b_refused, b_now, b_minds, b_fled, b_fit => (if (100 : Int32) ≤ v10 then (if v6 ≤ (if v9 < (v4 - v9) then (v4 - v9) else v9) then zf_X8_send_152 b_holds b_sizes b_elements k54 v4 v6 v7 v8 ((if v9 < (v4 - v9) then (v4 - v9) else v9)) v5 b_refused b_now b_minds b_fled b_fit else zf_X8_send_152 b_holds b_sizes b_elements k54 v4 v6 v7 v8 ((if v9 < (v4 - v9) then (v4 - v9) else v9)) v8 b_refused b_now b_minds b_fled b_fit) else (if ix v10 100 then (if (b_fit v10.toNatClampNeg) = 0 then zf_X8_send_116 b_holds b_sizes b_elements (zf_X8_send_75 b_holds b_sizes b_elements k54 n) v4 v5 v6 v7 v8 v10 v9 b_refused ((upd b_now 33 v10)) b_minds b_fled b_fit else (Option.bind (zf_X8_isStaying v8 ((upd b_now 33 v10))) (fun u13 => (if u13 then zf_X8_send_117 b_holds b_sizes b_elements (zf_X8_send_75 b_holds b_sizes b_elements k54 n) v4 v5 v6 v7 v8 v10 true v9 b_refused ((upd b_now 33 v10)) b_minds b_fled b_fit else zf_X8_send_116 b_holds b_sizes b_elements (zf_X8_send_75 b_holds b_sizes b_elements k54 n) v4 v5 v6 v7 v8 v10 v9 b_refused ((upd b_now 33 v10)) b_minds b_fled b_fit)))) else none))
def zf_X8_send_169 (b_holds : Nat → Int32) (b_sizes : Nat → Int32) (b_elements : Nat → Int64) (v5 : Int32) (v7 : Int32) (b_refused : Nat → Int32) (b_now : Nat → Int32) (b_minds : Nat → Int32) (b_fled : Bool) (b_fit : Nat → Int32) : Option (Int32 × (Nat → Int32) × (Nat → Int32) × (Nat → Int32) × Bool × (Nat → Int32)) := some (v5, b_refused, (upd b_now 33 v7), b_minds, b_fled, b_fit)
def zf_X8_send_54 (b_holds : Nat → Int32) (b_sizes : Nat → Int32) (b_elements : Nat → Int64) : Nat → Int32 → Int32 → Int32 → Int32 → Int32 → (Nat → Int32) → (Nat → Int32) → (Nat → Int32) → Bool → (Nat → Int32) → Option (Int32 × (Nat → Int32) × (Nat → Int32) × (Nat → Int32) × Bool × (Nat → Int32))
  | 0, _, _, _, _, _, _, _, _, _, _ => none
  | n + 1, v4, v5, v6, v7, v8, b_refused, b_now, b_minds, b_fled, b_fit => (Option.bind (zf_X8_many b_now) (fun u6 => (if u6 ≤ v8 then zf_X8_send_169 b_holds b_sizes b_elements v5 v7 b_refused b_now b_minds b_fled b_fit else (if v4 ≤ (1 : Int32) then zf_X8_send_169 b_holds b_sizes b_elements v5 v7 b_refused b_now b_minds b_fled b_fit else zf_X8_send_75 b_holds b_sizes b_elements (zf_X8_send_54 b_holds b_sizes b_elements n) FU v4 v5 v6 v7 v8 ((0 : Int32)) ((0 : Int32)) b_refused b_now b_minds b_fled b_fit))))
def zf_X8_send (x1 : Int32) (x2 : Int32) (b_refused : Nat → Int32) (b_now : Nat → Int32) (b_minds : Nat → Int32) (b_fled : Bool) (b_holds : Nat → Int32) (b_sizes : Nat → Int32) (b_elements : Nat → Int64) (b_fit : Nat → Int32) : Option (Int32 × (Nat → Int32) × (Nat → Int32) × (Nat → Int32) × Bool × (Nat → Int32)) := (Option.bind (zf_X8_twos true x1 x2 b_now b_holds b_sizes b_elements) (fun u1 => (if 0 ≤ u1 then (Option.bind (zf_X8_fillFit x1 x2 (((33 : Int32))) (((99 : Int32))) b_now b_minds b_fled b_elements b_fit) (fun u3 => (Option.bind (zf_X8_ofFit (((0 : Int32))) u3.2.2.2) (fun u4 => zf_X8_send_54 b_holds b_sizes b_elements FU u4 ((-1 : Int32)) ((101 : Int32)) ((u3.1 33)) ((0 : Int32)) b_refused u3.1 u3.2.1 u3.2.2.1 u3.2.2.2)))) else (Option.bind (zf_X8_refuse u1 b_refused) (fun u5 => some (u5.1, u5.2, b_now, b_minds, b_fled, b_fit))))))
abbrev zr_X8_send : Room := { frames := 5, cells := 0, slots := 0, locals := 115 }
set_option maxHeartbeats 4000000 in
set_option maxRecDepth 100000 in
theorem c_X8_send (l : Launch) (G : va_G) (cy : Nat → ClassId) (tt : Nat → Nat) (M : Nat → Nat) (b_isKept : Bool) (b_size : Int32) (b_at : Int32) (b_from : Int32) (b_sort : Int32) (b_flights : Int32) (b_firstFlight : Int32) (b_bestHarms : Int32) (b_bestRage : Int32) (b_harmed : Int64) (b_raged : Int64) (x1 : Int32) (x2 : Int32) (b_refused : Nat → Int32) (b_now : Nat → Int32) (b_minds : Nat → Int32) (b_fled : Bool) (b_holds : Nat → Int32) (b_sizes : Nat → Int32) (b_elements : Nat → Int64) (b_fit : Nat → Int32) (res : Int32 × (Nat → Int32) × (Nat → Int32) × (Nat → Int32) × Bool × (Nat → Int32)) (hf : zf_X8_send x1 x2 b_refused b_now b_minds b_fled b_holds b_sizes b_elements b_fit = some res) : zCT l yX8_send cX8_send 11 (some .int) zr_X8_send G cy tt [.ref ((M 0)), .int x1, .int x2] [xM M b_isKept b_size b_at b_from b_sort b_fled b_flights b_firstFlight b_bestHarms b_bestRage b_harmed b_raged, xI cy ((M 1)) 7 b_refused, xI cy ((M 2)) 39 b_now, xI cy ((M 4)) 273 b_minds, xI cy ((M 7)) 8 b_holds, xI cy ((M 8)) 8 b_sizes, xJ cy ((M 9)) 320 b_elements, xZ cy ((M 14)) 100 b_fit] (some (.int res.1)) [xM M b_isKept b_size b_at b_from b_sort res.2.2.2.2.1 b_flights b_firstFlight b_bestHarms b_bestRage b_harmed b_raged, xI cy ((M 1)) 7 res.2.1, xI cy ((M 2)) 39 res.2.2.1, xI cy ((M 4)) 273 res.2.2.2.1, xI cy ((M 7)) 8 b_holds, xI cy ((M 8)) 8 b_sizes, xJ cy ((M 9)) 320 b_elements, xZ cy ((M 14)) 100 res.2.2.2.2.2] := by
  refine zk_start zn_X8 (Nat.le_of_ble_eq_true rfl) ?_
  intro p e s m args below meth c A ls Q C hr hQ hw hl
  have C : zCx p m c s args meth cX8_send 11 RX8 G cy tt A := C
  have hx := C.1.1
  have hb := C.1.2.1
  have hl : lv_has ls 11 [(0, .ref ((M 0))), (1, .int x1), (2, .int x2)] := hl
  have J117 : ∀ (k75 : Int32 → Int32 → Int32 → Int32 → Int32 → Int32 → Int32 → (Nat → Int32) → (Nat → Int32) → (Nat → Int32) → Bool → (Nat → Int32) → Option (Int32 × (Nat → Int32) × (Nat → Int32) × (Nat → Int32) × Bool × (Nat → Int32))) (K75 : ∀ (v4 : Int32) (v5 : Int32) (v6 : Int32) (v7 : Int32) (v8 : Int32) (v9 : Int32) (v10 : Int32) (b_refused : Nat → Int32) (b_now : Nat → Int32) (b_minds : Nat → Int32) (b_fled : Bool) (b_fit : Nat → Int32) (H : Heap) (locs : List Loc) (ls : Array Slot), k75 v4 v5 v6 v7 v8 v9 v10 b_refused b_now b_minds b_fled b_fit = some res → zWd G A s.heap H locs [xM M b_isKept b_size b_at b_from b_sort b_fled b_flights b_firstFlight b_bestHarms b_bestRage b_harmed b_raged, xI cy ((M 1)) 7 b_refused, xI cy ((M 2)) 39 b_now, xI cy ((M 4)) 273 b_minds, xI cy ((M 7)) 8 b_holds, xI cy ((M 8)) 8 b_sizes, xJ cy ((M 9)) 320 b_elements, xZ cy ((M 14)) 100 b_fit] → lv_has ls 11 [(0, .ref ((M 0))), (4, .int v4), (5, .int v5), (6, .int v6), (7, .int v7), (8, .int v8), (9, .int v9), (10, .int v10)] → W p l e zr_X8_send s m args below meth c H locs 0 0 Q (F0 m 75 ls [])), ∀ (v4 : Int32) (v5 : Int32) (v6 : Int32) (v7 : Int32) (v8 : Int32) (v10 : Int32) (t0 : Bool) (t1 : Int32) (b_refused : Nat → Int32) (b_now : Nat → Int32) (b_minds : Nat → Int32) (b_fled : Bool) (b_fit : Nat → Int32) (H : Heap) (locs : List Loc) (ls : Array Slot), zf_X8_send_117 b_holds b_sizes b_elements k75 v4 v5 v6 v7 v8 v10 t0 t1 b_refused b_now b_minds b_fled b_fit = some res → zWd G A s.heap H locs [xM M b_isKept b_size b_at b_from b_sort b_fled b_flights b_firstFlight b_bestHarms b_bestRage b_harmed b_raged, xI cy ((M 1)) 7 b_refused, xI cy ((M 2)) 39 b_now, xI cy ((M 4)) 273 b_minds, xI cy ((M 7)) 8 b_holds, xI cy ((M 8)) 8 b_sizes, xJ cy ((M 9)) 320 b_elements, xZ cy ((M 14)) 100 b_fit] → lv_has ls 11 [(0, .ref ((M 0))), (4, .int v4), (5, .int v5), (6, .int v6), (7, .int v7), (8, .int v8), (10, .int v10)] → W p l e zr_X8_send s m args below meth c H locs 0 0 Q (F0 m 117 ls [.int (bI t0), .int t1]) := by
    intro k75 K75 v4 v5 v6 v7 v8 v10 t0 t1 b_refused b_now b_minds b_fled b_fit H locs ls hf hw hl
    rw [zf_X8_send_117] at hf
    refine lv_iadd (pc := 117) hx hb dX8_send_117 ?_
    refine lv_istore (pc := 118) (lv' := [(9, .int ((t1 + (bI t0)))), (0, .ref ((M 0))), (4, .int v4), (5, .int v5), (6, .int v6), (7, .int v7), (8, .int v8), (10, .int v10)]) hx hb dX8_send_118 hl (by decide) rfl (fun ls hl => ?_)
    refine lv_iinc (pc := 120) (v := (v10 + 1)) (lv' := [(10, .int ((v10 + 1))), (9, .int ((t1 + (bI t0)))), (0, .ref ((M 0))), (4, .int v4), (5, .int v5), (6, .int v6), (7, .int v7), (8, .int v8)]) hx hb dX8_send_120 hl (k := 7) rfl rfl (by decide) rfl (fun ls hl => ?_)
    refine lv_goto (pc := 123) (tgt := 75) hx hb dX8_send_123 (by decide) ?_
    exact K75 v4 v5 v6 v7 v8 ((t1 + (bI t0))) ((v10 + 1)) b_refused b_now b_minds b_fled b_fit _ _ _ hf hw (lv_sub hl [2, 3, 4, 5, 6, 7, 1, 0] rfl)
  have J116 : ∀ (k75 : Int32 → Int32 → Int32 → Int32 → Int32 → Int32 → Int32 → (Nat → Int32) → (Nat → Int32) → (Nat → Int32) → Bool → (Nat → Int32) → Option (Int32 × (Nat → Int32) × (Nat → Int32) × (Nat → Int32) × Bool × (Nat → Int32))) (K75 : ∀ (v4 : Int32) (v5 : Int32) (v6 : Int32) (v7 : Int32) (v8 : Int32) (v9 : Int32) (v10 : Int32) (b_refused : Nat → Int32) (b_now : Nat → Int32) (b_minds : Nat → Int32) (b_fled : Bool) (b_fit : Nat → Int32) (H : Heap) (locs : List Loc) (ls : Array Slot), k75 v4 v5 v6 v7 v8 v9 v10 b_refused b_now b_minds b_fled b_fit = some res → zWd G A s.heap H locs [xM M b_isKept b_size b_at b_from b_sort b_fled b_flights b_firstFlight b_bestHarms b_bestRage b_harmed b_raged, xI cy ((M 1)) 7 b_refused, xI cy ((M 2)) 39 b_now, xI cy ((M 4)) 273 b_minds, xI cy ((M 7)) 8 b_holds, xI cy ((M 8)) 8 b_sizes, xJ cy ((M 9)) 320 b_elements, xZ cy ((M 14)) 100 b_fit] → lv_has ls 11 [(0, .ref ((M 0))), (4, .int v4), (5, .int v5), (6, .int v6), (7, .int v7), (8, .int v8), (9, .int v9), (10, .int v10)] → W p l e zr_X8_send s m args below meth c H locs 0 0 Q (F0 m 75 ls [])), ∀ (v4 : Int32) (v5 : Int32) (v6 : Int32) (v7 : Int32) (v8 : Int32) (v10 : Int32) (t0 : Int32) (b_refused : Nat → Int32) (b_now : Nat → Int32) (b_minds : Nat → Int32) (b_fled : Bool) (b_fit : Nat → Int32) (H : Heap) (locs : List Loc) (ls : Array Slot), zf_X8_send_116 b_holds b_sizes b_elements k75 v4 v5 v6 v7 v8 v10 t0 b_refused b_now b_minds b_fled b_fit = some res → zWd G A s.heap H locs [xM M b_isKept b_size b_at b_from b_sort b_fled b_flights b_firstFlight b_bestHarms b_bestRage b_harmed b_raged, xI cy ((M 1)) 7 b_refused, xI cy ((M 2)) 39 b_now, xI cy ((M 4)) 273 b_minds, xI cy ((M 7)) 8 b_holds, xI cy ((M 8)) 8 b_sizes, xJ cy ((M 9)) 320 b_elements, xZ cy ((M 14)) 100 b_fit] → lv_has ls 11 [(0, .ref ((M 0))), (4, .int v4), (5, .int v5), (6, .int v6), (7, .int v7), (8, .int v8), (10, .int v10)] → W p l e zr_X8_send s m args below meth c H locs 0 0 Q (F0 m 116 ls [.int t0]) := by
    intro k75 K75 v4 v5 v6 v7 v8 v10 t0 b_refused b_now b_minds b_fled b_fit H locs ls hf hw hl
    rw [zf_X8_send_116] at hf
    refine lv_iconst (pc := 116) (v := 0) hx hb dX8_send_116 (by decide) ?_
    exact J117 k75 K75 v4 v5 v6 v7 v8 v10 false t0 b_refused b_now b_minds b_fled b_fit _ _ _ hf hw (lv_sub hl [0, 1, 2, 3, 4, 5, 6] rfl)
  have J152 : ∀ (k54 : Int32 → Int32 → Int32 → Int32 → Int32 → (Nat → Int32) → (Nat → Int32) → (Nat → Int32) → Bool → (Nat → Int32) → Option (Int32 × (Nat → Int32) × (Nat → Int32) × (Nat → Int32) × Bool × (Nat → Int32))) (K54 : ∀ (v4 : Int32) (v5 : Int32) (v6 : Int32) (v7 : Int32) (v8 : Int32) (b_refused : Nat → Int32) (b_now : Nat → Int32) (b_minds : Nat → Int32) (b_fled : Bool) (b_fit : Nat → Int32) (H : Heap) (locs : List Loc) (ls : Array Slot), k54 v4 v5 v6 v7 v8 b_refused b_now b_minds b_fled b_fit = some res → zWd G A s.heap H locs [xM M b_isKept b_size b_at b_from b_sort b_fled b_flights b_firstFlight b_bestHarms b_bestRage b_harmed b_raged, xI cy ((M 1)) 7 b_refused, xI cy ((M 2)) 39 b_now, xI cy ((M 4)) 273 b_minds, xI cy ((M 7)) 8 b_holds, xI cy ((M 8)) 8 b_sizes, xJ cy ((M 9)) 320 b_elements, xZ cy ((M 14)) 100 b_fit] → lv_has ls 11 [(0, .ref ((M 0))), (4, .int v4), (5, .int v5), (6, .int v6), (7, .int v7), (8, .int v8)] → W p l e zr_X8_send s m args below meth c H locs 0 0 Q (F0 m 54 ls [])), ∀ (v4 : Int32) (v6 : Int32) (v7 : Int32) (v8 : Int32) (v10 : Int32) (t0 : Int32) (b_refused : Nat → Int32) (b_now : Nat → Int32) (b_minds : Nat → Int32) (b_fled : Bool) (b_fit : Nat → Int32) (H : Heap) (locs : List Loc) (ls : Array Slot), zf_X8_send_152 b_holds b_sizes b_elements k54 v4 v6 v7 v8 v10 t0 b_refused b_now b_minds b_fled b_fit = some res → zWd G A s.heap H locs [xM M b_isKept b_size b_at b_from b_sort b_fled b_flights b_firstFlight b_bestHarms b_bestRage b_harmed b_raged, xI cy ((M 1)) 7 b_refused, xI cy ((M 2)) 39 b_now, xI cy ((M 4)) 273 b_minds, xI cy ((M 7)) 8 b_holds, xI cy ((M 8)) 8 b_sizes, xJ cy ((M 9)) 320 b_elements, xZ cy ((M 14)) 100 b_fit] → lv_has ls 11 [(0, .ref ((M 0))), (4, .int v4), (6, .int v6), (7, .int v7), (8, .int v8), (10, .int v10)] → W p l e zr_X8_send s m args below meth c H locs 0 0 Q (F0 m 152 ls [.int t0]) := by
    intro k54 K54 v4 v6 v7 v8 v10 t0 b_refused b_now b_minds b_fled b_fit H locs ls hf hw hl
    rw [zf_X8_send_152] at hf
    refine lv_istore (pc := 152) (lv' := [(5, .int t0), (0, .ref ((M 0))), (4, .int v4), (6, .int v6), (7, .int v7), (8, .int v8), (10, .int v10)]) hx hb dX8_send_152 hl (by decide) rfl (fun ls hl => ?_)
    refine lv_iload (pc := 154) hx hb dX8_send_154 (lv_at hl 6 rfl) ?_
    refine lv_iload (pc := 156) hx hb dX8_send_156 (lv_at hl 3 rfl) ?_
    refine zk_min (pc := 158) C hl.1 zm_X8_59 ⟨Nat.le_of_ble_eq_true rfl, Nat.le_of_ble_eq_true rfl⟩ ⟨Nat.zero_le _, Nat.zero_le _⟩ dX8_send_158 ?_
    refine lv_istore (pc := 161) (lv' := [(6, .int ((if v6 < v10 then v6 else v10))), (5, .int t0), (0, .ref ((M 0))), (4, .int v4), (7, .int v7), (8, .int v8), (10, .int v10)]) hx hb dX8_send_161 hl (by decide) rfl (fun ls hl => ?_)
    refine lv_iinc (pc := 163) (v := (v8 + 1)) (lv' := [(8, .int ((v8 + 1))), (6, .int ((if v6 < v10 then v6 else v10))), (5, .int t0), (0, .ref ((M 0))), (4, .int v4), (7, .int v7), (10, .int v10)]) hx hb dX8_send_163 hl (k := 5) rfl rfl (by decide) rfl (fun ls hl => ?_)
    refine lv_goto (pc := 166) (tgt := 54) hx hb dX8_send_166 (by decide) ?_
    exact K54 v4 t0 ((if v6 < v10 then v6 else v10)) v7 ((v8 + 1)) b_refused b_now b_minds b_fled b_fit _ _ _ hf hw (lv_sub hl [3, 4, 2, 1, 5, 0] rfl)
  have J75 : ∀ (k54 : Int32 → Int32 → Int32 → Int32 → Int32 → (Nat → Int32) → (Nat → Int32) → (Nat → Int32) → Bool → (Nat → Int32) → Option (Int32 × (Nat → Int32) × (Nat → Int32) × (Nat → Int32) × Bool × (Nat → Int32))) (K54 : ∀ (v4 : Int32) (v5 : Int32) (v6 : Int32) (v7 : Int32) (v8 : Int32) (b_refused : Nat → Int32) (b_now : Nat → Int32) (b_minds : Nat → Int32) (b_fled : Bool) (b_fit : Nat → Int32) (H : Heap) (locs : List Loc) (ls : Array Slot), k54 v4 v5 v6 v7 v8 b_refused b_now b_minds b_fled b_fit = some res → zWd G A s.heap H locs [xM M b_isKept b_size b_at b_from b_sort b_fled b_flights b_firstFlight b_bestHarms b_bestRage b_harmed b_raged, xI cy ((M 1)) 7 b_refused, xI cy ((M 2)) 39 b_now, xI cy ((M 4)) 273 b_minds, xI cy ((M 7)) 8 b_holds, xI cy ((M 8)) 8 b_sizes, xJ cy ((M 9)) 320 b_elements, xZ cy ((M 14)) 100 b_fit] → lv_has ls 11 [(0, .ref ((M 0))), (4, .int v4), (5, .int v5), (6, .int v6), (7, .int v7), (8, .int v8)] → W p l e zr_X8_send s m args below meth c H locs 0 0 Q (F0 m 54 ls [])) (n : Nat), ∀ (v4 : Int32) (v5 : Int32) (v6 : Int32) (v7 : Int32) (v8 : Int32) (v9 : Int32) (v10 : Int32) (b_refused : Nat → Int32) (b_now : Nat → Int32) (b_minds : Nat → Int32) (b_fled : Bool) (b_fit : Nat → Int32) (H : Heap) (locs : List Loc) (ls : Array Slot), zf_X8_send_75 b_holds b_sizes b_elements k54 n v4 v5 v6 v7 v8 v9 v10 b_refused b_now b_minds b_fled b_fit = some res → zWd G A s.heap H locs [xM M b_isKept b_size b_at b_from b_sort b_fled b_flights b_firstFlight b_bestHarms b_bestRage b_harmed b_raged, xI cy ((M 1)) 7 b_refused, xI cy ((M 2)) 39 b_now, xI cy ((M 4)) 273 b_minds, xI cy ((M 7)) 8 b_holds, xI cy ((M 8)) 8 b_sizes, xJ cy ((M 9)) 320 b_elements, xZ cy ((M 14)) 100 b_fit] → lv_has ls 11 [(0, .ref ((M 0))), (4, .int v4), (5, .int v5), (6, .int v6), (7, .int v7), (8, .int v8), (9, .int v9), (10, .int v10)] → W p l e zr_X8_send s m args below meth c H locs 0 0 Q (F0 m 75 ls []) := by
    intro k54 K54 n
    induction n with
    | zero =>
      intro v4 v5 v6 v7 v8 v9 v10 b_refused b_now b_minds b_fled b_fit H locs ls hf hw hl
      rw [zf_X8_send_75] at hf
      cases hf
    | succ n ih =>
      intro v4 v5 v6 v7 v8 v9 v10 b_refused b_now b_minds b_fled b_fit H locs ls hf hw hl
      rw [zf_X8_send_75] at hf
      refine lv_iload (pc := 75) hx hb dX8_send_75 (lv_at hl 7 rfl) ?_
      refine lv_bipush (pc := 77) (v := 100) hx hb dX8_send_77 (by decide) ?_
      refine lv_icmp_ge (pc := 79) (tgt := 126) hx hb dX8_send_79 (by decide) (fun q9 => ?_) (fun q9 => ?_)
      · replace hf := if_t q9 hf
        refine lv_iload (pc := 126) hx hb dX8_send_126 (lv_at hl 6 rfl) ?_
        refine lv_iload (pc := 128) hx hb dX8_send_128 (lv_at hl 1 rfl) ?_
        refine lv_iload (pc := 130) hx hb dX8_send_130 (lv_at hl 6 rfl) ?_
        refine lv_isub (pc := 132) hx hb dX8_send_132 ?_
        refine zk_max (pc := 133) C hl.1 zm_X8_65 ⟨Nat.le_of_ble_eq_true rfl, Nat.le_of_ble_eq_true rfl⟩ ⟨Nat.zero_le _, Nat.zero_le _⟩ dX8_send_133 ?_
        refine lv_istore (pc := 136) (lv' := [(10, .int ((if v9 < (v4 - v9) then (v4 - v9) else v9))), (0, .ref ((M 0))), (4, .int v4), (5, .int v5), (6, .int v6), (7, .int v7), (8, .int v8), (9, .int v9)]) hx hb dX8_send_136 hl (by decide) rfl (fun ls hl => ?_)
        refine lv_iload (pc := 138) hx hb dX8_send_138 (lv_at hl 0 rfl) ?_
        refine lv_iload (pc := 140) hx hb dX8_send_140 (lv_at hl 4 rfl) ?_
        refine lv_icmp_ge (pc := 142) (tgt := 150) hx hb dX8_send_142 (by decide) (fun q10 => ?_) (fun q10 => ?_)
        · replace hf := if_t q10 hf
          refine lv_iload (pc := 150) hx hb dX8_send_150 (lv_at hl 3 rfl) ?_
          exact J152 k54 K54 v4 v6 v7 v8 ((if v9 < (v4 - v9) then (v4 - v9) else v9)) v5 b_refused b_now b_minds b_fled b_fit _ _ _ hf hw (lv_sub hl [1, 2, 4, 5, 6, 0] rfl)
        · replace hf := if_f q10 hf
          refine lv_iload (pc := 145) hx hb dX8_send_145 (lv_at hl 6 rfl) ?_
          refine lv_goto (pc := 147) (tgt := 152) hx hb dX8_send_147 (by decide) ?_
          exact J152 k54 K54 v4 v6 v7 v8 ((if v9 < (v4 - v9) then (v4 - v9) else v9)) v8 b_refused b_now b_minds b_fled b_fit _ _ _ hf hw (lv_sub hl [1, 2, 4, 5, 6, 0] rfl)
      · replace hf := if_f q9 hf
        refine lv_aload_n (pc := 82) hx hb dX8_send_82 rfl (lv_at hl 0 rfl) ?_
        refine zk_gt (pc := 83) C hw zl_X8_17 0 rfl rfl dX8_send_83 ?_
        refine lv_bipush (pc := 86) (v := 33) hx hb dX8_send_86 (by decide) ?_
        refine lv_iload (pc := 88) hx hb dX8_send_88 (lv_at hl 7 rfl) ?_
        refine zk_iastK (pc := 90) (w' := [xM M b_isKept b_size b_at b_from b_sort b_fled b_flights b_firstFlight b_bestHarms b_bestRage b_harmed b_raged, xI cy ((M 1)) 7 b_refused, xI cy ((M 2)) 39 ((upd b_now 33 v10)), xI cy ((M 4)) 273 b_minds, xI cy ((M 7)) 8 b_holds, xI cy ((M 8)) 8 b_sizes, xJ cy ((M 9)) 320 b_elements, xZ cy ((M 14)) 100 b_fit]) 33 (by decide) C hw 2 rfl (by decide) rfl dX8_send_90 (fun H locs hw => ?_)
        refine lv_iload (pc := 91) hx hb dX8_send_91 (lv_at hl 6 rfl) ?_
        refine lv_aload_n (pc := 93) hx hb dX8_send_93 rfl (lv_at hl 0 rfl) ?_
        refine zk_gt (pc := 94) C hw zl_X8_55 0 rfl rfl dX8_send_94 ?_
        refine lv_iload (pc := 97) hx hb dX8_send_97 (lv_at hl 7 rfl) ?_
        obtain ⟨q11, hf⟩ := ck hf
        refine zk_zald (pc := 99) C hw 7 rfl q11 dX8_send_99 ?_
        refine lv_if_eq (pc := 100) (tgt := 116) hx hb dX8_send_100 (by decide) (fun q12 => ?_) (fun q12 => ?_)
        · replace hf := if_t q12 hf
          exact J116 (zf_X8_send_75 b_holds b_sizes b_elements k54 n) ih v4 v5 v6 v7 v8 v10 v9 b_refused ((upd b_now 33 v10)) b_minds b_fled b_fit _ _ _ hf hw (lv_sub hl [0, 1, 2, 3, 4, 5, 7] rfl)
        · replace hf := if_f q12 hf
          refine lv_aload_n (pc := 103) hx hb dX8_send_103 rfl (lv_at hl 0 rfl) ?_
          refine lv_iload (pc := 104) hx hb dX8_send_104 (lv_at hl 5 rfl) ?_
          obtain ⟨u13, u13e, hf⟩ := bd hf
          refine zk_cV (pc := 106) (ci := 8) (q0 := 0) (rest := [.int v9]) (st1 := [.int (bI u13), .int v9]) (w' := [xM M b_isKept b_size b_at b_from b_sort b_fled b_flights b_firstFlight b_bestHarms b_bestRage b_harmed b_raged, xI cy ((M 1)) 7 b_refused, xI cy ((M 2)) 39 ((upd b_now 33 v10)), xI cy ((M 4)) 273 b_minds, xI cy ((M 7)) 8 b_holds, xI cy ((M 8)) 8 b_sizes, xJ cy ((M 9)) 320 b_elements, xZ cy ((M 14)) 100 b_fit]) (mk := [none, none, none, none, none, none, none, none]) C hw (c_X8_isStaying l G cy tt M b_isKept b_size b_at b_from b_sort b_fled b_flights b_firstFlight b_bestHarms b_bestRage b_harmed b_raged v8 ((upd b_now 33 v10)) _ u13e) zy_X8_isStaying zm_X8_166 rfl rfl rfl [0, 2] rfl rfl rfl rfl rfl rfl rfl rfl hl.1 ⟨rfl, rfl⟩ ⟨Nat.le_of_ble_eq_true rfl, Nat.le_of_ble_eq_true rfl⟩ rfl (Nat.le_of_ble_eq_true rfl) ⟨Nat.zero_le _, Nat.zero_le _⟩ dX8_send_106 (fun H locs hw => ?_)
          refine zk_ifz (pc := 109) (tgt := 116) hx hb dX8_send_109 (by decide) (fun q14 => ?_) (fun q14 => ?_)
          · replace hf := if_f q14 hf
            exact J116 (zf_X8_send_75 b_holds b_sizes b_elements k54 n) ih v4 v5 v6 v7 v8 v10 v9 b_refused ((upd b_now 33 v10)) b_minds b_fled b_fit _ _ _ hf hw (lv_sub hl [0, 1, 2, 3, 4, 5, 7] rfl)
          · replace hf := if_t q14 hf
            refine lv_iconst (pc := 112) (v := 1) hx hb dX8_send_112 (by decide) ?_
            refine lv_goto (pc := 113) (tgt := 117) hx hb dX8_send_113 (by decide) ?_
            exact J117 (zf_X8_send_75 b_holds b_sizes b_elements k54 n) ih v4 v5 v6 v7 v8 v10 true v9 b_refused ((upd b_now 33 v10)) b_minds b_fled b_fit _ _ _ hf hw (lv_sub hl [0, 1, 2, 3, 4, 5, 7] rfl)
  have J169 : ∀ (v5 : Int32) (v7 : Int32) (b_refused : Nat → Int32) (b_now : Nat → Int32) (b_minds : Nat → Int32) (b_fled : Bool) (b_fit : Nat → Int32) (H : Heap) (locs : List Loc) (ls : Array Slot), zf_X8_send_169 b_holds b_sizes b_elements v5 v7 b_refused b_now b_minds b_fled b_fit = some res → zWd G A s.heap H locs [xM M b_isKept b_size b_at b_from b_sort b_fled b_flights b_firstFlight b_bestHarms b_bestRage b_harmed b_raged, xI cy ((M 1)) 7 b_refused, xI cy ((M 2)) 39 b_now, xI cy ((M 4)) 273 b_minds, xI cy ((M 7)) 8 b_holds, xI cy ((M 8)) 8 b_sizes, xJ cy ((M 9)) 320 b_elements, xZ cy ((M 14)) 100 b_fit] → lv_has ls 11 [(0, .ref ((M 0))), (5, .int v5), (7, .int v7)] → W p l e zr_X8_send s m args below meth c H locs 0 0 Q (F0 m 169 ls []) := by
    intro v5 v7 b_refused b_now b_minds b_fled b_fit H locs ls hf hw hl
    rw [zf_X8_send_169] at hf
    refine lv_aload_n (pc := 169) hx hb dX8_send_169 rfl (lv_at hl 0 rfl) ?_
    refine zk_gt (pc := 170) C hw zl_X8_17 0 rfl rfl dX8_send_170 ?_
    refine lv_bipush (pc := 173) (v := 33) hx hb dX8_send_173 (by decide) ?_
    refine lv_iload (pc := 175) hx hb dX8_send_175 (lv_at hl 2 rfl) ?_
    refine zk_iastK (pc := 177) (w' := [xM M b_isKept b_size b_at b_from b_sort b_fled b_flights b_firstFlight b_bestHarms b_bestRage b_harmed b_raged, xI cy ((M 1)) 7 b_refused, xI cy ((M 2)) 39 ((upd b_now 33 v7)), xI cy ((M 4)) 273 b_minds, xI cy ((M 7)) 8 b_holds, xI cy ((M 8)) 8 b_sizes, xJ cy ((M 9)) 320 b_elements, xZ cy ((M 14)) 100 b_fit]) 33 (by decide) C hw 2 rfl (by decide) rfl dX8_send_177 (fun H locs hw => ?_)
    refine lv_iload (pc := 178) hx hb dX8_send_178 (lv_at hl 1 rfl) ?_
    have hf := Option.some.inj hf
    subst hf
    exact zk_reti (pc := 180) (ww := [xM M b_isKept b_size b_at b_from b_sort b_fled b_flights b_firstFlight b_bestHarms b_bestRage b_harmed b_raged, xI cy ((M 1)) 7 b_refused, xI cy ((M 2)) 39 ((upd b_now 33 v7)), xI cy ((M 4)) 273 b_minds, xI cy ((M 7)) 8 b_holds, xI cy ((M 8)) 8 b_sizes, xJ cy ((M 9)) 320 b_elements, xZ cy ((M 14)) 100 b_fit]) C hw hr hQ dX8_send_180
  have J54 : ∀ (n : Nat), ∀ (v4 : Int32) (v5 : Int32) (v6 : Int32) (v7 : Int32) (v8 : Int32) (b_refused : Nat → Int32) (b_now : Nat → Int32) (b_minds : Nat → Int32) (b_fled : Bool) (b_fit : Nat → Int32) (H : Heap) (locs : List Loc) (ls : Array Slot), zf_X8_send_54 b_holds b_sizes b_elements n v4 v5 v6 v7 v8 b_refused b_now b_minds b_fled b_fit = some res → zWd G A s.heap H locs [xM M b_isKept b_size b_at b_from b_sort b_fled b_flights b_firstFlight b_bestHarms b_bestRage b_harmed b_raged, xI cy ((M 1)) 7 b_refused, xI cy ((M 2)) 39 b_now, xI cy ((M 4)) 273 b_minds, xI cy ((M 7)) 8 b_holds, xI cy ((M 8)) 8 b_sizes, xJ cy ((M 9)) 320 b_elements, xZ cy ((M 14)) 100 b_fit] → lv_has ls 11 [(0, .ref ((M 0))), (4, .int v4), (5, .int v5), (6, .int v6), (7, .int v7), (8, .int v8)] → W p l e zr_X8_send s m args below meth c H locs 0 0 Q (F0 m 54 ls []) := by
    intro n
    induction n with
    | zero =>
      intro v4 v5 v6 v7 v8 b_refused b_now b_minds b_fled b_fit H locs ls hf hw hl
      rw [zf_X8_send_54] at hf
      cases hf
    | succ n ih =>
      intro v4 v5 v6 v7 v8 b_refused b_now b_minds b_fled b_fit H locs ls hf hw hl
      rw [zf_X8_send_54] at hf
      refine lv_iload (pc := 54) hx hb dX8_send_54 (lv_at hl 5 rfl) ?_
      refine lv_aload_n (pc := 56) hx hb dX8_send_56 rfl (lv_at hl 0 rfl) ?_
      obtain ⟨u6, u6e, hf⟩ := bd hf
      refine zk_cV (pc := 57) (ci := 8) (q0 := 0) (rest := [.int v8]) (st1 := [.int u6, .int v8]) (w' := [xM M b_isKept b_size b_at b_from b_sort b_fled b_flights b_firstFlight b_bestHarms b_bestRage b_harmed b_raged, xI cy ((M 1)) 7 b_refused, xI cy ((M 2)) 39 b_now, xI cy ((M 4)) 273 b_minds, xI cy ((M 7)) 8 b_holds, xI cy ((M 8)) 8 b_sizes, xJ cy ((M 9)) 320 b_elements, xZ cy ((M 14)) 100 b_fit]) (mk := [none, none, none, none, none, none, none, none]) C hw (c_X8_many l G cy tt M b_isKept b_size b_at b_from b_sort b_fled b_flights b_firstFlight b_bestHarms b_bestRage b_harmed b_raged b_now _ u6e) zy_X8_many zm_X8_80 rfl rfl rfl [0, 2] rfl rfl rfl rfl rfl rfl rfl rfl hl.1 ⟨rfl, rfl⟩ ⟨Nat.le_of_ble_eq_true rfl, Nat.le_of_ble_eq_true rfl⟩ rfl (Nat.le_of_ble_eq_true rfl) ⟨Nat.zero_le _, Nat.zero_le _⟩ dX8_send_57 (fun H locs hw => ?_)
      refine lv_icmp_ge (pc := 60) (tgt := 169) hx hb dX8_send_60 (by decide) (fun q7 => ?_) (fun q7 => ?_)
      · replace hf := if_t q7 hf
        exact J169 v5 v7 b_refused b_now b_minds b_fled b_fit _ _ _ hf hw (lv_sub hl [0, 2, 4] rfl)
      · replace hf := if_f q7 hf
        refine lv_iload (pc := 63) hx hb dX8_send_63 (lv_at hl 1 rfl) ?_
        refine lv_iconst (pc := 65) (v := 1) hx hb dX8_send_65 (by decide) ?_
        refine lv_icmp_le (pc := 66) (tgt := 169) hx hb dX8_send_66 (by decide) (fun q8 => ?_) (fun q8 => ?_)
        · replace hf := if_t q8 hf
          exact J169 v5 v7 b_refused b_now b_minds b_fled b_fit _ _ _ hf hw (lv_sub hl [0, 2, 4] rfl)
        · replace hf := if_f q8 hf
          refine lv_iconst (pc := 69) (v := 0) hx hb dX8_send_69 (by decide) ?_
          refine lv_istore (pc := 70) (lv' := [(9, .int ((0 : Int32))), (0, .ref ((M 0))), (4, .int v4), (5, .int v5), (6, .int v6), (7, .int v7), (8, .int v8)]) hx hb dX8_send_70 hl (by decide) rfl (fun ls hl => ?_)
          refine lv_iconst (pc := 72) (v := 0) hx hb dX8_send_72 (by decide) ?_
          refine lv_istore (pc := 73) (lv' := [(10, .int ((0 : Int32))), (9, .int ((0 : Int32))), (0, .ref ((M 0))), (4, .int v4), (5, .int v5), (6, .int v6), (7, .int v7), (8, .int v8)]) hx hb dX8_send_73 hl (by decide) rfl (fun ls hl => ?_)
          exact J75 (zf_X8_send_54 b_holds b_sizes b_elements n) ih FU v4 v5 v6 v7 v8 ((0 : Int32)) ((0 : Int32)) b_refused b_now b_minds b_fled b_fit _ _ _ hf hw (lv_sub hl [2, 3, 4, 5, 6, 7, 1, 0] rfl)
  rw [zf_X8_send] at hf
  refine lv_aload_n (pc := 0) hx hb dX8_send_0 rfl (lv_at hl 0 rfl) ?_
  refine lv_iconst (pc := 1) (v := 1) hx hb dX8_send_1 (by decide) ?_
  refine lv_iload_n (pc := 2) hx hb dX8_send_2 rfl (lv_at hl 1 rfl) ?_
  refine lv_iload_n (pc := 3) hx hb dX8_send_3 rfl (lv_at hl 2 rfl) ?_
  obtain ⟨u1, u1e, hf⟩ := bd hf
  refine zk_cV (pc := 4) (ci := 8) (q0 := 0) (rest := []) (st1 := [.int u1]) (w' := [xM M b_isKept b_size b_at b_from b_sort b_fled b_flights b_firstFlight b_bestHarms b_bestRage b_harmed b_raged, xI cy ((M 1)) 7 b_refused, xI cy ((M 2)) 39 b_now, xI cy ((M 4)) 273 b_minds, xI cy ((M 7)) 8 b_holds, xI cy ((M 8)) 8 b_sizes, xJ cy ((M 9)) 320 b_elements, xZ cy ((M 14)) 100 b_fit]) (mk := [none, none, none, none, none, none, none, none]) C hw (c_X8_twos l G cy tt M b_isKept b_size b_at b_from b_sort b_fled b_flights b_firstFlight b_bestHarms b_bestRage b_harmed b_raged true x1 x2 b_now b_holds b_sizes b_elements _ u1e) zy_X8_twos zm_X8_250 rfl rfl rfl [0, 2, 4, 5, 6] rfl rfl rfl rfl rfl rfl rfl rfl hl.1 ⟨rfl, rfl⟩ ⟨Nat.le_of_ble_eq_true rfl, Nat.le_of_ble_eq_true rfl⟩ rfl (Nat.le_of_ble_eq_true rfl) ⟨Nat.zero_le _, Nat.zero_le _⟩ dX8_send_4 (fun H locs hw => ?_)
  refine lv_istore_n (pc := 7) (lv' := [(3, .int u1), (0, .ref ((M 0))), (1, .int x1), (2, .int x2)]) hx hb dX8_send_7 rfl hl (by decide) rfl (fun ls hl => ?_)
  refine lv_iload_n (pc := 8) hx hb dX8_send_8 rfl (lv_at hl 0 rfl) ?_
  refine lv_if_ge (pc := 9) (tgt := 18) hx hb dX8_send_9 (by decide) (fun q2 => ?_) (fun q2 => ?_)
  · replace hf := if_t q2 hf
    refine lv_aload_n (pc := 18) hx hb dX8_send_18 rfl (lv_at hl 1 rfl) ?_
    refine lv_iload_n (pc := 19) hx hb dX8_send_19 rfl (lv_at hl 2 rfl) ?_
    refine lv_iload_n (pc := 20) hx hb dX8_send_20 rfl (lv_at hl 3 rfl) ?_
    refine lv_bipush (pc := 21) (v := 33) hx hb dX8_send_21 (by decide) ?_
    refine lv_bipush (pc := 23) (v := 99) hx hb dX8_send_23 (by decide) ?_
    obtain ⟨u3, u3e, hf⟩ := bd hf
    refine zk_cV (pc := 25) (ci := 8) (q0 := 0) (rest := []) (st1 := []) (w' := [xM M b_isKept b_size b_at b_from b_sort u3.2.2.1 b_flights b_firstFlight b_bestHarms b_bestRage b_harmed b_raged, xI cy ((M 1)) 7 b_refused, xI cy ((M 2)) 39 u3.1, xI cy ((M 4)) 273 u3.2.1, xI cy ((M 7)) 8 b_holds, xI cy ((M 8)) 8 b_sizes, xJ cy ((M 9)) 320 b_elements, xZ cy ((M 14)) 100 u3.2.2.2]) (mk := [some (xM M b_isKept b_size b_at b_from b_sort u3.2.2.1 b_flights b_firstFlight b_bestHarms b_bestRage b_harmed b_raged), none, some (xI cy ((M 2)) 39 u3.1), some (xI cy ((M 4)) 273 u3.2.1), none, none, none, some (xZ cy ((M 14)) 100 u3.2.2.2)]) C hw (c_X8_fillFit l G cy tt M b_isKept b_size b_at b_from b_sort b_flights b_firstFlight b_bestHarms b_bestRage b_harmed b_raged x1 x2 (((33 : Int32))) (((99 : Int32))) b_now b_minds b_fled b_elements b_fit _ u3e) zy_X8_fillFit zm_X8_253 rfl rfl rfl [0, 2, 3, 6, 7] rfl rfl rfl rfl rfl rfl rfl rfl hl.1 ⟨rfl, rfl⟩ ⟨Nat.le_of_ble_eq_true rfl, Nat.le_of_ble_eq_true rfl⟩ rfl (Nat.le_of_ble_eq_true rfl) ⟨Nat.zero_le _, Nat.zero_le _⟩ dX8_send_25 (fun H locs hw => ?_)
    refine lv_aload_n (pc := 28) hx hb dX8_send_28 rfl (lv_at hl 1 rfl) ?_
    refine lv_iconst (pc := 29) (v := 0) hx hb dX8_send_29 (by decide) ?_
    obtain ⟨u4, u4e, hf⟩ := bd hf
    refine zk_cV (pc := 30) (ci := 8) (q0 := 0) (rest := []) (st1 := [.int u4]) (w' := [xM M b_isKept b_size b_at b_from b_sort u3.2.2.1 b_flights b_firstFlight b_bestHarms b_bestRage b_harmed b_raged, xI cy ((M 1)) 7 b_refused, xI cy ((M 2)) 39 u3.1, xI cy ((M 4)) 273 u3.2.1, xI cy ((M 7)) 8 b_holds, xI cy ((M 8)) 8 b_sizes, xJ cy ((M 9)) 320 b_elements, xZ cy ((M 14)) 100 u3.2.2.2]) (mk := [none, none, none, none, none, none, none, none]) C hw (c_X8_ofFit l G cy tt M b_isKept b_size b_at b_from b_sort u3.2.2.1 b_flights b_firstFlight b_bestHarms b_bestRage b_harmed b_raged (((0 : Int32))) u3.2.2.2 _ u4e) zy_X8_ofFit zm_X8_257 rfl rfl rfl [0, 7] rfl rfl rfl rfl rfl rfl rfl rfl hl.1 ⟨rfl, rfl⟩ ⟨Nat.le_of_ble_eq_true rfl, Nat.le_of_ble_eq_true rfl⟩ rfl (Nat.le_of_ble_eq_true rfl) ⟨Nat.zero_le _, Nat.zero_le _⟩ dX8_send_30 (fun H locs hw => ?_)
    refine lv_istore (pc := 33) (lv' := [(4, .int u4), (3, .int u1), (0, .ref ((M 0))), (1, .int x1), (2, .int x2)]) hx hb dX8_send_33 hl (by decide) rfl (fun ls hl => ?_)
    refine lv_iconst (pc := 35) (v := -1) hx hb dX8_send_35 (by decide) ?_
    refine lv_istore (pc := 36) (lv' := [(5, .int ((-1 : Int32))), (4, .int u4), (3, .int u1), (0, .ref ((M 0))), (1, .int x1), (2, .int x2)]) hx hb dX8_send_36 hl (by decide) rfl (fun ls hl => ?_)
    refine lv_bipush (pc := 38) (v := 101) hx hb dX8_send_38 (by decide) ?_
    refine lv_istore (pc := 40) (lv' := [(6, .int ((101 : Int32))), (5, .int ((-1 : Int32))), (4, .int u4), (3, .int u1), (0, .ref ((M 0))), (1, .int x1), (2, .int x2)]) hx hb dX8_send_40 hl (by decide) rfl (fun ls hl => ?_)
    refine lv_aload_n (pc := 42) hx hb dX8_send_42 rfl (lv_at hl 4 rfl) ?_
    refine zk_gt (pc := 43) C hw zl_X8_17 0 rfl rfl dX8_send_43 ?_
    refine lv_bipush (pc := 46) (v := 33) hx hb dX8_send_46 (by decide) ?_
    refine zk_ialdK (pc := 48) 33 (by decide) C hw 2 rfl (by decide) dX8_send_48 ?_
    refine lv_istore (pc := 49) (lv' := [(7, .int ((u3.1 33))), (6, .int ((101 : Int32))), (5, .int ((-1 : Int32))), (4, .int u4), (3, .int u1), (0, .ref ((M 0))), (1, .int x1), (2, .int x2)]) hx hb dX8_send_49 hl (by decide) rfl (fun ls hl => ?_)
    refine lv_iconst (pc := 51) (v := 0) hx hb dX8_send_51 (by decide) ?_
    refine lv_istore (pc := 52) (lv' := [(8, .int ((0 : Int32))), (7, .int ((u3.1 33))), (6, .int ((101 : Int32))), (5, .int ((-1 : Int32))), (4, .int u4), (3, .int u1), (0, .ref ((M 0))), (1, .int x1), (2, .int x2)]) hx hb dX8_send_52 hl (by decide) rfl (fun ls hl => ?_)
    exact J54 FU u4 ((-1 : Int32)) ((101 : Int32)) ((u3.1 33)) ((0 : Int32)) b_refused u3.1 u3.2.1 u3.2.2.1 u3.2.2.2 _ _ _ hf hw (lv_sub hl [6, 4, 3, 2, 1, 0] rfl)
  · replace hf := if_f q2 hf
    refine lv_aload_n (pc := 12) hx hb dX8_send_12 rfl (lv_at hl 1 rfl) ?_
    refine lv_iload_n (pc := 13) hx hb dX8_send_13 rfl (lv_at hl 0 rfl) ?_
    obtain ⟨u5, u5e, hf⟩ := bd hf
    refine zk_cV (pc := 14) (ci := 8) (q0 := 0) (rest := []) (st1 := [.int u5.1]) (w' := [xM M b_isKept b_size b_at b_from b_sort b_fled b_flights b_firstFlight b_bestHarms b_bestRage b_harmed b_raged, xI cy ((M 1)) 7 u5.2, xI cy ((M 2)) 39 b_now, xI cy ((M 4)) 273 b_minds, xI cy ((M 7)) 8 b_holds, xI cy ((M 8)) 8 b_sizes, xJ cy ((M 9)) 320 b_elements, xZ cy ((M 14)) 100 b_fit]) (mk := [none, some (xI cy ((M 1)) 7 u5.2), none, none, none, none, none, none]) C hw (c_X8_refuse l G cy tt M b_isKept b_size b_at b_from b_sort b_fled b_flights b_firstFlight b_bestHarms b_bestRage b_harmed b_raged u1 b_refused _ u5e) zy_X8_refuse zm_X8_90 rfl rfl rfl [0, 1] rfl rfl rfl rfl rfl rfl rfl rfl hl.1 ⟨rfl, rfl⟩ ⟨Nat.le_of_ble_eq_true rfl, Nat.le_of_ble_eq_true rfl⟩ rfl (Nat.le_of_ble_eq_true rfl) ⟨Nat.zero_le _, Nat.zero_le _⟩ dX8_send_14 (fun H locs hw => ?_)
    have hf := Option.some.inj hf
    subst hf
    exact zk_reti (pc := 17) (ww := [xM M b_isKept b_size b_at b_from b_sort b_fled b_flights b_firstFlight b_bestHarms b_bestRage b_harmed b_raged, xI cy ((M 1)) 7 u5.2, xI cy ((M 2)) 39 b_now, xI cy ((M 4)) 273 b_minds, xI cy ((M 7)) 8 b_holds, xI cy ((M 8)) 8 b_sizes, xJ cy ((M 9)) 320 b_elements, xZ cy ((M 14)) 100 b_fit]) C hw hr hQ dX8_send_17
def zf_X8_settles_111 (k25 : Int32 → Int32 → Int32 → (Nat → Int32) → (Nat → Int32) → (Nat → Int32) → Bool → Option (Int32 × (Nat → Int32) × (Nat → Int32) × (Nat → Int32) × Bool)) (v1 : Int32) (v3 : Int32) (t0 : Int32) (b_refused : Nat → Int32) (b_now : Nat → Int32) (b_minds : Nat → Int32) (b_fled : Bool) : Option (Int32 × (Nat → Int32) × (Nat → Int32) × (Nat → Int32) × Bool) := k25 v1 t0 ((v3 + 1)) b_refused b_now b_minds b_fled
def zf_X8_settles_110 (k25 : Int32 → Int32 → Int32 → (Nat → Int32) → (Nat → Int32) → (Nat → Int32) → Bool → Option (Int32 × (Nat → Int32) × (Nat → Int32) × (Nat → Int32) × Bool)) (v1 : Int32) (v3 : Int32) (b_refused : Nat → Int32) (b_now : Nat → Int32) (b_minds : Nat → Int32) (b_fled : Bool) : Option (Int32 × (Nat → Int32) × (Nat → Int32) × (Nat → Int32) × Bool) := zf_X8_settles_111 k25 v1 v3 ((-1 : Int32)) b_refused b_now b_minds b_fled
def zf_X8_settles_118 (v2 : Int32) (b_refused : Nat → Int32) (b_now : Nat → Int32) (b_minds : Nat → Int32) (b_fled : Bool) : Option (Int32 × (Nat → Int32) × (Nat → Int32) × (Nat → Int32) × Bool) := (Option.bind (zf_X8_lay (((0 : Int32))) b_now b_minds) (fun u11 => some (v2, b_refused, u11, b_minds, b_fled)))
def zf_X8_settles_25 : Nat → Int32 → Int32 → Int32 → (Nat → Int32) → (Nat → Int32) → (Nat → Int32) → Bool → Option (Int32 × (Nat → Int32) × (Nat → Int32) × (Nat → Int32) × Bool)
  | 0, _, _, _, _, _, _, _ => none
  | n + 1, v1, v2, v3, b_refused, b_now, b_minds, b_fled => (if (200 : Int32) < v3 then zf_X8_settles_118 v2 b_refused b_now b_minds b_fled else (if v2 = (-1 : Int32) then (Option.bind (zf_X8_step v1 b_now b_fled) (fun u7 => (if (b_now 33) = (u7.2.1 33) then (if (b_now 34) = (u7.2.1 34) then (if (b_now 35) = (u7.2.1 35) then zf_X8_settles_111 (zf_X8_settles_25 n) v1 v3 v3 b_refused u7.2.1 b_minds u7.2.2 else zf_X8_settles_110 (zf_X8_settles_25 n) v1 v3 b_refused u7.2.1 b_minds u7.2.2) else zf_X8_settles_110 (zf_X8_settles_25 n) v1 v3 b_refused u7.2.1 b_minds u7.2.2) else zf_X8_settles_110 (zf_X8_settles_25 n) v1 v3 b_refused u7.2.1 b_minds u7.2.2))) else zf_X8_settles_118 v2 b_refused b_now b_minds b_fled))
def zf_X8_settles (x1 : Int32) (b_refused : Nat → Int32) (b_now : Nat → Int32) (b_minds : Nat → Int32) (b_fled : Bool) : Option (Int32 × (Nat → Int32) × (Nat → Int32) × (Nat → Int32) × Bool) := (Option.bind (zf_X8_isOrder x1.toInt64 b_now) (fun u1 => (if u1 then (Option.bind (zf_X8_keep (((0 : Int32))) b_now b_minds) (fun u3 => zf_X8_settles_25 FU x1 ((-1 : Int32)) ((1 : Int32)) b_refused b_now u3 b_fled)) else (Option.bind (zf_X8_refuse (((-2 : Int32))) b_refused) (fun u4 => some (u4.1, u4.2, b_now, b_minds, b_fled))))))
abbrev zr_X8_settles : Room := { frames := 3, cells := 0, slots := 0, locals := 69 }
set_option maxHeartbeats 4000000 in
set_option maxRecDepth 100000 in
theorem c_X8_settles (l : Launch) (G : va_G) (cy : Nat → ClassId) (tt : Nat → Nat) (M : Nat → Nat) (b_isKept : Bool) (b_size : Int32) (b_at : Int32) (b_from : Int32) (b_sort : Int32) (b_flights : Int32) (b_firstFlight : Int32) (b_bestHarms : Int32) (b_bestRage : Int32) (b_harmed : Int64) (b_raged : Int64) (x1 : Int32) (b_refused : Nat → Int32) (b_now : Nat → Int32) (b_minds : Nat → Int32) (b_fled : Bool) (res : Int32 × (Nat → Int32) × (Nat → Int32) × (Nat → Int32) × Bool) (hf : zf_X8_settles x1 b_refused b_now b_minds b_fled = some res) : zCT l yX8_settles cX8_settles 7 (some .int) zr_X8_settles G cy tt [.ref ((M 0)), .int x1] [xM M b_isKept b_size b_at b_from b_sort b_fled b_flights b_firstFlight b_bestHarms b_bestRage b_harmed b_raged, xI cy ((M 1)) 7 b_refused, xI cy ((M 2)) 39 b_now, xI cy ((M 4)) 273 b_minds] (some (.int res.1)) [xM M b_isKept b_size b_at b_from b_sort res.2.2.2.2 b_flights b_firstFlight b_bestHarms b_bestRage b_harmed b_raged, xI cy ((M 1)) 7 res.2.1, xI cy ((M 2)) 39 res.2.2.1, xI cy ((M 4)) 273 res.2.2.2.1] := by
  refine zk_start zn_X8 (Nat.le_of_ble_eq_true rfl) ?_
  intro p e s m args below meth c A ls Q C hr hQ hw hl
  have C : zCx p m c s args meth cX8_settles 7 RX8 G cy tt A := C
  have hx := C.1.1
  have hb := C.1.2.1
  have hl : lv_has ls 7 [(0, .ref ((M 0))), (1, .int x1)] := hl
  have J111 : ∀ (k25 : Int32 → Int32 → Int32 → (Nat → Int32) → (Nat → Int32) → (Nat → Int32) → Bool → Option (Int32 × (Nat → Int32) × (Nat → Int32) × (Nat → Int32) × Bool)) (K25 : ∀ (v1 : Int32) (v2 : Int32) (v3 : Int32) (b_refused : Nat → Int32) (b_now : Nat → Int32) (b_minds : Nat → Int32) (b_fled : Bool) (H : Heap) (locs : List Loc) (ls : Array Slot), k25 v1 v2 v3 b_refused b_now b_minds b_fled = some res → zWd G A s.heap H locs [xM M b_isKept b_size b_at b_from b_sort b_fled b_flights b_firstFlight b_bestHarms b_bestRage b_harmed b_raged, xI cy ((M 1)) 7 b_refused, xI cy ((M 2)) 39 b_now, xI cy ((M 4)) 273 b_minds] → lv_has ls 7 [(0, .ref ((M 0))), (1, .int v1), (2, .int v2), (3, .int v3)] → W p l e zr_X8_settles s m args below meth c H locs 0 0 Q (F0 m 25 ls [])), ∀ (v1 : Int32) (v3 : Int32) (t0 : Int32) (b_refused : Nat → Int32) (b_now : Nat → Int32) (b_minds : Nat → Int32) (b_fled : Bool) (H : Heap) (locs : List Loc) (ls : Array Slot), zf_X8_settles_111 k25 v1 v3 t0 b_refused b_now b_minds b_fled = some res → zWd G A s.heap H locs [xM M b_isKept b_size b_at b_from b_sort b_fled b_flights b_firstFlight b_bestHarms b_bestRage b_harmed b_raged, xI cy ((M 1)) 7 b_refused, xI cy ((M 2)) 39 b_now, xI cy ((M 4)) 273 b_minds] → lv_has ls 7 [(0, .ref ((M 0))), (1, .int v1), (3, .int v3)] → W p l e zr_X8_settles s m args below meth c H locs 0 0 Q (F0 m 111 ls [.int t0]) := by
    intro k25 K25 v1 v3 t0 b_refused b_now b_minds b_fled H locs ls hf hw hl
    rw [zf_X8_settles_111] at hf
    refine lv_istore_n (pc := 111) (lv' := [(2, .int t0), (0, .ref ((M 0))), (1, .int v1), (3, .int v3)]) hx hb dX8_settles_111 rfl hl (by decide) rfl (fun ls hl => ?_)
    refine lv_iinc (pc := 112) (v := (v3 + 1)) (lv' := [(3, .int ((v3 + 1))), (2, .int t0), (0, .ref ((M 0))), (1, .int v1)]) hx hb dX8_settles_112 hl (k := 3) rfl rfl (by decide) rfl (fun ls hl => ?_)
    refine lv_goto (pc := 115) (tgt := 25) hx hb dX8_settles_115 (by decide) ?_
    exact K25 v1 t0 ((v3 + 1)) b_refused b_now b_minds b_fled _ _ _ hf hw (lv_sub hl [2, 3, 1, 0] rfl)
  have J110 : ∀ (k25 : Int32 → Int32 → Int32 → (Nat → Int32) → (Nat → Int32) → (Nat → Int32) → Bool → Option (Int32 × (Nat → Int32) × (Nat → Int32) × (Nat → Int32) × Bool)) (K25 : ∀ (v1 : Int32) (v2 : Int32) (v3 : Int32) (b_refused : Nat → Int32) (b_now : Nat → Int32) (b_minds : Nat → Int32) (b_fled : Bool) (H : Heap) (locs : List Loc) (ls : Array Slot), k25 v1 v2 v3 b_refused b_now b_minds b_fled = some res → zWd G A s.heap H locs [xM M b_isKept b_size b_at b_from b_sort b_fled b_flights b_firstFlight b_bestHarms b_bestRage b_harmed b_raged, xI cy ((M 1)) 7 b_refused, xI cy ((M 2)) 39 b_now, xI cy ((M 4)) 273 b_minds] → lv_has ls 7 [(0, .ref ((M 0))), (1, .int v1), (2, .int v2), (3, .int v3)] → W p l e zr_X8_settles s m args below meth c H locs 0 0 Q (F0 m 25 ls [])), ∀ (v1 : Int32) (v3 : Int32) (b_refused : Nat → Int32) (b_now : Nat → Int32) (b_minds : Nat → Int32) (b_fled : Bool) (H : Heap) (locs : List Loc) (ls : Array Slot), zf_X8_settles_110 k25 v1 v3 b_refused b_now b_minds b_fled = some res → zWd G A s.heap H locs [xM M b_isKept b_size b_at b_from b_sort b_fled b_flights b_firstFlight b_bestHarms b_bestRage b_harmed b_raged, xI cy ((M 1)) 7 b_refused, xI cy ((M 2)) 39 b_now, xI cy ((M 4)) 273 b_minds] → lv_has ls 7 [(0, .ref ((M 0))), (1, .int v1), (3, .int v3)] → W p l e zr_X8_settles s m args below meth c H locs 0 0 Q (F0 m 110 ls []) := by
    intro k25 K25 v1 v3 b_refused b_now b_minds b_fled H locs ls hf hw hl
    rw [zf_X8_settles_110] at hf
    refine lv_iconst (pc := 110) (v := -1) hx hb dX8_settles_110 (by decide) ?_
    exact J111 k25 K25 v1 v3 ((-1 : Int32)) b_refused b_now b_minds b_fled _ _ _ hf hw (lv_sub hl [0, 1, 2] rfl)
  have J118 : ∀ (v2 : Int32) (b_refused : Nat → Int32) (b_now : Nat → Int32) (b_minds : Nat → Int32) (b_fled : Bool) (H : Heap) (locs : List Loc) (ls : Array Slot), zf_X8_settles_118 v2 b_refused b_now b_minds b_fled = some res → zWd G A s.heap H locs [xM M b_isKept b_size b_at b_from b_sort b_fled b_flights b_firstFlight b_bestHarms b_bestRage b_harmed b_raged, xI cy ((M 1)) 7 b_refused, xI cy ((M 2)) 39 b_now, xI cy ((M 4)) 273 b_minds] → lv_has ls 7 [(0, .ref ((M 0))), (2, .int v2)] → W p l e zr_X8_settles s m args below meth c H locs 0 0 Q (F0 m 118 ls []) := by
    intro v2 b_refused b_now b_minds b_fled H locs ls hf hw hl
    rw [zf_X8_settles_118] at hf
    refine lv_aload_n (pc := 118) hx hb dX8_settles_118 rfl (lv_at hl 0 rfl) ?_
    refine lv_iconst (pc := 119) (v := 0) hx hb dX8_settles_119 (by decide) ?_
    obtain ⟨u11, u11e, hf⟩ := bd hf
    refine zk_cV (pc := 120) (ci := 8) (q0 := 0) (rest := []) (st1 := []) (w' := [xM M b_isKept b_size b_at b_from b_sort b_fled b_flights b_firstFlight b_bestHarms b_bestRage b_harmed b_raged, xI cy ((M 1)) 7 b_refused, xI cy ((M 2)) 39 u11, xI cy ((M 4)) 273 b_minds]) (mk := [none, none, some (xI cy ((M 2)) 39 u11), none]) C hw (c_X8_lay l G cy tt M b_isKept b_size b_at b_from b_sort b_fled b_flights b_firstFlight b_bestHarms b_bestRage b_harmed b_raged (((0 : Int32))) b_now b_minds _ u11e) zy_X8_lay zm_X8_150 rfl rfl rfl [0, 2, 3] rfl rfl rfl rfl rfl rfl rfl rfl hl.1 ⟨rfl, rfl⟩ ⟨Nat.le_of_ble_eq_true rfl, Nat.le_of_ble_eq_true rfl⟩ rfl (Nat.le_of_ble_eq_true rfl) ⟨Nat.zero_le _, Nat.zero_le _⟩ dX8_settles_120 (fun H locs hw => ?_)
    refine lv_iload_n (pc := 123) hx hb dX8_settles_123 rfl (lv_at hl 1 rfl) ?_
    have hf := Option.some.inj hf
    subst hf
    exact zk_reti (pc := 124) (ww := [xM M b_isKept b_size b_at b_from b_sort b_fled b_flights b_firstFlight b_bestHarms b_bestRage b_harmed b_raged, xI cy ((M 1)) 7 b_refused, xI cy ((M 2)) 39 u11, xI cy ((M 4)) 273 b_minds]) C hw hr hQ dX8_settles_124
  have J25 : ∀ (n : Nat), ∀ (v1 : Int32) (v2 : Int32) (v3 : Int32) (b_refused : Nat → Int32) (b_now : Nat → Int32) (b_minds : Nat → Int32) (b_fled : Bool) (H : Heap) (locs : List Loc) (ls : Array Slot), zf_X8_settles_25 n v1 v2 v3 b_refused b_now b_minds b_fled = some res → zWd G A s.heap H locs [xM M b_isKept b_size b_at b_from b_sort b_fled b_flights b_firstFlight b_bestHarms b_bestRage b_harmed b_raged, xI cy ((M 1)) 7 b_refused, xI cy ((M 2)) 39 b_now, xI cy ((M 4)) 273 b_minds] → lv_has ls 7 [(0, .ref ((M 0))), (1, .int v1), (2, .int v2), (3, .int v3)] → W p l e zr_X8_settles s m args below meth c H locs 0 0 Q (F0 m 25 ls []) := by
    intro n
    induction n with
    | zero =>
      intro v1 v2 v3 b_refused b_now b_minds b_fled H locs ls hf hw hl
      rw [zf_X8_settles_25] at hf
      cases hf
    | succ n ih =>
      intro v1 v2 v3 b_refused b_now b_minds b_fled H locs ls hf hw hl
      rw [zf_X8_settles_25] at hf
      refine lv_iload_n (pc := 25) hx hb dX8_settles_25 rfl (lv_at hl 3 rfl) ?_
      refine lv_sipush (pc := 26) (v := 200) hx hb dX8_settles_26 (by decide) ?_
      refine lv_icmp_gt (pc := 29) (tgt := 118) hx hb dX8_settles_29 (by decide) (fun q5 => ?_) (fun q5 => ?_)
      · replace hf := if_t q5 hf
        exact J118 v2 b_refused b_now b_minds b_fled _ _ _ hf hw (lv_sub hl [0, 2] rfl)
      · replace hf := if_f q5 hf
        refine lv_iload_n (pc := 32) hx hb dX8_settles_32 rfl (lv_at hl 2 rfl) ?_
        refine lv_iconst (pc := 33) (v := -1) hx hb dX8_settles_33 (by decide) ?_
        refine lv_icmp_ne (pc := 34) (tgt := 118) hx hb dX8_settles_34 (by decide) (fun q6 => ?_) (fun q6 => ?_)
        · replace hf := if_f q6 hf
          exact J118 v2 b_refused b_now b_minds b_fled _ _ _ hf hw (lv_sub hl [0, 2] rfl)
        · replace hf := if_t q6 hf
          refine lv_aload_n (pc := 37) hx hb dX8_settles_37 rfl (lv_at hl 0 rfl) ?_
          refine zk_gt (pc := 38) C hw zl_X8_17 0 rfl rfl dX8_settles_38 ?_
          refine lv_bipush (pc := 41) (v := 33) hx hb dX8_settles_41 (by decide) ?_
          refine zk_ialdK (pc := 43) 33 (by decide) C hw 2 rfl (by decide) dX8_settles_43 ?_
          refine lv_istore (pc := 44) (lv' := [(4, .int ((b_now 33))), (0, .ref ((M 0))), (1, .int v1), (2, .int v2), (3, .int v3)]) hx hb dX8_settles_44 hl (by decide) rfl (fun ls hl => ?_)
          refine lv_aload_n (pc := 46) hx hb dX8_settles_46 rfl (lv_at hl 1 rfl) ?_
          refine zk_gt (pc := 47) C hw zl_X8_17 0 rfl rfl dX8_settles_47 ?_
          refine lv_bipush (pc := 50) (v := 34) hx hb dX8_settles_50 (by decide) ?_
          refine zk_ialdK (pc := 52) 34 (by decide) C hw 2 rfl (by decide) dX8_settles_52 ?_
          refine lv_istore (pc := 53) (lv' := [(5, .int ((b_now 34))), (4, .int ((b_now 33))), (0, .ref ((M 0))), (1, .int v1), (2, .int v2), (3, .int v3)]) hx hb dX8_settles_53 hl (by decide) rfl (fun ls hl => ?_)
          refine lv_aload_n (pc := 55) hx hb dX8_settles_55 rfl (lv_at hl 2 rfl) ?_
          refine zk_gt (pc := 56) C hw zl_X8_17 0 rfl rfl dX8_settles_56 ?_
          refine lv_bipush (pc := 59) (v := 35) hx hb dX8_settles_59 (by decide) ?_
          refine zk_ialdK (pc := 61) 35 (by decide) C hw 2 rfl (by decide) dX8_settles_61 ?_
          refine lv_istore (pc := 62) (lv' := [(6, .int ((b_now 35))), (5, .int ((b_now 34))), (4, .int ((b_now 33))), (0, .ref ((M 0))), (1, .int v1), (2, .int v2), (3, .int v3)]) hx hb dX8_settles_62 hl (by decide) rfl (fun ls hl => ?_)
          refine lv_aload_n (pc := 64) hx hb dX8_settles_64 rfl (lv_at hl 3 rfl) ?_
          refine lv_iload_n (pc := 65) hx hb dX8_settles_65 rfl (lv_at hl 4 rfl) ?_
          obtain ⟨u7, u7e, hf⟩ := bd hf
          refine zk_cV (pc := 66) (ci := 8) (q0 := 0) (rest := []) (st1 := [.int u7.1]) (w' := [xM M b_isKept b_size b_at b_from b_sort u7.2.2 b_flights b_firstFlight b_bestHarms b_bestRage b_harmed b_raged, xI cy ((M 1)) 7 b_refused, xI cy ((M 2)) 39 u7.2.1, xI cy ((M 4)) 273 b_minds]) (mk := [some (xM M b_isKept b_size b_at b_from b_sort u7.2.2 b_flights b_firstFlight b_bestHarms b_bestRage b_harmed b_raged), none, some (xI cy ((M 2)) 39 u7.2.1), none]) C hw (c_X8_step l G cy tt M b_isKept b_size b_at b_from b_sort b_flights b_firstFlight b_bestHarms b_bestRage b_harmed b_raged v1 b_now b_fled _ u7e) zy_X8_step zm_X8_181 rfl rfl rfl [0, 2] rfl rfl rfl rfl rfl rfl rfl rfl hl.1 ⟨rfl, rfl⟩ ⟨Nat.le_of_ble_eq_true rfl, Nat.le_of_ble_eq_true rfl⟩ rfl (Nat.le_of_ble_eq_true rfl) ⟨Nat.zero_le _, Nat.zero_le _⟩ dX8_settles_66 (fun H locs hw => ?_)
          refine lv_pop (pc := 69) hx hb dX8_settles_69 rfl ?_
          refine lv_iload (pc := 70) hx hb dX8_settles_70 (lv_at hl 2 rfl) ?_
          refine lv_aload_n (pc := 72) hx hb dX8_settles_72 rfl (lv_at hl 3 rfl) ?_
          refine zk_gt (pc := 73) C hw zl_X8_17 0 rfl rfl dX8_settles_73 ?_
          refine lv_bipush (pc := 76) (v := 33) hx hb dX8_settles_76 (by decide) ?_
          refine zk_ialdK (pc := 78) 33 (by decide) C hw 2 rfl (by decide) dX8_settles_78 ?_
          refine lv_icmp_ne (pc := 79) (tgt := 110) hx hb dX8_settles_79 (by decide) (fun q8 => ?_) (fun q8 => ?_)
          · replace hf := if_f q8 hf
            exact J110 (zf_X8_settles_25 n) ih v1 v3 b_refused u7.2.1 b_minds u7.2.2 _ _ _ hf hw (lv_sub hl [3, 4, 6] rfl)
          · replace hf := if_t q8 hf
            refine lv_iload (pc := 82) hx hb dX8_settles_82 (lv_at hl 1 rfl) ?_
            refine lv_aload_n (pc := 84) hx hb dX8_settles_84 rfl (lv_at hl 3 rfl) ?_
            refine zk_gt (pc := 85) C hw zl_X8_17 0 rfl rfl dX8_settles_85 ?_
            refine lv_bipush (pc := 88) (v := 34) hx hb dX8_settles_88 (by decide) ?_
            refine zk_ialdK (pc := 90) 34 (by decide) C hw 2 rfl (by decide) dX8_settles_90 ?_
            refine lv_icmp_ne (pc := 91) (tgt := 110) hx hb dX8_settles_91 (by decide) (fun q9 => ?_) (fun q9 => ?_)
            · replace hf := if_f q9 hf
              exact J110 (zf_X8_settles_25 n) ih v1 v3 b_refused u7.2.1 b_minds u7.2.2 _ _ _ hf hw (lv_sub hl [3, 4, 6] rfl)
            · replace hf := if_t q9 hf
              refine lv_iload (pc := 94) hx hb dX8_settles_94 (lv_at hl 0 rfl) ?_
              refine lv_aload_n (pc := 96) hx hb dX8_settles_96 rfl (lv_at hl 3 rfl) ?_
              refine zk_gt (pc := 97) C hw zl_X8_17 0 rfl rfl dX8_settles_97 ?_
              refine lv_bipush (pc := 100) (v := 35) hx hb dX8_settles_100 (by decide) ?_
              refine zk_ialdK (pc := 102) 35 (by decide) C hw 2 rfl (by decide) dX8_settles_102 ?_
              refine lv_icmp_ne (pc := 103) (tgt := 110) hx hb dX8_settles_103 (by decide) (fun q10 => ?_) (fun q10 => ?_)
              · replace hf := if_f q10 hf
                exact J110 (zf_X8_settles_25 n) ih v1 v3 b_refused u7.2.1 b_minds u7.2.2 _ _ _ hf hw (lv_sub hl [3, 4, 6] rfl)
              · replace hf := if_t q10 hf
                refine lv_iload_n (pc := 106) hx hb dX8_settles_106 rfl (lv_at hl 6 rfl) ?_
                refine lv_goto (pc := 107) (tgt := 111) hx hb dX8_settles_107 (by decide) ?_
                exact J111 (zf_X8_settles_25 n) ih v1 v3 v3 b_refused u7.2.1 b_minds u7.2.2 _ _ _ hf hw (lv_sub hl [3, 4, 6] rfl)
  rw [zf_X8_settles] at hf
  refine lv_aload_n (pc := 0) hx hb dX8_settles_0 rfl (lv_at hl 0 rfl) ?_
  refine lv_iload_n (pc := 1) hx hb dX8_settles_1 rfl (lv_at hl 1 rfl) ?_
  refine lv_i2l (pc := 2) (v := x1.toInt64) hx hb dX8_settles_2 rfl ?_
  obtain ⟨u1, u1e, hf⟩ := bd hf
  refine zk_cV (pc := 3) (ci := 8) (q0 := 0) (rest := []) (st1 := [.int (bI u1)]) (w' := [xM M b_isKept b_size b_at b_from b_sort b_fled b_flights b_firstFlight b_bestHarms b_bestRage b_harmed b_raged, xI cy ((M 1)) 7 b_refused, xI cy ((M 2)) 39 b_now, xI cy ((M 4)) 273 b_minds]) (mk := [none, none, none, none]) C hw (c_X8_isOrder l G cy tt M b_isKept b_size b_at b_from b_sort b_fled b_flights b_firstFlight b_bestHarms b_bestRage b_harmed b_raged x1.toInt64 b_now _ u1e) zy_X8_isOrder zm_X8_184 rfl rfl rfl [0, 2] rfl rfl rfl rfl rfl rfl rfl rfl hl.1 ⟨rfl, rfl⟩ ⟨Nat.le_of_ble_eq_true rfl, Nat.le_of_ble_eq_true rfl⟩ rfl (Nat.le_of_ble_eq_true rfl) ⟨Nat.zero_le _, Nat.zero_le _⟩ dX8_settles_3 (fun H locs hw => ?_)
  refine zk_ifnz (pc := 6) (tgt := 16) hx hb dX8_settles_6 (by decide) (fun q2 => ?_) (fun q2 => ?_)
  · replace hf := if_t q2 hf
    refine lv_aload_n (pc := 16) hx hb dX8_settles_16 rfl (lv_at hl 0 rfl) ?_
    refine lv_iconst (pc := 17) (v := 0) hx hb dX8_settles_17 (by decide) ?_
    obtain ⟨u3, u3e, hf⟩ := bd hf
    refine zk_cV (pc := 18) (ci := 8) (q0 := 0) (rest := []) (st1 := []) (w' := [xM M b_isKept b_size b_at b_from b_sort b_fled b_flights b_firstFlight b_bestHarms b_bestRage b_harmed b_raged, xI cy ((M 1)) 7 b_refused, xI cy ((M 2)) 39 b_now, xI cy ((M 4)) 273 u3]) (mk := [none, none, none, some (xI cy ((M 4)) 273 u3)]) C hw (c_X8_keep l G cy tt M b_isKept b_size b_at b_from b_sort b_fled b_flights b_firstFlight b_bestHarms b_bestRage b_harmed b_raged (((0 : Int32))) b_now b_minds _ u3e) zy_X8_keep zm_X8_142 rfl rfl rfl [0, 2, 3] rfl rfl rfl rfl rfl rfl rfl rfl hl.1 ⟨rfl, rfl⟩ ⟨Nat.le_of_ble_eq_true rfl, Nat.le_of_ble_eq_true rfl⟩ rfl (Nat.le_of_ble_eq_true rfl) ⟨Nat.zero_le _, Nat.zero_le _⟩ dX8_settles_18 (fun H locs hw => ?_)
    refine lv_iconst (pc := 21) (v := -1) hx hb dX8_settles_21 (by decide) ?_
    refine lv_istore_n (pc := 22) (lv' := [(2, .int ((-1 : Int32))), (0, .ref ((M 0))), (1, .int x1)]) hx hb dX8_settles_22 rfl hl (by decide) rfl (fun ls hl => ?_)
    refine lv_iconst (pc := 23) (v := 1) hx hb dX8_settles_23 (by decide) ?_
    refine lv_istore_n (pc := 24) (lv' := [(3, .int ((1 : Int32))), (2, .int ((-1 : Int32))), (0, .ref ((M 0))), (1, .int x1)]) hx hb dX8_settles_24 rfl hl (by decide) rfl (fun ls hl => ?_)
    exact J25 FU x1 ((-1 : Int32)) ((1 : Int32)) b_refused b_now u3 b_fled _ _ _ hf hw (lv_sub hl [2, 3, 1, 0] rfl)
  · replace hf := if_f q2 hf
    refine lv_aload_n (pc := 9) hx hb dX8_settles_9 rfl (lv_at hl 0 rfl) ?_
    refine lv_bipush (pc := 10) (v := -2) hx hb dX8_settles_10 (by decide) ?_
    obtain ⟨u4, u4e, hf⟩ := bd hf
    refine zk_cV (pc := 12) (ci := 8) (q0 := 0) (rest := []) (st1 := [.int u4.1]) (w' := [xM M b_isKept b_size b_at b_from b_sort b_fled b_flights b_firstFlight b_bestHarms b_bestRage b_harmed b_raged, xI cy ((M 1)) 7 u4.2, xI cy ((M 2)) 39 b_now, xI cy ((M 4)) 273 b_minds]) (mk := [none, some (xI cy ((M 1)) 7 u4.2), none, none]) C hw (c_X8_refuse l G cy tt M b_isKept b_size b_at b_from b_sort b_fled b_flights b_firstFlight b_bestHarms b_bestRage b_harmed b_raged (((-2 : Int32))) b_refused _ u4e) zy_X8_refuse zm_X8_90 rfl rfl rfl [0, 1] rfl rfl rfl rfl rfl rfl rfl rfl hl.1 ⟨rfl, rfl⟩ ⟨Nat.le_of_ble_eq_true rfl, Nat.le_of_ble_eq_true rfl⟩ rfl (Nat.le_of_ble_eq_true rfl) ⟨Nat.zero_le _, Nat.zero_le _⟩ dX8_settles_12 (fun H locs hw => ?_)
    have hf := Option.some.inj hf
    subst hf
    exact zk_reti (pc := 15) (ww := [xM M b_isKept b_size b_at b_from b_sort b_fled b_flights b_firstFlight b_bestHarms b_bestRage b_harmed b_raged, xI cy ((M 1)) 7 u4.2, xI cy ((M 2)) 39 b_now, xI cy ((M 4)) 273 b_minds]) C hw hr hQ dX8_settles_15
def zf_X8_overBy_54 (k20 : Int32 → Int32 → Int32 → Int32 → Int32 → (Nat → Int32) → (Nat → Int32) → Bool → Option (Int32 × (Nat → Int32) × (Nat → Int32) × Bool)) (v1 : Int32) (v2 : Int32) (v3 : Int32) (v5 : Int32) (t0 : Int32) (b_now : Nat → Int32) (b_minds : Nat → Int32) (b_fled : Bool) : Option (Int32 × (Nat → Int32) × (Nat → Int32) × Bool) := k20 v1 v2 ((if v3 < (b_now 33) then v3 else (b_now 33))) t0 ((v5 + 1)) b_now b_minds b_fled
def zf_X8_overBy_52 (k20 : Int32 → Int32 → Int32 → Int32 → Int32 → (Nat → Int32) → (Nat → Int32) → Bool → Option (Int32 × (Nat → Int32) × (Nat → Int32) × Bool)) (v1 : Int32) (v2 : Int32) (v3 : Int32) (v4 : Int32) (v5 : Int32) (b_now : Nat → Int32) (b_minds : Nat → Int32) (b_fled : Bool) : Option (Int32 × (Nat → Int32) × (Nat → Int32) × Bool) := zf_X8_overBy_54 k20 v1 v2 v3 v5 v4 b_now b_minds b_fled
def zf_X8_overBy_103 (t0 : Int32) (b_now : Nat → Int32) (b_minds : Nat → Int32) (b_fled : Bool) : Option (Int32 × (Nat → Int32) × (Nat → Int32) × Bool) := (Option.bind (zf_X8_lay (((0 : Int32))) b_now b_minds) (fun u9 => some (t0, u9, b_minds, b_fled)))
def zf_X8_overBy_20 : Nat → Int32 → Int32 → Int32 → Int32 → Int32 → (Nat → Int32) → (Nat → Int32) → Bool → Option (Int32 × (Nat → Int32) × (Nat → Int32) × Bool)
  | 0, _, _, _, _, _, _, _, _ => none
  | n + 1, v1, v2, v3, v4, v5, b_now, b_minds, b_fled => (if (48 : Int32) ≤ v5 then (if v2 = 0 then zf_X8_overBy_103 v3 b_now b_minds b_fled else (if v2 = (1 : Int32) then zf_X8_overBy_103 v4 b_now b_minds b_fled else (if ix ((((33 : Int32) + v2) - (2 : Int32))) 39 then zf_X8_overBy_103 ((b_now ((((33 : Int32) + v2) - (2 : Int32))).toNatClampNeg)) b_now b_minds b_fled else none))) else (Option.bind (zf_X8_step v1 b_now b_fled) (fun u6 => (if u6.1 = (1 : Int32) then (if v4 = (48 : Int32) then zf_X8_overBy_54 (zf_X8_overBy_20 n) v1 v2 v3 v5 v5 u6.2.1 b_minds u6.2.2 else zf_X8_overBy_52 (zf_X8_overBy_20 n) v1 v2 v3 v4 v5 u6.2.1 b_minds u6.2.2) else zf_X8_overBy_52 (zf_X8_overBy_20 n) v1 v2 v3 v4 v5 u6.2.1 b_minds u6.2.2))))
def zf_X8_overBy (x1 : Int32) (x2 : Int32) (b_now : Nat → Int32) (b_minds : Nat → Int32) (b_fled : Bool) : Option (Int32 × (Nat → Int32) × (Nat → Int32) × Bool) := (Option.bind (zf_X8_keep (((0 : Int32))) b_now b_minds) (fun u1 => zf_X8_overBy_20 FU x1 x2 ((b_now 33)) ((48 : Int32)) ((0 : Int32)) b_now u1 b_fled))
abbrev zr_X8_overBy : Room := { frames := 3, cells := 0, slots := 0, locals := 65 }
set_option maxHeartbeats 4000000 in
set_option maxRecDepth 100000 in
theorem c_X8_overBy (l : Launch) (G : va_G) (cy : Nat → ClassId) (tt : Nat → Nat) (M : Nat → Nat) (b_isKept : Bool) (b_size : Int32) (b_at : Int32) (b_from : Int32) (b_sort : Int32) (b_flights : Int32) (b_firstFlight : Int32) (b_bestHarms : Int32) (b_bestRage : Int32) (b_harmed : Int64) (b_raged : Int64) (x1 : Int32) (x2 : Int32) (b_now : Nat → Int32) (b_minds : Nat → Int32) (b_fled : Bool) (res : Int32 × (Nat → Int32) × (Nat → Int32) × Bool) (hf : zf_X8_overBy x1 x2 b_now b_minds b_fled = some res) : zCT l yX8_overBy cX8_overBy 7 (some .int) zr_X8_overBy G cy tt [.ref ((M 0)), .int x1, .int x2] [xM M b_isKept b_size b_at b_from b_sort b_fled b_flights b_firstFlight b_bestHarms b_bestRage b_harmed b_raged, xI cy ((M 2)) 39 b_now, xI cy ((M 4)) 273 b_minds] (some (.int res.1)) [xM M b_isKept b_size b_at b_from b_sort res.2.2.2 b_flights b_firstFlight b_bestHarms b_bestRage b_harmed b_raged, xI cy ((M 2)) 39 res.2.1, xI cy ((M 4)) 273 res.2.2.1] := by
  refine zk_start zn_X8 (Nat.le_of_ble_eq_true rfl) ?_
  intro p e s m args below meth c A ls Q C hr hQ hw hl
  have C : zCx p m c s args meth cX8_overBy 7 RX8 G cy tt A := C
  have hx := C.1.1
  have hb := C.1.2.1
  have hl : lv_has ls 7 [(0, .ref ((M 0))), (1, .int x1), (2, .int x2)] := hl
  have J54 : ∀ (k20 : Int32 → Int32 → Int32 → Int32 → Int32 → (Nat → Int32) → (Nat → Int32) → Bool → Option (Int32 × (Nat → Int32) × (Nat → Int32) × Bool)) (K20 : ∀ (v1 : Int32) (v2 : Int32) (v3 : Int32) (v4 : Int32) (v5 : Int32) (b_now : Nat → Int32) (b_minds : Nat → Int32) (b_fled : Bool) (H : Heap) (locs : List Loc) (ls : Array Slot), k20 v1 v2 v3 v4 v5 b_now b_minds b_fled = some res → zWd G A s.heap H locs [xM M b_isKept b_size b_at b_from b_sort b_fled b_flights b_firstFlight b_bestHarms b_bestRage b_harmed b_raged, xI cy ((M 2)) 39 b_now, xI cy ((M 4)) 273 b_minds] → lv_has ls 7 [(0, .ref ((M 0))), (1, .int v1), (2, .int v2), (3, .int v3), (4, .int v4), (5, .int v5)] → W p l e zr_X8_overBy s m args below meth c H locs 0 0 Q (F0 m 20 ls [])), ∀ (v1 : Int32) (v2 : Int32) (v3 : Int32) (v5 : Int32) (t0 : Int32) (b_now : Nat → Int32) (b_minds : Nat → Int32) (b_fled : Bool) (H : Heap) (locs : List Loc) (ls : Array Slot), zf_X8_overBy_54 k20 v1 v2 v3 v5 t0 b_now b_minds b_fled = some res → zWd G A s.heap H locs [xM M b_isKept b_size b_at b_from b_sort b_fled b_flights b_firstFlight b_bestHarms b_bestRage b_harmed b_raged, xI cy ((M 2)) 39 b_now, xI cy ((M 4)) 273 b_minds] → lv_has ls 7 [(0, .ref ((M 0))), (1, .int v1), (2, .int v2), (3, .int v3), (5, .int v5)] → W p l e zr_X8_overBy s m args below meth c H locs 0 0 Q (F0 m 54 ls [.int t0]) := by
    intro k20 K20 v1 v2 v3 v5 t0 b_now b_minds b_fled H locs ls hf hw hl
    rw [zf_X8_overBy_54] at hf
    refine lv_istore (pc := 54) (lv' := [(4, .int t0), (0, .ref ((M 0))), (1, .int v1), (2, .int v2), (3, .int v3), (5, .int v5)]) hx hb dX8_overBy_54 hl (by decide) rfl (fun ls hl => ?_)
    refine lv_aload_n (pc := 56) hx hb dX8_overBy_56 rfl (lv_at hl 1 rfl) ?_
    refine zk_gt (pc := 57) C hw zl_X8_17 0 rfl rfl dX8_overBy_57 ?_
    refine lv_bipush (pc := 60) (v := 33) hx hb dX8_overBy_60 (by decide) ?_
    refine zk_ialdK (pc := 62) 33 (by decide) C hw 1 rfl (by decide) dX8_overBy_62 ?_
    refine lv_iload_n (pc := 63) hx hb dX8_overBy_63 rfl (lv_at hl 4 rfl) ?_
    refine zk_min (pc := 64) C hl.1 zm_X8_59 ⟨Nat.le_of_ble_eq_true rfl, Nat.le_of_ble_eq_true rfl⟩ ⟨Nat.zero_le _, Nat.zero_le _⟩ dX8_overBy_64 ?_
    refine lv_istore_n (pc := 67) (lv' := [(3, .int ((if v3 < (b_now 33) then v3 else (b_now 33)))), (4, .int t0), (0, .ref ((M 0))), (1, .int v1), (2, .int v2), (5, .int v5)]) hx hb dX8_overBy_67 rfl hl (by decide) rfl (fun ls hl => ?_)
    refine lv_iinc (pc := 68) (v := (v5 + 1)) (lv' := [(5, .int ((v5 + 1))), (3, .int ((if v3 < (b_now 33) then v3 else (b_now 33)))), (4, .int t0), (0, .ref ((M 0))), (1, .int v1), (2, .int v2)]) hx hb dX8_overBy_68 hl (k := 5) rfl rfl (by decide) rfl (fun ls hl => ?_)
    refine lv_goto (pc := 71) (tgt := 20) hx hb dX8_overBy_71 (by decide) ?_
    exact K20 v1 v2 ((if v3 < (b_now 33) then v3 else (b_now 33))) t0 ((v5 + 1)) b_now b_minds b_fled _ _ _ hf hw (lv_sub hl [3, 4, 5, 1, 2, 0] rfl)
  have J52 : ∀ (k20 : Int32 → Int32 → Int32 → Int32 → Int32 → (Nat → Int32) → (Nat → Int32) → Bool → Option (Int32 × (Nat → Int32) × (Nat → Int32) × Bool)) (K20 : ∀ (v1 : Int32) (v2 : Int32) (v3 : Int32) (v4 : Int32) (v5 : Int32) (b_now : Nat → Int32) (b_minds : Nat → Int32) (b_fled : Bool) (H : Heap) (locs : List Loc) (ls : Array Slot), k20 v1 v2 v3 v4 v5 b_now b_minds b_fled = some res → zWd G A s.heap H locs [xM M b_isKept b_size b_at b_from b_sort b_fled b_flights b_firstFlight b_bestHarms b_bestRage b_harmed b_raged, xI cy ((M 2)) 39 b_now, xI cy ((M 4)) 273 b_minds] → lv_has ls 7 [(0, .ref ((M 0))), (1, .int v1), (2, .int v2), (3, .int v3), (4, .int v4), (5, .int v5)] → W p l e zr_X8_overBy s m args below meth c H locs 0 0 Q (F0 m 20 ls [])), ∀ (v1 : Int32) (v2 : Int32) (v3 : Int32) (v4 : Int32) (v5 : Int32) (b_now : Nat → Int32) (b_minds : Nat → Int32) (b_fled : Bool) (H : Heap) (locs : List Loc) (ls : Array Slot), zf_X8_overBy_52 k20 v1 v2 v3 v4 v5 b_now b_minds b_fled = some res → zWd G A s.heap H locs [xM M b_isKept b_size b_at b_from b_sort b_fled b_flights b_firstFlight b_bestHarms b_bestRage b_harmed b_raged, xI cy ((M 2)) 39 b_now, xI cy ((M 4)) 273 b_minds] → lv_has ls 7 [(0, .ref ((M 0))), (1, .int v1), (2, .int v2), (3, .int v3), (4, .int v4), (5, .int v5)] → W p l e zr_X8_overBy s m args below meth c H locs 0 0 Q (F0 m 52 ls []) := by
    intro k20 K20 v1 v2 v3 v4 v5 b_now b_minds b_fled H locs ls hf hw hl
    rw [zf_X8_overBy_52] at hf
    refine lv_iload (pc := 52) hx hb dX8_overBy_52 (lv_at hl 4 rfl) ?_
    exact J54 k20 K20 v1 v2 v3 v5 v4 b_now b_minds b_fled _ _ _ hf hw (lv_sub hl [0, 1, 2, 3, 5] rfl)
  have J103 : ∀ (t0 : Int32) (b_now : Nat → Int32) (b_minds : Nat → Int32) (b_fled : Bool) (H : Heap) (locs : List Loc) (ls : Array Slot), zf_X8_overBy_103 t0 b_now b_minds b_fled = some res → zWd G A s.heap H locs [xM M b_isKept b_size b_at b_from b_sort b_fled b_flights b_firstFlight b_bestHarms b_bestRage b_harmed b_raged, xI cy ((M 2)) 39 b_now, xI cy ((M 4)) 273 b_minds] → lv_has ls 7 [(0, .ref ((M 0)))] → W p l e zr_X8_overBy s m args below meth c H locs 0 0 Q (F0 m 103 ls [.int t0]) := by
    intro t0 b_now b_minds b_fled H locs ls hf hw hl
    rw [zf_X8_overBy_103] at hf
    refine lv_istore (pc := 103) (lv' := [(5, .int t0), (0, .ref ((M 0)))]) hx hb dX8_overBy_103 hl (by decide) rfl (fun ls hl => ?_)
    refine lv_aload_n (pc := 105) hx hb dX8_overBy_105 rfl (lv_at hl 1 rfl) ?_
    refine lv_iconst (pc := 106) (v := 0) hx hb dX8_overBy_106 (by decide) ?_
    obtain ⟨u9, u9e, hf⟩ := bd hf
    refine zk_cV (pc := 107) (ci := 8) (q0 := 0) (rest := []) (st1 := []) (w' := [xM M b_isKept b_size b_at b_from b_sort b_fled b_flights b_firstFlight b_bestHarms b_bestRage b_harmed b_raged, xI cy ((M 2)) 39 u9, xI cy ((M 4)) 273 b_minds]) (mk := [none, some (xI cy ((M 2)) 39 u9), none]) C hw (c_X8_lay l G cy tt M b_isKept b_size b_at b_from b_sort b_fled b_flights b_firstFlight b_bestHarms b_bestRage b_harmed b_raged (((0 : Int32))) b_now b_minds _ u9e) zy_X8_lay zm_X8_150 rfl rfl rfl [0, 1, 2] rfl rfl rfl rfl rfl rfl rfl rfl hl.1 ⟨rfl, rfl⟩ ⟨Nat.le_of_ble_eq_true rfl, Nat.le_of_ble_eq_true rfl⟩ rfl (Nat.le_of_ble_eq_true rfl) ⟨Nat.zero_le _, Nat.zero_le _⟩ dX8_overBy_107 (fun H locs hw => ?_)
    refine lv_iload (pc := 110) hx hb dX8_overBy_110 (lv_at hl 0 rfl) ?_
    have hf := Option.some.inj hf
    subst hf
    exact zk_reti (pc := 112) (ww := [xM M b_isKept b_size b_at b_from b_sort b_fled b_flights b_firstFlight b_bestHarms b_bestRage b_harmed b_raged, xI cy ((M 2)) 39 u9, xI cy ((M 4)) 273 b_minds]) C hw hr hQ dX8_overBy_112
  have J20 : ∀ (n : Nat), ∀ (v1 : Int32) (v2 : Int32) (v3 : Int32) (v4 : Int32) (v5 : Int32) (b_now : Nat → Int32) (b_minds : Nat → Int32) (b_fled : Bool) (H : Heap) (locs : List Loc) (ls : Array Slot), zf_X8_overBy_20 n v1 v2 v3 v4 v5 b_now b_minds b_fled = some res → zWd G A s.heap H locs [xM M b_isKept b_size b_at b_from b_sort b_fled b_flights b_firstFlight b_bestHarms b_bestRage b_harmed b_raged, xI cy ((M 2)) 39 b_now, xI cy ((M 4)) 273 b_minds] → lv_has ls 7 [(0, .ref ((M 0))), (1, .int v1), (2, .int v2), (3, .int v3), (4, .int v4), (5, .int v5)] → W p l e zr_X8_overBy s m args below meth c H locs 0 0 Q (F0 m 20 ls []) := by
    intro n
    induction n with
    | zero =>
      intro v1 v2 v3 v4 v5 b_now b_minds b_fled H locs ls hf hw hl
      rw [zf_X8_overBy_20] at hf
      cases hf
    | succ n ih =>
      intro v1 v2 v3 v4 v5 b_now b_minds b_fled H locs ls hf hw hl
      rw [zf_X8_overBy_20] at hf
      refine lv_iload (pc := 20) hx hb dX8_overBy_20 (lv_at hl 5 rfl) ?_
      refine lv_bipush (pc := 22) (v := 48) hx hb dX8_overBy_22 (by decide) ?_
      refine lv_icmp_ge (pc := 24) (tgt := 74) hx hb dX8_overBy_24 (by decide) (fun q2 => ?_) (fun q2 => ?_)
      · replace hf := if_t q2 hf
        refine lv_iload_n (pc := 74) hx hb dX8_overBy_74 rfl (lv_at hl 2 rfl) ?_
        refine lv_if_ne (pc := 75) (tgt := 82) hx hb dX8_overBy_75 (by decide) (fun q3 => ?_) (fun q3 => ?_)
        · replace hf := if_f q3 hf
          refine lv_iload_n (pc := 82) hx hb dX8_overBy_82 rfl (lv_at hl 2 rfl) ?_
          refine lv_iconst (pc := 83) (v := 1) hx hb dX8_overBy_83 (by decide) ?_
          refine lv_icmp_ne (pc := 84) (tgt := 92) hx hb dX8_overBy_84 (by decide) (fun q4 => ?_) (fun q4 => ?_)
          · replace hf := if_f q4 hf
            refine lv_aload_n (pc := 92) hx hb dX8_overBy_92 rfl (lv_at hl 0 rfl) ?_
            refine zk_gt (pc := 93) C hw zl_X8_17 0 rfl rfl dX8_overBy_93 ?_
            refine lv_bipush (pc := 96) (v := 33) hx hb dX8_overBy_96 (by decide) ?_
            refine lv_iload_n (pc := 98) hx hb dX8_overBy_98 rfl (lv_at hl 2 rfl) ?_
            refine lv_iadd (pc := 99) hx hb dX8_overBy_99 ?_
            refine lv_iconst (pc := 100) (v := 2) hx hb dX8_overBy_100 (by decide) ?_
            refine lv_isub (pc := 101) hx hb dX8_overBy_101 ?_
            obtain ⟨q5, hf⟩ := ck hf
            refine zk_iald (pc := 102) C hw 1 rfl q5 dX8_overBy_102 ?_
            exact J103 ((b_now ((((33 : Int32) + v2) - (2 : Int32))).toNatClampNeg)) b_now b_minds b_fled _ _ _ hf hw (lv_sub hl [0] rfl)
          · replace hf := if_t q4 hf
            refine lv_iload (pc := 87) hx hb dX8_overBy_87 (lv_at hl 4 rfl) ?_
            refine lv_goto (pc := 89) (tgt := 103) hx hb dX8_overBy_89 (by decide) ?_
            exact J103 v4 b_now b_minds b_fled _ _ _ hf hw (lv_sub hl [0] rfl)
        · replace hf := if_t q3 hf
          refine lv_iload_n (pc := 78) hx hb dX8_overBy_78 rfl (lv_at hl 3 rfl) ?_
          refine lv_goto (pc := 79) (tgt := 103) hx hb dX8_overBy_79 (by decide) ?_
          exact J103 v3 b_now b_minds b_fled _ _ _ hf hw (lv_sub hl [0] rfl)
      · replace hf := if_f q2 hf
        refine lv_aload_n (pc := 27) hx hb dX8_overBy_27 rfl (lv_at hl 0 rfl) ?_
        refine lv_iload_n (pc := 28) hx hb dX8_overBy_28 rfl (lv_at hl 1 rfl) ?_
        obtain ⟨u6, u6e, hf⟩ := bd hf
        refine zk_cV (pc := 29) (ci := 8) (q0 := 0) (rest := []) (st1 := [.int u6.1]) (w' := [xM M b_isKept b_size b_at b_from b_sort u6.2.2 b_flights b_firstFlight b_bestHarms b_bestRage b_harmed b_raged, xI cy ((M 2)) 39 u6.2.1, xI cy ((M 4)) 273 b_minds]) (mk := [some (xM M b_isKept b_size b_at b_from b_sort u6.2.2 b_flights b_firstFlight b_bestHarms b_bestRage b_harmed b_raged), some (xI cy ((M 2)) 39 u6.2.1), none]) C hw (c_X8_step l G cy tt M b_isKept b_size b_at b_from b_sort b_flights b_firstFlight b_bestHarms b_bestRage b_harmed b_raged v1 b_now b_fled _ u6e) zy_X8_step zm_X8_181 rfl rfl rfl [0, 1] rfl rfl rfl rfl rfl rfl rfl rfl hl.1 ⟨rfl, rfl⟩ ⟨Nat.le_of_ble_eq_true rfl, Nat.le_of_ble_eq_true rfl⟩ rfl (Nat.le_of_ble_eq_true rfl) ⟨Nat.zero_le _, Nat.zero_le _⟩ dX8_overBy_29 (fun H locs hw => ?_)
        refine lv_istore (pc := 32) (lv' := [(6, .int u6.1), (0, .ref ((M 0))), (1, .int v1), (2, .int v2), (3, .int v3), (4, .int v4), (5, .int v5)]) hx hb dX8_overBy_32 hl (by decide) rfl (fun ls hl => ?_)
        refine lv_iload (pc := 34) hx hb dX8_overBy_34 (lv_at hl 0 rfl) ?_
        refine lv_iconst (pc := 36) (v := 1) hx hb dX8_overBy_36 (by decide) ?_
        refine lv_icmp_ne (pc := 37) (tgt := 52) hx hb dX8_overBy_37 (by decide) (fun q7 => ?_) (fun q7 => ?_)
        · replace hf := if_f q7 hf
          exact J52 (zf_X8_overBy_20 n) ih v1 v2 v3 v4 v5 u6.2.1 b_minds u6.2.2 _ _ _ hf hw (lv_sub hl [1, 2, 3, 4, 5, 6] rfl)
        · replace hf := if_t q7 hf
          refine lv_iload (pc := 40) hx hb dX8_overBy_40 (lv_at hl 5 rfl) ?_
          refine lv_bipush (pc := 42) (v := 48) hx hb dX8_overBy_42 (by decide) ?_
          refine lv_icmp_ne (pc := 44) (tgt := 52) hx hb dX8_overBy_44 (by decide) (fun q8 => ?_) (fun q8 => ?_)
          · replace hf := if_f q8 hf
            exact J52 (zf_X8_overBy_20 n) ih v1 v2 v3 v4 v5 u6.2.1 b_minds u6.2.2 _ _ _ hf hw (lv_sub hl [1, 2, 3, 4, 5, 6] rfl)
          · replace hf := if_t q8 hf
            refine lv_iload (pc := 47) hx hb dX8_overBy_47 (lv_at hl 6 rfl) ?_
            refine lv_goto (pc := 49) (tgt := 54) hx hb dX8_overBy_49 (by decide) ?_
            exact J54 (zf_X8_overBy_20 n) ih v1 v2 v3 v5 v5 u6.2.1 b_minds u6.2.2 _ _ _ hf hw (lv_sub hl [1, 2, 3, 4, 6] rfl)
  rw [zf_X8_overBy] at hf
  refine lv_aload_n (pc := 0) hx hb dX8_overBy_0 rfl (lv_at hl 0 rfl) ?_
  refine lv_iconst (pc := 1) (v := 0) hx hb dX8_overBy_1 (by decide) ?_
  obtain ⟨u1, u1e, hf⟩ := bd hf
  refine zk_cV (pc := 2) (ci := 8) (q0 := 0) (rest := []) (st1 := []) (w' := [xM M b_isKept b_size b_at b_from b_sort b_fled b_flights b_firstFlight b_bestHarms b_bestRage b_harmed b_raged, xI cy ((M 2)) 39 b_now, xI cy ((M 4)) 273 u1]) (mk := [none, none, some (xI cy ((M 4)) 273 u1)]) C hw (c_X8_keep l G cy tt M b_isKept b_size b_at b_from b_sort b_fled b_flights b_firstFlight b_bestHarms b_bestRage b_harmed b_raged (((0 : Int32))) b_now b_minds _ u1e) zy_X8_keep zm_X8_142 rfl rfl rfl [0, 1, 2] rfl rfl rfl rfl rfl rfl rfl rfl hl.1 ⟨rfl, rfl⟩ ⟨Nat.le_of_ble_eq_true rfl, Nat.le_of_ble_eq_true rfl⟩ rfl (Nat.le_of_ble_eq_true rfl) ⟨Nat.zero_le _, Nat.zero_le _⟩ dX8_overBy_2 (fun H locs hw => ?_)
  refine lv_aload_n (pc := 5) hx hb dX8_overBy_5 rfl (lv_at hl 0 rfl) ?_
  refine zk_gt (pc := 6) C hw zl_X8_17 0 rfl rfl dX8_overBy_6 ?_
  refine lv_bipush (pc := 9) (v := 33) hx hb dX8_overBy_9 (by decide) ?_
  refine zk_ialdK (pc := 11) 33 (by decide) C hw 1 rfl (by decide) dX8_overBy_11 ?_
  refine lv_istore_n (pc := 12) (lv' := [(3, .int ((b_now 33))), (0, .ref ((M 0))), (1, .int x1), (2, .int x2)]) hx hb dX8_overBy_12 rfl hl (by decide) rfl (fun ls hl => ?_)
  refine lv_bipush (pc := 13) (v := 48) hx hb dX8_overBy_13 (by decide) ?_
  refine lv_istore (pc := 15) (lv' := [(4, .int ((48 : Int32))), (3, .int ((b_now 33))), (0, .ref ((M 0))), (1, .int x1), (2, .int x2)]) hx hb dX8_overBy_15 hl (by decide) rfl (fun ls hl => ?_)
  refine lv_iconst (pc := 17) (v := 0) hx hb dX8_overBy_17 (by decide) ?_
  refine lv_istore (pc := 18) (lv' := [(5, .int ((0 : Int32))), (4, .int ((48 : Int32))), (3, .int ((b_now 33))), (0, .ref ((M 0))), (1, .int x1), (2, .int x2)]) hx hb dX8_overBy_18 hl (by decide) rfl (fun ls hl => ?_)
  exact J20 FU x1 x2 ((b_now 33)) ((48 : Int32)) ((0 : Int32)) b_now u1 b_fled _ _ _ hf hw (lv_sub hl [3, 4, 5, 2, 1, 0] rfl)
def zf_X8_over_30 (b_refused : Nat → Int32) (b_now : Nat → Int32) (b_minds : Nat → Int32) (b_fled : Bool) : Option (Int32 × (Nat → Int32) × (Nat → Int32) × (Nat → Int32) × Bool) := (Option.bind (zf_X8_refuse (((-2 : Int32))) b_refused) (fun u6 => some (u6.1, u6.2, b_now, b_minds, b_fled)))
def zf_X8_over (x1 : Int32) (x2 : Int32) (b_refused : Nat → Int32) (b_now : Nat → Int32) (b_minds : Nat → Int32) (b_fled : Bool) : Option (Int32 × (Nat → Int32) × (Nat → Int32) × (Nat → Int32) × Bool) := (Option.bind (zf_X8_isOrder x1.toInt64 b_now) (fun u1 => (if u1 then (Option.bind (zf_X8_isIn x2.toInt64 (((0 : Int64))) (((4 : Int64)))) (fun u3 => (if u3 then (Option.bind (zf_X8_overBy x1 x2 b_now b_minds b_fled) (fun u5 => some (u5.1, b_refused, u5.2.1, u5.2.2.1, u5.2.2.2))) else zf_X8_over_30 b_refused b_now b_minds b_fled))) else zf_X8_over_30 b_refused b_now b_minds b_fled)))
abbrev zr_X8_over : Room := { frames := 4, cells := 0, slots := 0, locals := 91 }
set_option maxHeartbeats 4000000 in
set_option maxRecDepth 100000 in
theorem c_X8_over (l : Launch) (G : va_G) (cy : Nat → ClassId) (tt : Nat → Nat) (M : Nat → Nat) (b_isKept : Bool) (b_size : Int32) (b_at : Int32) (b_from : Int32) (b_sort : Int32) (b_flights : Int32) (b_firstFlight : Int32) (b_bestHarms : Int32) (b_bestRage : Int32) (b_harmed : Int64) (b_raged : Int64) (x1 : Int32) (x2 : Int32) (b_refused : Nat → Int32) (b_now : Nat → Int32) (b_minds : Nat → Int32) (b_fled : Bool) (res : Int32 × (Nat → Int32) × (Nat → Int32) × (Nat → Int32) × Bool) (hf : zf_X8_over x1 x2 b_refused b_now b_minds b_fled = some res) : zCT l yX8_over cX8_over 3 (some .int) zr_X8_over G cy tt [.ref ((M 0)), .int x1, .int x2] [xM M b_isKept b_size b_at b_from b_sort b_fled b_flights b_firstFlight b_bestHarms b_bestRage b_harmed b_raged, xI cy ((M 1)) 7 b_refused, xI cy ((M 2)) 39 b_now, xI cy ((M 4)) 273 b_minds] (some (.int res.1)) [xM M b_isKept b_size b_at b_from b_sort res.2.2.2.2 b_flights b_firstFlight b_bestHarms b_bestRage b_harmed b_raged, xI cy ((M 1)) 7 res.2.1, xI cy ((M 2)) 39 res.2.2.1, xI cy ((M 4)) 273 res.2.2.2.1] := by
  refine zk_start zn_X8 (Nat.le_of_ble_eq_true rfl) ?_
  intro p e s m args below meth c A ls Q C hr hQ hw hl
  have C : zCx p m c s args meth cX8_over 3 RX8 G cy tt A := C
  have hx := C.1.1
  have hb := C.1.2.1
  have hl : lv_has ls 3 [(0, .ref ((M 0))), (1, .int x1), (2, .int x2)] := hl
  have J30 : ∀ (b_refused : Nat → Int32) (b_now : Nat → Int32) (b_minds : Nat → Int32) (b_fled : Bool) (H : Heap) (locs : List Loc) (ls : Array Slot), zf_X8_over_30 b_refused b_now b_minds b_fled = some res → zWd G A s.heap H locs [xM M b_isKept b_size b_at b_from b_sort b_fled b_flights b_firstFlight b_bestHarms b_bestRage b_harmed b_raged, xI cy ((M 1)) 7 b_refused, xI cy ((M 2)) 39 b_now, xI cy ((M 4)) 273 b_minds] → lv_has ls 3 [(0, .ref ((M 0)))] → W p l e zr_X8_over s m args below meth c H locs 0 0 Q (F0 m 30 ls []) := by
    intro b_refused b_now b_minds b_fled H locs ls hf hw hl
    rw [zf_X8_over_30] at hf
    refine lv_aload_n (pc := 30) hx hb dX8_over_30 rfl (lv_at hl 0 rfl) ?_
    refine lv_bipush (pc := 31) (v := -2) hx hb dX8_over_31 (by decide) ?_
    obtain ⟨u6, u6e, hf⟩ := bd hf
    refine zk_cV (pc := 33) (ci := 8) (q0 := 0) (rest := []) (st1 := [.int u6.1]) (w' := [xM M b_isKept b_size b_at b_from b_sort b_fled b_flights b_firstFlight b_bestHarms b_bestRage b_harmed b_raged, xI cy ((M 1)) 7 u6.2, xI cy ((M 2)) 39 b_now, xI cy ((M 4)) 273 b_minds]) (mk := [none, some (xI cy ((M 1)) 7 u6.2), none, none]) C hw (c_X8_refuse l G cy tt M b_isKept b_size b_at b_from b_sort b_fled b_flights b_firstFlight b_bestHarms b_bestRage b_harmed b_raged (((-2 : Int32))) b_refused _ u6e) zy_X8_refuse zm_X8_90 rfl rfl rfl [0, 1] rfl rfl rfl rfl rfl rfl rfl rfl hl.1 ⟨rfl, rfl⟩ ⟨Nat.le_of_ble_eq_true rfl, Nat.le_of_ble_eq_true rfl⟩ rfl (Nat.le_of_ble_eq_true rfl) ⟨Nat.zero_le _, Nat.zero_le _⟩ dX8_over_33 (fun H locs hw => ?_)
    have hf := Option.some.inj hf
    subst hf
    exact zk_reti (pc := 36) (ww := [xM M b_isKept b_size b_at b_from b_sort b_fled b_flights b_firstFlight b_bestHarms b_bestRage b_harmed b_raged, xI cy ((M 1)) 7 u6.2, xI cy ((M 2)) 39 b_now, xI cy ((M 4)) 273 b_minds]) C hw hr hQ dX8_over_36
  rw [zf_X8_over] at hf
  refine lv_aload_n (pc := 0) hx hb dX8_over_0 rfl (lv_at hl 0 rfl) ?_
  refine lv_iload_n (pc := 1) hx hb dX8_over_1 rfl (lv_at hl 1 rfl) ?_
  refine lv_i2l (pc := 2) (v := x1.toInt64) hx hb dX8_over_2 rfl ?_
  obtain ⟨u1, u1e, hf⟩ := bd hf
  refine zk_cV (pc := 3) (ci := 8) (q0 := 0) (rest := []) (st1 := [.int (bI u1)]) (w' := [xM M b_isKept b_size b_at b_from b_sort b_fled b_flights b_firstFlight b_bestHarms b_bestRage b_harmed b_raged, xI cy ((M 1)) 7 b_refused, xI cy ((M 2)) 39 b_now, xI cy ((M 4)) 273 b_minds]) (mk := [none, none, none, none]) C hw (c_X8_isOrder l G cy tt M b_isKept b_size b_at b_from b_sort b_fled b_flights b_firstFlight b_bestHarms b_bestRage b_harmed b_raged x1.toInt64 b_now _ u1e) zy_X8_isOrder zm_X8_184 rfl rfl rfl [0, 2] rfl rfl rfl rfl rfl rfl rfl rfl hl.1 ⟨rfl, rfl⟩ ⟨Nat.le_of_ble_eq_true rfl, Nat.le_of_ble_eq_true rfl⟩ rfl (Nat.le_of_ble_eq_true rfl) ⟨Nat.zero_le _, Nat.zero_le _⟩ dX8_over_3 (fun H locs hw => ?_)
  refine zk_ifz (pc := 6) (tgt := 30) hx hb dX8_over_6 (by decide) (fun q2 => ?_) (fun q2 => ?_)
  · replace hf := if_f q2 hf
    exact J30 b_refused b_now b_minds b_fled _ _ _ hf hw (lv_sub hl [0] rfl)
  · replace hf := if_t q2 hf
    refine lv_iload_n (pc := 9) hx hb dX8_over_9 rfl (lv_at hl 2 rfl) ?_
    refine lv_i2l (pc := 10) (v := x2.toInt64) hx hb dX8_over_10 rfl ?_
    refine lv_lconst (pc := 11) (v := 0) hx hb dX8_over_11 (by decide) ?_
    refine lv_ldc2 (pc := 12) (v := 4) hx hb C.1.2.2.2.1 (C.1.2.2.2.2 _ zc_X8_101) dX8_over_12 ?_
    obtain ⟨u3, u3e, hf⟩ := bd hf
    refine zk_cS (pc := 15) (rest := []) (st1 := [.int (bI u3)]) (w' := [xM M b_isKept b_size b_at b_from b_sort b_fled b_flights b_firstFlight b_bestHarms b_bestRage b_harmed b_raged, xI cy ((M 1)) 7 b_refused, xI cy ((M 2)) 39 b_now, xI cy ((M 4)) 273 b_minds]) (mk := [none, none, none, none]) C hw (c_X8_isIn l G cy tt x2.toInt64 (((0 : Int64))) (((4 : Int64))) _ u3e) zy_X8_isIn zm_X8_68 [] rfl rfl rfl rfl rfl rfl rfl rfl hl.1 ⟨rfl, rfl⟩ ⟨Nat.le_of_ble_eq_true rfl, Nat.le_of_ble_eq_true rfl⟩ rfl (Nat.le_of_ble_eq_true rfl) ⟨Nat.zero_le _, Nat.zero_le _⟩ dX8_over_15 (fun H locs hw => ?_)
    refine zk_ifz (pc := 18) (tgt := 30) hx hb dX8_over_18 (by decide) (fun q4 => ?_) (fun q4 => ?_)
    · replace hf := if_f q4 hf
      exact J30 b_refused b_now b_minds b_fled _ _ _ hf hw (lv_sub hl [0] rfl)
    · replace hf := if_t q4 hf
      refine lv_aload_n (pc := 21) hx hb dX8_over_21 rfl (lv_at hl 0 rfl) ?_
      refine lv_iload_n (pc := 22) hx hb dX8_over_22 rfl (lv_at hl 1 rfl) ?_
      refine lv_iload_n (pc := 23) hx hb dX8_over_23 rfl (lv_at hl 2 rfl) ?_
      obtain ⟨u5, u5e, hf⟩ := bd hf
      refine zk_cV (pc := 24) (ci := 8) (q0 := 0) (rest := []) (st1 := [.int u5.1]) (w' := [xM M b_isKept b_size b_at b_from b_sort u5.2.2.2 b_flights b_firstFlight b_bestHarms b_bestRage b_harmed b_raged, xI cy ((M 1)) 7 b_refused, xI cy ((M 2)) 39 u5.2.1, xI cy ((M 4)) 273 u5.2.2.1]) (mk := [some (xM M b_isKept b_size b_at b_from b_sort u5.2.2.2 b_flights b_firstFlight b_bestHarms b_bestRage b_harmed b_raged), none, some (xI cy ((M 2)) 39 u5.2.1), some (xI cy ((M 4)) 273 u5.2.2.1)]) C hw (c_X8_overBy l G cy tt M b_isKept b_size b_at b_from b_sort b_flights b_firstFlight b_bestHarms b_bestRage b_harmed b_raged x1 x2 b_now b_minds b_fled _ u5e) zy_X8_overBy zm_X8_260 rfl rfl rfl [0, 2, 3] rfl rfl rfl rfl rfl rfl rfl rfl hl.1 ⟨rfl, rfl⟩ ⟨Nat.le_of_ble_eq_true rfl, Nat.le_of_ble_eq_true rfl⟩ rfl (Nat.le_of_ble_eq_true rfl) ⟨Nat.zero_le _, Nat.zero_le _⟩ dX8_over_24 (fun H locs hw => ?_)
      refine lv_goto (pc := 27) (tgt := 36) hx hb dX8_over_27 (by decide) ?_
      have hf := Option.some.inj hf
      subst hf
      exact zk_reti (pc := 36) (ww := [xM M b_isKept b_size b_at b_from b_sort u5.2.2.2 b_flights b_firstFlight b_bestHarms b_bestRage b_harmed b_raged, xI cy ((M 1)) 7 b_refused, xI cy ((M 2)) 39 u5.2.1, xI cy ((M 4)) 273 u5.2.2.1]) C hw hr hQ dX8_over_36
def zf_X8_safest_43 (k6 : Int32 → Int32 → Int32 → (Nat → Int32) → (Nat → Int32) → Bool → Option (Int32 × (Nat → Int32) × (Nat → Int32) × Bool)) (v2 : Int32) (v3 : Int32) (v4 : Int32) (t0 : Int32) (b_now : Nat → Int32) (b_minds : Nat → Int32) (b_fled : Bool) : Option (Int32 × (Nat → Int32) × (Nat → Int32) × Bool) := k6 t0 ((if v4 < v2 then v2 else v4)) ((v3 + 1)) b_now b_minds b_fled
def zf_X8_safest_6 : Nat → Int32 → Int32 → Int32 → (Nat → Int32) → (Nat → Int32) → Bool → Option (Int32 × (Nat → Int32) × (Nat → Int32) × Bool)
  | 0, _, _, _, _, _, _ => none
  | n + 1, v1, v2, v3, b_now, b_minds, b_fled => (Option.bind (zf_X8_many b_now) (fun u1 => (if (u1 + (2 : Int32)) ≤ v3 then some (v1, b_now, b_minds, b_fled) else (Option.bind (zf_X8_orderAt v3 b_now) (fun u3 => (Option.bind (zf_X8_overBy u3 (((1 : Int32))) b_now b_minds b_fled) (fun u4 => (if u4.1 ≤ v2 then zf_X8_safest_43 (zf_X8_safest_6 n) v2 v3 u4.1 v1 u4.2.1 u4.2.2.1 u4.2.2.2 else (Option.bind (zf_X8_orderAt v3 u4.2.1) (fun u6 => zf_X8_safest_43 (zf_X8_safest_6 n) v2 v3 u4.1 u6 u4.2.1 u4.2.2.1 u4.2.2.2))))))))))
def zf_X8_safest  (b_now : Nat → Int32) (b_minds : Nat → Int32) (b_fled : Bool) : Option (Int32 × (Nat → Int32) × (Nat → Int32) × Bool) := zf_X8_safest_6 FU ((-1 : Int32)) ((-1 : Int32)) ((0 : Int32)) b_now b_minds b_fled
abbrev zr_X8_safest : Room := { frames := 4, cells := 0, slots := 0, locals := 91 }
set_option maxHeartbeats 4000000 in
set_option maxRecDepth 100000 in
theorem c_X8_safest (l : Launch) (G : va_G) (cy : Nat → ClassId) (tt : Nat → Nat) (M : Nat → Nat) (b_isKept : Bool) (b_size : Int32) (b_at : Int32) (b_from : Int32) (b_sort : Int32) (b_flights : Int32) (b_firstFlight : Int32) (b_bestHarms : Int32) (b_bestRage : Int32) (b_harmed : Int64) (b_raged : Int64)  (b_now : Nat → Int32) (b_minds : Nat → Int32) (b_fled : Bool) (res : Int32 × (Nat → Int32) × (Nat → Int32) × Bool) (hf : zf_X8_safest b_now b_minds b_fled = some res) : zCT l yX8_safest cX8_safest 5 (some .int) zr_X8_safest G cy tt [.ref ((M 0))] [xM M b_isKept b_size b_at b_from b_sort b_fled b_flights b_firstFlight b_bestHarms b_bestRage b_harmed b_raged, xI cy ((M 2)) 39 b_now, xI cy ((M 4)) 273 b_minds] (some (.int res.1)) [xM M b_isKept b_size b_at b_from b_sort res.2.2.2 b_flights b_firstFlight b_bestHarms b_bestRage b_harmed b_raged, xI cy ((M 2)) 39 res.2.1, xI cy ((M 4)) 273 res.2.2.1] := by
  refine zk_start zn_X8 (Nat.le_of_ble_eq_true rfl) ?_
  intro p e s m args below meth c A ls Q C hr hQ hw hl
  have C : zCx p m c s args meth cX8_safest 5 RX8 G cy tt A := C
  have hx := C.1.1
  have hb := C.1.2.1
  have hl : lv_has ls 5 [(0, .ref ((M 0)))] := hl
  have J43 : ∀ (k6 : Int32 → Int32 → Int32 → (Nat → Int32) → (Nat → Int32) → Bool → Option (Int32 × (Nat → Int32) × (Nat → Int32) × Bool)) (K6 : ∀ (v1 : Int32) (v2 : Int32) (v3 : Int32) (b_now : Nat → Int32) (b_minds : Nat → Int32) (b_fled : Bool) (H : Heap) (locs : List Loc) (ls : Array Slot), k6 v1 v2 v3 b_now b_minds b_fled = some res → zWd G A s.heap H locs [xM M b_isKept b_size b_at b_from b_sort b_fled b_flights b_firstFlight b_bestHarms b_bestRage b_harmed b_raged, xI cy ((M 2)) 39 b_now, xI cy ((M 4)) 273 b_minds] → lv_has ls 5 [(0, .ref ((M 0))), (1, .int v1), (2, .int v2), (3, .int v3)] → W p l e zr_X8_safest s m args below meth c H locs 0 0 Q (F0 m 6 ls [])), ∀ (v2 : Int32) (v3 : Int32) (v4 : Int32) (t0 : Int32) (b_now : Nat → Int32) (b_minds : Nat → Int32) (b_fled : Bool) (H : Heap) (locs : List Loc) (ls : Array Slot), zf_X8_safest_43 k6 v2 v3 v4 t0 b_now b_minds b_fled = some res → zWd G A s.heap H locs [xM M b_isKept b_size b_at b_from b_sort b_fled b_flights b_firstFlight b_bestHarms b_bestRage b_harmed b_raged, xI cy ((M 2)) 39 b_now, xI cy ((M 4)) 273 b_minds] → lv_has ls 5 [(0, .ref ((M 0))), (2, .int v2), (3, .int v3), (4, .int v4)] → W p l e zr_X8_safest s m args below meth c H locs 0 0 Q (F0 m 43 ls [.int t0]) := by
    intro k6 K6 v2 v3 v4 t0 b_now b_minds b_fled H locs ls hf hw hl
    rw [zf_X8_safest_43] at hf
    refine lv_istore_n (pc := 43) (lv' := [(1, .int t0), (0, .ref ((M 0))), (2, .int v2), (3, .int v3), (4, .int v4)]) hx hb dX8_safest_43 rfl hl (by decide) rfl (fun ls hl => ?_)
    refine lv_iload (pc := 44) hx hb dX8_safest_44 (lv_at hl 4 rfl) ?_
    refine lv_iload_n (pc := 46) hx hb dX8_safest_46 rfl (lv_at hl 2 rfl) ?_
    refine zk_max (pc := 47) C hl.1 zm_X8_65 ⟨Nat.le_of_ble_eq_true rfl, Nat.le_of_ble_eq_true rfl⟩ ⟨Nat.zero_le _, Nat.zero_le _⟩ dX8_safest_47 ?_
    refine lv_istore_n (pc := 50) (lv' := [(2, .int ((if v4 < v2 then v2 else v4))), (1, .int t0), (0, .ref ((M 0))), (3, .int v3), (4, .int v4)]) hx hb dX8_safest_50 rfl hl (by decide) rfl (fun ls hl => ?_)
    refine lv_iinc (pc := 51) (v := (v3 + 1)) (lv' := [(3, .int ((v3 + 1))), (2, .int ((if v4 < v2 then v2 else v4))), (1, .int t0), (0, .ref ((M 0))), (4, .int v4)]) hx hb dX8_safest_51 hl (k := 3) rfl rfl (by decide) rfl (fun ls hl => ?_)
    refine lv_goto (pc := 54) (tgt := 6) hx hb dX8_safest_54 (by decide) ?_
    exact K6 t0 ((if v4 < v2 then v2 else v4)) ((v3 + 1)) b_now b_minds b_fled _ _ _ hf hw (lv_sub hl [3, 2, 1, 0] rfl)
  have J6 : ∀ (n : Nat), ∀ (v1 : Int32) (v2 : Int32) (v3 : Int32) (b_now : Nat → Int32) (b_minds : Nat → Int32) (b_fled : Bool) (H : Heap) (locs : List Loc) (ls : Array Slot), zf_X8_safest_6 n v1 v2 v3 b_now b_minds b_fled = some res → zWd G A s.heap H locs [xM M b_isKept b_size b_at b_from b_sort b_fled b_flights b_firstFlight b_bestHarms b_bestRage b_harmed b_raged, xI cy ((M 2)) 39 b_now, xI cy ((M 4)) 273 b_minds] → lv_has ls 5 [(0, .ref ((M 0))), (1, .int v1), (2, .int v2), (3, .int v3)] → W p l e zr_X8_safest s m args below meth c H locs 0 0 Q (F0 m 6 ls []) := by
    intro n
    induction n with
    | zero =>
      intro v1 v2 v3 b_now b_minds b_fled H locs ls hf hw hl
      rw [zf_X8_safest_6] at hf
      cases hf
    | succ n ih =>
      intro v1 v2 v3 b_now b_minds b_fled H locs ls hf hw hl
      rw [zf_X8_safest_6] at hf
      refine lv_iload_n (pc := 6) hx hb dX8_safest_6 rfl (lv_at hl 3 rfl) ?_
      refine lv_aload_n (pc := 7) hx hb dX8_safest_7 rfl (lv_at hl 0 rfl) ?_
      obtain ⟨u1, u1e, hf⟩ := bd hf
      refine zk_cV (pc := 8) (ci := 8) (q0 := 0) (rest := [.int v3]) (st1 := [.int u1, .int v3]) (w' := [xM M b_isKept b_size b_at b_from b_sort b_fled b_flights b_firstFlight b_bestHarms b_bestRage b_harmed b_raged, xI cy ((M 2)) 39 b_now, xI cy ((M 4)) 273 b_minds]) (mk := [none, none, none]) C hw (c_X8_many l G cy tt M b_isKept b_size b_at b_from b_sort b_fled b_flights b_firstFlight b_bestHarms b_bestRage b_harmed b_raged b_now _ u1e) zy_X8_many zm_X8_80 rfl rfl rfl [0, 1] rfl rfl rfl rfl rfl rfl rfl rfl hl.1 ⟨rfl, rfl⟩ ⟨Nat.le_of_ble_eq_true rfl, Nat.le_of_ble_eq_true rfl⟩ rfl (Nat.le_of_ble_eq_true rfl) ⟨Nat.zero_le _, Nat.zero_le _⟩ dX8_safest_8 (fun H locs hw => ?_)
      refine lv_iconst (pc := 11) (v := 2) hx hb dX8_safest_11 (by decide) ?_
      refine lv_iadd (pc := 12) hx hb dX8_safest_12 ?_
      refine lv_icmp_ge (pc := 13) (tgt := 57) hx hb dX8_safest_13 (by decide) (fun q2 => ?_) (fun q2 => ?_)
      · replace hf := if_t q2 hf
        refine lv_iload_n (pc := 57) hx hb dX8_safest_57 rfl (lv_at hl 1 rfl) ?_
        have hf := Option.some.inj hf
        subst hf
        exact zk_reti (pc := 58) (ww := [xM M b_isKept b_size b_at b_from b_sort b_fled b_flights b_firstFlight b_bestHarms b_bestRage b_harmed b_raged, xI cy ((M 2)) 39 b_now, xI cy ((M 4)) 273 b_minds]) C hw hr hQ dX8_safest_58
      · replace hf := if_f q2 hf
        refine lv_aload_n (pc := 16) hx hb dX8_safest_16 rfl (lv_at hl 0 rfl) ?_
        refine lv_aload_n (pc := 17) hx hb dX8_safest_17 rfl (lv_at hl 0 rfl) ?_
        refine lv_iload_n (pc := 18) hx hb dX8_safest_18 rfl (lv_at hl 3 rfl) ?_
        obtain ⟨u3, u3e, hf⟩ := bd hf
        refine zk_cV (pc := 19) (ci := 8) (q0 := 0) (rest := [.ref ((M 0))]) (st1 := [.int u3, .ref ((M 0))]) (w' := [xM M b_isKept b_size b_at b_from b_sort b_fled b_flights b_firstFlight b_bestHarms b_bestRage b_harmed b_raged, xI cy ((M 2)) 39 b_now, xI cy ((M 4)) 273 b_minds]) (mk := [none, none, none]) C hw (c_X8_orderAt l G cy tt M b_isKept b_size b_at b_from b_sort b_fled b_flights b_firstFlight b_bestHarms b_bestRage b_harmed b_raged v3 b_now _ u3e) zy_X8_orderAt zm_X8_195 rfl rfl rfl [0, 1] rfl rfl rfl rfl rfl rfl rfl rfl hl.1 ⟨rfl, rfl⟩ ⟨Nat.le_of_ble_eq_true rfl, Nat.le_of_ble_eq_true rfl⟩ rfl (Nat.le_of_ble_eq_true rfl) ⟨Nat.zero_le _, Nat.zero_le _⟩ dX8_safest_19 (fun H locs hw => ?_)
        refine lv_iconst (pc := 22) (v := 1) hx hb dX8_safest_22 (by decide) ?_
        obtain ⟨u4, u4e, hf⟩ := bd hf
        refine zk_cV (pc := 23) (ci := 8) (q0 := 0) (rest := []) (st1 := [.int u4.1]) (w' := [xM M b_isKept b_size b_at b_from b_sort u4.2.2.2 b_flights b_firstFlight b_bestHarms b_bestRage b_harmed b_raged, xI cy ((M 2)) 39 u4.2.1, xI cy ((M 4)) 273 u4.2.2.1]) (mk := [some (xM M b_isKept b_size b_at b_from b_sort u4.2.2.2 b_flights b_firstFlight b_bestHarms b_bestRage b_harmed b_raged), some (xI cy ((M 2)) 39 u4.2.1), some (xI cy ((M 4)) 273 u4.2.2.1)]) C hw (c_X8_overBy l G cy tt M b_isKept b_size b_at b_from b_sort b_flights b_firstFlight b_bestHarms b_bestRage b_harmed b_raged u3 (((1 : Int32))) b_now b_minds b_fled _ u4e) zy_X8_overBy zm_X8_260 rfl rfl rfl [0, 1, 2] rfl rfl rfl rfl rfl rfl rfl rfl hl.1 ⟨rfl, rfl⟩ ⟨Nat.le_of_ble_eq_true rfl, Nat.le_of_ble_eq_true rfl⟩ rfl (Nat.le_of_ble_eq_true rfl) ⟨Nat.zero_le _, Nat.zero_le _⟩ dX8_safest_23 (fun H locs hw => ?_)
        refine lv_istore (pc := 26) (lv' := [(4, .int u4.1), (0, .ref ((M 0))), (1, .int v1), (2, .int v2), (3, .int v3)]) hx hb dX8_safest_26 hl (by decide) rfl (fun ls hl => ?_)
        refine lv_iload (pc := 28) hx hb dX8_safest_28 (lv_at hl 0 rfl) ?_
        refine lv_iload_n (pc := 30) hx hb dX8_safest_30 rfl (lv_at hl 3 rfl) ?_
        refine lv_icmp_le (pc := 31) (tgt := 42) hx hb dX8_safest_31 (by decide) (fun q5 => ?_) (fun q5 => ?_)
        · replace hf := if_t q5 hf
          refine lv_iload_n (pc := 42) hx hb dX8_safest_42 rfl (lv_at hl 2 rfl) ?_
          exact J43 (zf_X8_safest_6 n) ih v2 v3 u4.1 v1 u4.2.1 u4.2.2.1 u4.2.2.2 _ _ _ hf hw (lv_sub hl [1, 3, 4, 0] rfl)
        · replace hf := if_f q5 hf
          refine lv_aload_n (pc := 34) hx hb dX8_safest_34 rfl (lv_at hl 1 rfl) ?_
          refine lv_iload_n (pc := 35) hx hb dX8_safest_35 rfl (lv_at hl 4 rfl) ?_
          obtain ⟨u6, u6e, hf⟩ := bd hf
          refine zk_cV (pc := 36) (ci := 8) (q0 := 0) (rest := []) (st1 := [.int u6]) (w' := [xM M b_isKept b_size b_at b_from b_sort u4.2.2.2 b_flights b_firstFlight b_bestHarms b_bestRage b_harmed b_raged, xI cy ((M 2)) 39 u4.2.1, xI cy ((M 4)) 273 u4.2.2.1]) (mk := [none, none, none]) C hw (c_X8_orderAt l G cy tt M b_isKept b_size b_at b_from b_sort u4.2.2.2 b_flights b_firstFlight b_bestHarms b_bestRage b_harmed b_raged v3 u4.2.1 _ u6e) zy_X8_orderAt zm_X8_195 rfl rfl rfl [0, 1] rfl rfl rfl rfl rfl rfl rfl rfl hl.1 ⟨rfl, rfl⟩ ⟨Nat.le_of_ble_eq_true rfl, Nat.le_of_ble_eq_true rfl⟩ rfl (Nat.le_of_ble_eq_true rfl) ⟨Nat.zero_le _, Nat.zero_le _⟩ dX8_safest_36 (fun H locs hw => ?_)
          refine lv_goto (pc := 39) (tgt := 43) hx hb dX8_safest_39 (by decide) ?_
          exact J43 (zf_X8_safest_6 n) ih v2 v3 u4.1 u6 u4.2.1 u4.2.2.1 u4.2.2.2 _ _ _ hf hw (lv_sub hl [1, 3, 4, 0] rfl)
  rw [zf_X8_safest] at hf
  refine lv_iconst (pc := 0) (v := -1) hx hb dX8_safest_0 (by decide) ?_
  refine lv_istore_n (pc := 1) (lv' := [(1, .int ((-1 : Int32))), (0, .ref ((M 0)))]) hx hb dX8_safest_1 rfl hl (by decide) rfl (fun ls hl => ?_)
  refine lv_iconst (pc := 2) (v := -1) hx hb dX8_safest_2 (by decide) ?_
  refine lv_istore_n (pc := 3) (lv' := [(2, .int ((-1 : Int32))), (1, .int ((-1 : Int32))), (0, .ref ((M 0)))]) hx hb dX8_safest_3 rfl hl (by decide) rfl (fun ls hl => ?_)
  refine lv_iconst (pc := 4) (v := 0) hx hb dX8_safest_4 (by decide) ?_
  refine lv_istore_n (pc := 5) (lv' := [(3, .int ((0 : Int32))), (2, .int ((-1 : Int32))), (1, .int ((-1 : Int32))), (0, .ref ((M 0)))]) hx hb dX8_safest_5 rfl hl (by decide) rfl (fun ls hl => ?_)
  exact J6 FU ((-1 : Int32)) ((-1 : Int32)) ((0 : Int32)) b_now b_minds b_fled _ _ _ hf hw (lv_sub hl [3, 2, 1, 0] rfl)
def zf_X8_till_44 (k8 : Int32 → Int32 → Int32 → Bool → Int32 → (Nat → Int32) → (Nat → Int32) → Bool → Option (Int32 × (Nat → Int32) × (Nat → Int32) × Bool)) (v1 : Int32) (v2 : Int32) (v3 : Int32) (v4 : Bool) (v5 : Int32) (b_now : Nat → Int32) (b_minds : Nat → Int32) (b_fled : Bool) : Option (Int32 × (Nat → Int32) × (Nat → Int32) × Bool) := (Option.bind (zf_X8_step v1 b_now b_fled) (fun u8 => k8 v1 v2 v3 v4 ((v5 + 1)) u8.2.1 b_minds u8.2.2))
def zf_X8_till_56 (v5 : Int32) (b_now : Nat → Int32) (b_minds : Nat → Int32) (b_fled : Bool) : Option (Int32 × (Nat → Int32) × (Nat → Int32) × Bool) := (Option.bind (zf_X8_lay (((0 : Int32))) b_now b_minds) (fun u9 => (if v5 ≤ (200 : Int32) then some (v5, u9, b_minds, b_fled) else some ((-1 : Int32), u9, b_minds, b_fled))))
def zf_X8_till_8 : Nat → Int32 → Int32 → Int32 → Bool → Int32 → (Nat → Int32) → (Nat → Int32) → Bool → Option (Int32 × (Nat → Int32) × (Nat → Int32) × Bool)
  | 0, _, _, _, _, _, _, _, _ => none
  | n + 1, v1, v2, v3, v4, v5, b_now, b_minds, b_fled => (if (200 : Int32) < v5 then zf_X8_till_56 v5 b_now b_minds b_fled else (if v4 then (if ix v2 39 then (if v3 ≤ (b_now v2.toNatClampNeg) then zf_X8_till_56 v5 b_now b_minds b_fled else zf_X8_till_44 (zf_X8_till_8 n) v1 v2 v3 v4 v5 b_now b_minds b_fled) else none) else (if ix v2 39 then (if (b_now v2.toNatClampNeg) ≤ v3 then zf_X8_till_56 v5 b_now b_minds b_fled else zf_X8_till_44 (zf_X8_till_8 n) v1 v2 v3 v4 v5 b_now b_minds b_fled) else none)))
def zf_X8_till (x1 : Int32) (x2 : Int32) (x3 : Int32) (x4 : Bool) (b_now : Nat → Int32) (b_minds : Nat → Int32) (b_fled : Bool) : Option (Int32 × (Nat → Int32) × (Nat → Int32) × Bool) := (Option.bind (zf_X8_keep (((0 : Int32))) b_now b_minds) (fun u1 => zf_X8_till_8 FU x1 x2 x3 x4 ((0 : Int32)) b_now u1 b_fled))
abbrev zr_X8_till : Room := { frames := 3, cells := 0, slots := 0, locals := 65 }
set_option maxHeartbeats 4000000 in
set_option maxRecDepth 100000 in
theorem c_X8_till (l : Launch) (G : va_G) (cy : Nat → ClassId) (tt : Nat → Nat) (M : Nat → Nat) (b_isKept : Bool) (b_size : Int32) (b_at : Int32) (b_from : Int32) (b_sort : Int32) (b_flights : Int32) (b_firstFlight : Int32) (b_bestHarms : Int32) (b_bestRage : Int32) (b_harmed : Int64) (b_raged : Int64) (x1 : Int32) (x2 : Int32) (x3 : Int32) (x4 : Bool) (b_now : Nat → Int32) (b_minds : Nat → Int32) (b_fled : Bool) (res : Int32 × (Nat → Int32) × (Nat → Int32) × Bool) (hf : zf_X8_till x1 x2 x3 x4 b_now b_minds b_fled = some res) : zCT l yX8_till cX8_till 6 (some .int) zr_X8_till G cy tt [.ref ((M 0)), .int x1, .int x2, .int x3, .int (bI x4)] [xM M b_isKept b_size b_at b_from b_sort b_fled b_flights b_firstFlight b_bestHarms b_bestRage b_harmed b_raged, xI cy ((M 2)) 39 b_now, xI cy ((M 4)) 273 b_minds] (some (.int res.1)) [xM M b_isKept b_size b_at b_from b_sort res.2.2.2 b_flights b_firstFlight b_bestHarms b_bestRage b_harmed b_raged, xI cy ((M 2)) 39 res.2.1, xI cy ((M 4)) 273 res.2.2.1] := by
  refine zk_start zn_X8 (Nat.le_of_ble_eq_true rfl) ?_
  intro p e s m args below meth c A ls Q C hr hQ hw hl
  have C : zCx p m c s args meth cX8_till 6 RX8 G cy tt A := C
  have hx := C.1.1
  have hb := C.1.2.1
  have hl : lv_has ls 6 [(0, .ref ((M 0))), (1, .int x1), (2, .int x2), (3, .int x3), (4, .int (bI x4))] := hl
  have J44 : ∀ (k8 : Int32 → Int32 → Int32 → Bool → Int32 → (Nat → Int32) → (Nat → Int32) → Bool → Option (Int32 × (Nat → Int32) × (Nat → Int32) × Bool)) (K8 : ∀ (v1 : Int32) (v2 : Int32) (v3 : Int32) (v4 : Bool) (v5 : Int32) (b_now : Nat → Int32) (b_minds : Nat → Int32) (b_fled : Bool) (H : Heap) (locs : List Loc) (ls : Array Slot), k8 v1 v2 v3 v4 v5 b_now b_minds b_fled = some res → zWd G A s.heap H locs [xM M b_isKept b_size b_at b_from b_sort b_fled b_flights b_firstFlight b_bestHarms b_bestRage b_harmed b_raged, xI cy ((M 2)) 39 b_now, xI cy ((M 4)) 273 b_minds] → lv_has ls 6 [(0, .ref ((M 0))), (1, .int v1), (2, .int v2), (3, .int v3), (4, .int (bI v4)), (5, .int v5)] → W p l e zr_X8_till s m args below meth c H locs 0 0 Q (F0 m 8 ls [])), ∀ (v1 : Int32) (v2 : Int32) (v3 : Int32) (v4 : Bool) (v5 : Int32) (b_now : Nat → Int32) (b_minds : Nat → Int32) (b_fled : Bool) (H : Heap) (locs : List Loc) (ls : Array Slot), zf_X8_till_44 k8 v1 v2 v3 v4 v5 b_now b_minds b_fled = some res → zWd G A s.heap H locs [xM M b_isKept b_size b_at b_from b_sort b_fled b_flights b_firstFlight b_bestHarms b_bestRage b_harmed b_raged, xI cy ((M 2)) 39 b_now, xI cy ((M 4)) 273 b_minds] → lv_has ls 6 [(0, .ref ((M 0))), (1, .int v1), (2, .int v2), (3, .int v3), (4, .int (bI v4)), (5, .int v5)] → W p l e zr_X8_till s m args below meth c H locs 0 0 Q (F0 m 44 ls []) := by
    intro k8 K8 v1 v2 v3 v4 v5 b_now b_minds b_fled H locs ls hf hw hl
    rw [zf_X8_till_44] at hf
    refine lv_aload_n (pc := 44) hx hb dX8_till_44 rfl (lv_at hl 0 rfl) ?_
    refine lv_iload_n (pc := 45) hx hb dX8_till_45 rfl (lv_at hl 1 rfl) ?_
    obtain ⟨u8, u8e, hf⟩ := bd hf
    refine zk_cV (pc := 46) (ci := 8) (q0 := 0) (rest := []) (st1 := [.int u8.1]) (w' := [xM M b_isKept b_size b_at b_from b_sort u8.2.2 b_flights b_firstFlight b_bestHarms b_bestRage b_harmed b_raged, xI cy ((M 2)) 39 u8.2.1, xI cy ((M 4)) 273 b_minds]) (mk := [some (xM M b_isKept b_size b_at b_from b_sort u8.2.2 b_flights b_firstFlight b_bestHarms b_bestRage b_harmed b_raged), some (xI cy ((M 2)) 39 u8.2.1), none]) C hw (c_X8_step l G cy tt M b_isKept b_size b_at b_from b_sort b_flights b_firstFlight b_bestHarms b_bestRage b_harmed b_raged v1 b_now b_fled _ u8e) zy_X8_step zm_X8_181 rfl rfl rfl [0, 1] rfl rfl rfl rfl rfl rfl rfl rfl hl.1 ⟨rfl, rfl⟩ ⟨Nat.le_of_ble_eq_true rfl, Nat.le_of_ble_eq_true rfl⟩ rfl (Nat.le_of_ble_eq_true rfl) ⟨Nat.zero_le _, Nat.zero_le _⟩ dX8_till_46 (fun H locs hw => ?_)
    refine lv_pop (pc := 49) hx hb dX8_till_49 rfl ?_
    refine lv_iinc (pc := 50) (v := (v5 + 1)) (lv' := [(5, .int ((v5 + 1))), (0, .ref ((M 0))), (1, .int v1), (2, .int v2), (3, .int v3), (4, .int (bI v4))]) hx hb dX8_till_50 hl (k := 5) rfl rfl (by decide) rfl (fun ls hl => ?_)
    refine lv_goto (pc := 53) (tgt := 8) hx hb dX8_till_53 (by decide) ?_
    exact K8 v1 v2 v3 v4 ((v5 + 1)) u8.2.1 b_minds u8.2.2 _ _ _ hf hw (lv_sub hl [1, 2, 3, 4, 5, 0] rfl)
  have J56 : ∀ (v5 : Int32) (b_now : Nat → Int32) (b_minds : Nat → Int32) (b_fled : Bool) (H : Heap) (locs : List Loc) (ls : Array Slot), zf_X8_till_56 v5 b_now b_minds b_fled = some res → zWd G A s.heap H locs [xM M b_isKept b_size b_at b_from b_sort b_fled b_flights b_firstFlight b_bestHarms b_bestRage b_harmed b_raged, xI cy ((M 2)) 39 b_now, xI cy ((M 4)) 273 b_minds] → lv_has ls 6 [(0, .ref ((M 0))), (5, .int v5)] → W p l e zr_X8_till s m args below meth c H locs 0 0 Q (F0 m 56 ls []) := by
    intro v5 b_now b_minds b_fled H locs ls hf hw hl
    rw [zf_X8_till_56] at hf
    refine lv_aload_n (pc := 56) hx hb dX8_till_56 rfl (lv_at hl 0 rfl) ?_
    refine lv_iconst (pc := 57) (v := 0) hx hb dX8_till_57 (by decide) ?_
    obtain ⟨u9, u9e, hf⟩ := bd hf
    refine zk_cV (pc := 58) (ci := 8) (q0 := 0) (rest := []) (st1 := []) (w' := [xM M b_isKept b_size b_at b_from b_sort b_fled b_flights b_firstFlight b_bestHarms b_bestRage b_harmed b_raged, xI cy ((M 2)) 39 u9, xI cy ((M 4)) 273 b_minds]) (mk := [none, some (xI cy ((M 2)) 39 u9), none]) C hw (c_X8_lay l G cy tt M b_isKept b_size b_at b_from b_sort b_fled b_flights b_firstFlight b_bestHarms b_bestRage b_harmed b_raged (((0 : Int32))) b_now b_minds _ u9e) zy_X8_lay zm_X8_150 rfl rfl rfl [0, 1, 2] rfl rfl rfl rfl rfl rfl rfl rfl hl.1 ⟨rfl, rfl⟩ ⟨Nat.le_of_ble_eq_true rfl, Nat.le_of_ble_eq_true rfl⟩ rfl (Nat.le_of_ble_eq_true rfl) ⟨Nat.zero_le _, Nat.zero_le _⟩ dX8_till_58 (fun H locs hw => ?_)
    refine lv_iload (pc := 61) hx hb dX8_till_61 (lv_at hl 1 rfl) ?_
    refine lv_sipush (pc := 63) (v := 200) hx hb dX8_till_63 (by decide) ?_
    refine lv_icmp_le (pc := 66) (tgt := 73) hx hb dX8_till_66 (by decide) (fun q10 => ?_) (fun q10 => ?_)
    · replace hf := if_t q10 hf
      refine lv_iload (pc := 73) hx hb dX8_till_73 (lv_at hl 1 rfl) ?_
      have hf := Option.some.inj hf
      subst hf
      exact zk_reti (pc := 75) (ww := [xM M b_isKept b_size b_at b_from b_sort b_fled b_flights b_firstFlight b_bestHarms b_bestRage b_harmed b_raged, xI cy ((M 2)) 39 u9, xI cy ((M 4)) 273 b_minds]) C hw hr hQ dX8_till_75
    · replace hf := if_f q10 hf
      refine lv_iconst (pc := 69) (v := -1) hx hb dX8_till_69 (by decide) ?_
      refine lv_goto (pc := 70) (tgt := 75) hx hb dX8_till_70 (by decide) ?_
      have hf := Option.some.inj hf
      subst hf
      exact zk_reti (pc := 75) (ww := [xM M b_isKept b_size b_at b_from b_sort b_fled b_flights b_firstFlight b_bestHarms b_bestRage b_harmed b_raged, xI cy ((M 2)) 39 u9, xI cy ((M 4)) 273 b_minds]) C hw hr hQ dX8_till_75
  have J8 : ∀ (n : Nat), ∀ (v1 : Int32) (v2 : Int32) (v3 : Int32) (v4 : Bool) (v5 : Int32) (b_now : Nat → Int32) (b_minds : Nat → Int32) (b_fled : Bool) (H : Heap) (locs : List Loc) (ls : Array Slot), zf_X8_till_8 n v1 v2 v3 v4 v5 b_now b_minds b_fled = some res → zWd G A s.heap H locs [xM M b_isKept b_size b_at b_from b_sort b_fled b_flights b_firstFlight b_bestHarms b_bestRage b_harmed b_raged, xI cy ((M 2)) 39 b_now, xI cy ((M 4)) 273 b_minds] → lv_has ls 6 [(0, .ref ((M 0))), (1, .int v1), (2, .int v2), (3, .int v3), (4, .int (bI v4)), (5, .int v5)] → W p l e zr_X8_till s m args below meth c H locs 0 0 Q (F0 m 8 ls []) := by
    intro n
    induction n with
    | zero =>
      intro v1 v2 v3 v4 v5 b_now b_minds b_fled H locs ls hf hw hl
      rw [zf_X8_till_8] at hf
      cases hf
    | succ n ih =>
      intro v1 v2 v3 v4 v5 b_now b_minds b_fled H locs ls hf hw hl
      rw [zf_X8_till_8] at hf
      refine lv_iload (pc := 8) hx hb dX8_till_8 (lv_at hl 5 rfl) ?_
      refine lv_sipush (pc := 10) (v := 200) hx hb dX8_till_10 (by decide) ?_
      refine lv_icmp_gt (pc := 13) (tgt := 56) hx hb dX8_till_13 (by decide) (fun q2 => ?_) (fun q2 => ?_)
      · replace hf := if_t q2 hf
        exact J56 v5 b_now b_minds b_fled _ _ _ hf hw (lv_sub hl [0, 5] rfl)
      · replace hf := if_f q2 hf
        refine lv_iload (pc := 16) hx hb dX8_till_16 (lv_at hl 4 rfl) ?_
        refine zk_ifz (pc := 18) (tgt := 34) hx hb dX8_till_18 (by decide) (fun q3 => ?_) (fun q3 => ?_)
        · replace hf := if_f q3 hf
          refine lv_aload_n (pc := 34) hx hb dX8_till_34 rfl (lv_at hl 0 rfl) ?_
          refine zk_gt (pc := 35) C hw zl_X8_17 0 rfl rfl dX8_till_35 ?_
          refine lv_iload_n (pc := 38) hx hb dX8_till_38 rfl (lv_at hl 2 rfl) ?_
          obtain ⟨q4, hf⟩ := ck hf
          refine zk_iald (pc := 39) C hw 1 rfl q4 dX8_till_39 ?_
          refine lv_iload_n (pc := 40) hx hb dX8_till_40 rfl (lv_at hl 3 rfl) ?_
          refine lv_icmp_le (pc := 41) (tgt := 56) hx hb dX8_till_41 (by decide) (fun q5 => ?_) (fun q5 => ?_)
          · replace hf := if_t q5 hf
            exact J56 v5 b_now b_minds b_fled _ _ _ hf hw (lv_sub hl [0, 5] rfl)
          · replace hf := if_f q5 hf
            exact J44 (zf_X8_till_8 n) ih v1 v2 v3 v4 v5 b_now b_minds b_fled _ _ _ hf hw (lv_sub hl [0, 1, 2, 3, 4, 5] rfl)
        · replace hf := if_t q3 hf
          refine lv_aload_n (pc := 21) hx hb dX8_till_21 rfl (lv_at hl 0 rfl) ?_
          refine zk_gt (pc := 22) C hw zl_X8_17 0 rfl rfl dX8_till_22 ?_
          refine lv_iload_n (pc := 25) hx hb dX8_till_25 rfl (lv_at hl 2 rfl) ?_
          obtain ⟨q6, hf⟩ := ck hf
          refine zk_iald (pc := 26) C hw 1 rfl q6 dX8_till_26 ?_
          refine lv_iload_n (pc := 27) hx hb dX8_till_27 rfl (lv_at hl 3 rfl) ?_
          refine lv_icmp_ge (pc := 28) (tgt := 56) hx hb dX8_till_28 (by decide) (fun q7 => ?_) (fun q7 => ?_)
          · replace hf := if_t q7 hf
            exact J56 v5 b_now b_minds b_fled _ _ _ hf hw (lv_sub hl [0, 5] rfl)
          · replace hf := if_f q7 hf
            refine lv_goto (pc := 31) (tgt := 44) hx hb dX8_till_31 (by decide) ?_
            exact J44 (zf_X8_till_8 n) ih v1 v2 v3 v4 v5 b_now b_minds b_fled _ _ _ hf hw (lv_sub hl [0, 1, 2, 3, 4, 5] rfl)
  rw [zf_X8_till] at hf
  refine lv_aload_n (pc := 0) hx hb dX8_till_0 rfl (lv_at hl 0 rfl) ?_
  refine lv_iconst (pc := 1) (v := 0) hx hb dX8_till_1 (by decide) ?_
  obtain ⟨u1, u1e, hf⟩ := bd hf
  refine zk_cV (pc := 2) (ci := 8) (q0 := 0) (rest := []) (st1 := []) (w' := [xM M b_isKept b_size b_at b_from b_sort b_fled b_flights b_firstFlight b_bestHarms b_bestRage b_harmed b_raged, xI cy ((M 2)) 39 b_now, xI cy ((M 4)) 273 u1]) (mk := [none, none, some (xI cy ((M 4)) 273 u1)]) C hw (c_X8_keep l G cy tt M b_isKept b_size b_at b_from b_sort b_fled b_flights b_firstFlight b_bestHarms b_bestRage b_harmed b_raged (((0 : Int32))) b_now b_minds _ u1e) zy_X8_keep zm_X8_142 rfl rfl rfl [0, 1, 2] rfl rfl rfl rfl rfl rfl rfl rfl hl.1 ⟨rfl, rfl⟩ ⟨Nat.le_of_ble_eq_true rfl, Nat.le_of_ble_eq_true rfl⟩ rfl (Nat.le_of_ble_eq_true rfl) ⟨Nat.zero_le _, Nat.zero_le _⟩ dX8_till_2 (fun H locs hw => ?_)
  refine lv_iconst (pc := 5) (v := 0) hx hb dX8_till_5 (by decide) ?_
  refine lv_istore (pc := 6) (lv' := [(5, .int ((0 : Int32))), (0, .ref ((M 0))), (1, .int x1), (2, .int x2), (3, .int x3), (4, .int (bI x4))]) hx hb dX8_till_6 hl (by decide) rfl (fun ls hl => ?_)
  exact J8 FU x1 x2 x3 x4 ((0 : Int32)) b_now u1 b_fled _ _ _ hf hw (lv_sub hl [1, 2, 3, 4, 5, 0] rfl)
def zf_X8_until_33 (b_refused : Nat → Int32) (b_now : Nat → Int32) (b_minds : Nat → Int32) (b_fled : Bool) : Option (Int32 × (Nat → Int32) × (Nat → Int32) × (Nat → Int32) × Bool) := (Option.bind (zf_X8_refuse (((-2 : Int32))) b_refused) (fun u6 => some (u6.1, u6.2, b_now, b_minds, b_fled)))
def zf_X8_until (x1 : Int32) (x2 : Int32) (b_refused : Nat → Int32) (b_now : Nat → Int32) (b_minds : Nat → Int32) (b_fled : Bool) : Option (Int32 × (Nat → Int32) × (Nat → Int32) × (Nat → Int32) × Bool) := (Option.bind (zf_X8_isOrder x1.toInt64 b_now) (fun u1 => (if u1 then (Option.bind (zf_X8_isIn x2.toInt64 (((0 : Int64))) (((99 : Int64)))) (fun u3 => (if u3 then (Option.bind (zf_X8_till x1 (((33 : Int32))) x2 false b_now b_minds b_fled) (fun u5 => some (u5.1, b_refused, u5.2.1, u5.2.2.1, u5.2.2.2))) else zf_X8_until_33 b_refused b_now b_minds b_fled))) else zf_X8_until_33 b_refused b_now b_minds b_fled)))
abbrev zr_X8_until : Room := { frames := 4, cells := 0, slots := 0, locals := 90 }
set_option maxHeartbeats 4000000 in
set_option maxRecDepth 100000 in
theorem c_X8_until (l : Launch) (G : va_G) (cy : Nat → ClassId) (tt : Nat → Nat) (M : Nat → Nat) (b_isKept : Bool) (b_size : Int32) (b_at : Int32) (b_from : Int32) (b_sort : Int32) (b_flights : Int32) (b_firstFlight : Int32) (b_bestHarms : Int32) (b_bestRage : Int32) (b_harmed : Int64) (b_raged : Int64) (x1 : Int32) (x2 : Int32) (b_refused : Nat → Int32) (b_now : Nat → Int32) (b_minds : Nat → Int32) (b_fled : Bool) (res : Int32 × (Nat → Int32) × (Nat → Int32) × (Nat → Int32) × Bool) (hf : zf_X8_until x1 x2 b_refused b_now b_minds b_fled = some res) : zCT l yX8_until cX8_until 3 (some .int) zr_X8_until G cy tt [.ref ((M 0)), .int x1, .int x2] [xM M b_isKept b_size b_at b_from b_sort b_fled b_flights b_firstFlight b_bestHarms b_bestRage b_harmed b_raged, xI cy ((M 1)) 7 b_refused, xI cy ((M 2)) 39 b_now, xI cy ((M 4)) 273 b_minds] (some (.int res.1)) [xM M b_isKept b_size b_at b_from b_sort res.2.2.2.2 b_flights b_firstFlight b_bestHarms b_bestRage b_harmed b_raged, xI cy ((M 1)) 7 res.2.1, xI cy ((M 2)) 39 res.2.2.1, xI cy ((M 4)) 273 res.2.2.2.1] := by
  refine zk_start zn_X8 (Nat.le_of_ble_eq_true rfl) ?_
  intro p e s m args below meth c A ls Q C hr hQ hw hl
  have C : zCx p m c s args meth cX8_until 3 RX8 G cy tt A := C
  have hx := C.1.1
  have hb := C.1.2.1
  have hl : lv_has ls 3 [(0, .ref ((M 0))), (1, .int x1), (2, .int x2)] := hl
  have J33 : ∀ (b_refused : Nat → Int32) (b_now : Nat → Int32) (b_minds : Nat → Int32) (b_fled : Bool) (H : Heap) (locs : List Loc) (ls : Array Slot), zf_X8_until_33 b_refused b_now b_minds b_fled = some res → zWd G A s.heap H locs [xM M b_isKept b_size b_at b_from b_sort b_fled b_flights b_firstFlight b_bestHarms b_bestRage b_harmed b_raged, xI cy ((M 1)) 7 b_refused, xI cy ((M 2)) 39 b_now, xI cy ((M 4)) 273 b_minds] → lv_has ls 3 [(0, .ref ((M 0)))] → W p l e zr_X8_until s m args below meth c H locs 0 0 Q (F0 m 33 ls []) := by
    intro b_refused b_now b_minds b_fled H locs ls hf hw hl
    rw [zf_X8_until_33] at hf
    refine lv_aload_n (pc := 33) hx hb dX8_until_33 rfl (lv_at hl 0 rfl) ?_
    refine lv_bipush (pc := 34) (v := -2) hx hb dX8_until_34 (by decide) ?_
    obtain ⟨u6, u6e, hf⟩ := bd hf
    refine zk_cV (pc := 36) (ci := 8) (q0 := 0) (rest := []) (st1 := [.int u6.1]) (w' := [xM M b_isKept b_size b_at b_from b_sort b_fled b_flights b_firstFlight b_bestHarms b_bestRage b_harmed b_raged, xI cy ((M 1)) 7 u6.2, xI cy ((M 2)) 39 b_now, xI cy ((M 4)) 273 b_minds]) (mk := [none, some (xI cy ((M 1)) 7 u6.2), none, none]) C hw (c_X8_refuse l G cy tt M b_isKept b_size b_at b_from b_sort b_fled b_flights b_firstFlight b_bestHarms b_bestRage b_harmed b_raged (((-2 : Int32))) b_refused _ u6e) zy_X8_refuse zm_X8_90 rfl rfl rfl [0, 1] rfl rfl rfl rfl rfl rfl rfl rfl hl.1 ⟨rfl, rfl⟩ ⟨Nat.le_of_ble_eq_true rfl, Nat.le_of_ble_eq_true rfl⟩ rfl (Nat.le_of_ble_eq_true rfl) ⟨Nat.zero_le _, Nat.zero_le _⟩ dX8_until_36 (fun H locs hw => ?_)
    have hf := Option.some.inj hf
    subst hf
    exact zk_reti (pc := 39) (ww := [xM M b_isKept b_size b_at b_from b_sort b_fled b_flights b_firstFlight b_bestHarms b_bestRage b_harmed b_raged, xI cy ((M 1)) 7 u6.2, xI cy ((M 2)) 39 b_now, xI cy ((M 4)) 273 b_minds]) C hw hr hQ dX8_until_39
  rw [zf_X8_until] at hf
  refine lv_aload_n (pc := 0) hx hb dX8_until_0 rfl (lv_at hl 0 rfl) ?_
  refine lv_iload_n (pc := 1) hx hb dX8_until_1 rfl (lv_at hl 1 rfl) ?_
  refine lv_i2l (pc := 2) (v := x1.toInt64) hx hb dX8_until_2 rfl ?_
  obtain ⟨u1, u1e, hf⟩ := bd hf
  refine zk_cV (pc := 3) (ci := 8) (q0 := 0) (rest := []) (st1 := [.int (bI u1)]) (w' := [xM M b_isKept b_size b_at b_from b_sort b_fled b_flights b_firstFlight b_bestHarms b_bestRage b_harmed b_raged, xI cy ((M 1)) 7 b_refused, xI cy ((M 2)) 39 b_now, xI cy ((M 4)) 273 b_minds]) (mk := [none, none, none, none]) C hw (c_X8_isOrder l G cy tt M b_isKept b_size b_at b_from b_sort b_fled b_flights b_firstFlight b_bestHarms b_bestRage b_harmed b_raged x1.toInt64 b_now _ u1e) zy_X8_isOrder zm_X8_184 rfl rfl rfl [0, 2] rfl rfl rfl rfl rfl rfl rfl rfl hl.1 ⟨rfl, rfl⟩ ⟨Nat.le_of_ble_eq_true rfl, Nat.le_of_ble_eq_true rfl⟩ rfl (Nat.le_of_ble_eq_true rfl) ⟨Nat.zero_le _, Nat.zero_le _⟩ dX8_until_3 (fun H locs hw => ?_)
  refine zk_ifz (pc := 6) (tgt := 33) hx hb dX8_until_6 (by decide) (fun q2 => ?_) (fun q2 => ?_)
  · replace hf := if_f q2 hf
    exact J33 b_refused b_now b_minds b_fled _ _ _ hf hw (lv_sub hl [0] rfl)
  · replace hf := if_t q2 hf
    refine lv_iload_n (pc := 9) hx hb dX8_until_9 rfl (lv_at hl 2 rfl) ?_
    refine lv_i2l (pc := 10) (v := x2.toInt64) hx hb dX8_until_10 rfl ?_
    refine lv_lconst (pc := 11) (v := 0) hx hb dX8_until_11 (by decide) ?_
    refine lv_ldc2 (pc := 12) (v := 99) hx hb C.1.2.2.2.1 (C.1.2.2.2.2 _ zc_X8_105) dX8_until_12 ?_
    obtain ⟨u3, u3e, hf⟩ := bd hf
    refine zk_cS (pc := 15) (rest := []) (st1 := [.int (bI u3)]) (w' := [xM M b_isKept b_size b_at b_from b_sort b_fled b_flights b_firstFlight b_bestHarms b_bestRage b_harmed b_raged, xI cy ((M 1)) 7 b_refused, xI cy ((M 2)) 39 b_now, xI cy ((M 4)) 273 b_minds]) (mk := [none, none, none, none]) C hw (c_X8_isIn l G cy tt x2.toInt64 (((0 : Int64))) (((99 : Int64))) _ u3e) zy_X8_isIn zm_X8_68 [] rfl rfl rfl rfl rfl rfl rfl rfl hl.1 ⟨rfl, rfl⟩ ⟨Nat.le_of_ble_eq_true rfl, Nat.le_of_ble_eq_true rfl⟩ rfl (Nat.le_of_ble_eq_true rfl) ⟨Nat.zero_le _, Nat.zero_le _⟩ dX8_until_15 (fun H locs hw => ?_)
    refine zk_ifz (pc := 18) (tgt := 33) hx hb dX8_until_18 (by decide) (fun q4 => ?_) (fun q4 => ?_)
    · replace hf := if_f q4 hf
      exact J33 b_refused b_now b_minds b_fled _ _ _ hf hw (lv_sub hl [0] rfl)
    · replace hf := if_t q4 hf
      refine lv_aload_n (pc := 21) hx hb dX8_until_21 rfl (lv_at hl 0 rfl) ?_
      refine lv_iload_n (pc := 22) hx hb dX8_until_22 rfl (lv_at hl 1 rfl) ?_
      refine lv_bipush (pc := 23) (v := 33) hx hb dX8_until_23 (by decide) ?_
      refine lv_iload_n (pc := 25) hx hb dX8_until_25 rfl (lv_at hl 2 rfl) ?_
      refine lv_iconst (pc := 26) (v := 0) hx hb dX8_until_26 (by decide) ?_
      obtain ⟨u5, u5e, hf⟩ := bd hf
      refine zk_cV (pc := 27) (ci := 8) (q0 := 0) (rest := []) (st1 := [.int u5.1]) (w' := [xM M b_isKept b_size b_at b_from b_sort u5.2.2.2 b_flights b_firstFlight b_bestHarms b_bestRage b_harmed b_raged, xI cy ((M 1)) 7 b_refused, xI cy ((M 2)) 39 u5.2.1, xI cy ((M 4)) 273 u5.2.2.1]) (mk := [some (xM M b_isKept b_size b_at b_from b_sort u5.2.2.2 b_flights b_firstFlight b_bestHarms b_bestRage b_harmed b_raged), none, some (xI cy ((M 2)) 39 u5.2.1), some (xI cy ((M 4)) 273 u5.2.2.1)]) C hw (c_X8_till l G cy tt M b_isKept b_size b_at b_from b_sort b_flights b_firstFlight b_bestHarms b_bestRage b_harmed b_raged x1 (((33 : Int32))) x2 false b_now b_minds b_fled _ u5e) zy_X8_till zm_X8_263 rfl rfl rfl [0, 2, 3] rfl rfl rfl rfl rfl rfl rfl rfl hl.1 ⟨rfl, rfl⟩ ⟨Nat.le_of_ble_eq_true rfl, Nat.le_of_ble_eq_true rfl⟩ rfl (Nat.le_of_ble_eq_true rfl) ⟨Nat.zero_le _, Nat.zero_le _⟩ dX8_until_27 (fun H locs hw => ?_)
      refine lv_goto (pc := 30) (tgt := 39) hx hb dX8_until_30 (by decide) ?_
      have hf := Option.some.inj hf
      subst hf
      exact zk_reti (pc := 39) (ww := [xM M b_isKept b_size b_at b_from b_sort u5.2.2.2 b_flights b_firstFlight b_bestHarms b_bestRage b_harmed b_raged, xI cy ((M 1)) 7 b_refused, xI cy ((M 2)) 39 u5.2.1, xI cy ((M 4)) 273 u5.2.2.1]) C hw hr hQ dX8_until_39
def zf_X8_grown (x1 : Int32) (b_refused : Nat → Int32) (b_now : Nat → Int32) (b_minds : Nat → Int32) (b_fled : Bool) : Option (Int32 × (Nat → Int32) × (Nat → Int32) × (Nat → Int32) × Bool) := (Option.bind (zf_X8_isOrder x1.toInt64 b_now) (fun u1 => (if u1 then (Option.bind (zf_X8_till x1 (((35 : Int32))) (((9 : Int32))) true b_now b_minds b_fled) (fun u4 => some (u4.1, b_refused, u4.2.1, u4.2.2.1, u4.2.2.2))) else (Option.bind (zf_X8_refuse (((-2 : Int32))) b_refused) (fun u3 => some (u3.1, u3.2, b_now, b_minds, b_fled))))))
abbrev zr_X8_grown : Room := { frames := 4, cells := 0, slots := 0, locals := 90 }
set_option maxHeartbeats 4000000 in
set_option maxRecDepth 100000 in
theorem c_X8_grown (l : Launch) (G : va_G) (cy : Nat → ClassId) (tt : Nat → Nat) (M : Nat → Nat) (b_isKept : Bool) (b_size : Int32) (b_at : Int32) (b_from : Int32) (b_sort : Int32) (b_flights : Int32) (b_firstFlight : Int32) (b_bestHarms : Int32) (b_bestRage : Int32) (b_harmed : Int64) (b_raged : Int64) (x1 : Int32) (b_refused : Nat → Int32) (b_now : Nat → Int32) (b_minds : Nat → Int32) (b_fled : Bool) (res : Int32 × (Nat → Int32) × (Nat → Int32) × (Nat → Int32) × Bool) (hf : zf_X8_grown x1 b_refused b_now b_minds b_fled = some res) : zCT l yX8_grown cX8_grown 2 (some .int) zr_X8_grown G cy tt [.ref ((M 0)), .int x1] [xM M b_isKept b_size b_at b_from b_sort b_fled b_flights b_firstFlight b_bestHarms b_bestRage b_harmed b_raged, xI cy ((M 1)) 7 b_refused, xI cy ((M 2)) 39 b_now, xI cy ((M 4)) 273 b_minds] (some (.int res.1)) [xM M b_isKept b_size b_at b_from b_sort res.2.2.2.2 b_flights b_firstFlight b_bestHarms b_bestRage b_harmed b_raged, xI cy ((M 1)) 7 res.2.1, xI cy ((M 2)) 39 res.2.2.1, xI cy ((M 4)) 273 res.2.2.2.1] := by
  refine zk_start zn_X8 (Nat.le_of_ble_eq_true rfl) ?_
  intro p e s m args below meth c A ls Q C hr hQ hw hl
  have C : zCx p m c s args meth cX8_grown 2 RX8 G cy tt A := C
  have hx := C.1.1
  have hb := C.1.2.1
  have hl : lv_has ls 2 [(0, .ref ((M 0))), (1, .int x1)] := hl
  rw [zf_X8_grown] at hf
  refine lv_aload_n (pc := 0) hx hb dX8_grown_0 rfl (lv_at hl 0 rfl) ?_
  refine lv_iload_n (pc := 1) hx hb dX8_grown_1 rfl (lv_at hl 1 rfl) ?_
  refine lv_i2l (pc := 2) (v := x1.toInt64) hx hb dX8_grown_2 rfl ?_
  obtain ⟨u1, u1e, hf⟩ := bd hf
  refine zk_cV (pc := 3) (ci := 8) (q0 := 0) (rest := []) (st1 := [.int (bI u1)]) (w' := [xM M b_isKept b_size b_at b_from b_sort b_fled b_flights b_firstFlight b_bestHarms b_bestRage b_harmed b_raged, xI cy ((M 1)) 7 b_refused, xI cy ((M 2)) 39 b_now, xI cy ((M 4)) 273 b_minds]) (mk := [none, none, none, none]) C hw (c_X8_isOrder l G cy tt M b_isKept b_size b_at b_from b_sort b_fled b_flights b_firstFlight b_bestHarms b_bestRage b_harmed b_raged x1.toInt64 b_now _ u1e) zy_X8_isOrder zm_X8_184 rfl rfl rfl [0, 2] rfl rfl rfl rfl rfl rfl rfl rfl hl.1 ⟨rfl, rfl⟩ ⟨Nat.le_of_ble_eq_true rfl, Nat.le_of_ble_eq_true rfl⟩ rfl (Nat.le_of_ble_eq_true rfl) ⟨Nat.zero_le _, Nat.zero_le _⟩ dX8_grown_3 (fun H locs hw => ?_)
  refine zk_ifz (pc := 6) (tgt := 22) hx hb dX8_grown_6 (by decide) (fun q2 => ?_) (fun q2 => ?_)
  · replace hf := if_f q2 hf
    refine lv_aload_n (pc := 22) hx hb dX8_grown_22 rfl (lv_at hl 0 rfl) ?_
    refine lv_bipush (pc := 23) (v := -2) hx hb dX8_grown_23 (by decide) ?_
    obtain ⟨u3, u3e, hf⟩ := bd hf
    refine zk_cV (pc := 25) (ci := 8) (q0 := 0) (rest := []) (st1 := [.int u3.1]) (w' := [xM M b_isKept b_size b_at b_from b_sort b_fled b_flights b_firstFlight b_bestHarms b_bestRage b_harmed b_raged, xI cy ((M 1)) 7 u3.2, xI cy ((M 2)) 39 b_now, xI cy ((M 4)) 273 b_minds]) (mk := [none, some (xI cy ((M 1)) 7 u3.2), none, none]) C hw (c_X8_refuse l G cy tt M b_isKept b_size b_at b_from b_sort b_fled b_flights b_firstFlight b_bestHarms b_bestRage b_harmed b_raged (((-2 : Int32))) b_refused _ u3e) zy_X8_refuse zm_X8_90 rfl rfl rfl [0, 1] rfl rfl rfl rfl rfl rfl rfl rfl hl.1 ⟨rfl, rfl⟩ ⟨Nat.le_of_ble_eq_true rfl, Nat.le_of_ble_eq_true rfl⟩ rfl (Nat.le_of_ble_eq_true rfl) ⟨Nat.zero_le _, Nat.zero_le _⟩ dX8_grown_25 (fun H locs hw => ?_)
    have hf := Option.some.inj hf
    subst hf
    exact zk_reti (pc := 28) (ww := [xM M b_isKept b_size b_at b_from b_sort b_fled b_flights b_firstFlight b_bestHarms b_bestRage b_harmed b_raged, xI cy ((M 1)) 7 u3.2, xI cy ((M 2)) 39 b_now, xI cy ((M 4)) 273 b_minds]) C hw hr hQ dX8_grown_28
  · replace hf := if_t q2 hf
    refine lv_aload_n (pc := 9) hx hb dX8_grown_9 rfl (lv_at hl 0 rfl) ?_
    refine lv_iload_n (pc := 10) hx hb dX8_grown_10 rfl (lv_at hl 1 rfl) ?_
    refine lv_bipush (pc := 11) (v := 35) hx hb dX8_grown_11 (by decide) ?_
    refine lv_bipush (pc := 13) (v := 9) hx hb dX8_grown_13 (by decide) ?_
    refine lv_iconst (pc := 15) (v := 1) hx hb dX8_grown_15 (by decide) ?_
    obtain ⟨u4, u4e, hf⟩ := bd hf
    refine zk_cV (pc := 16) (ci := 8) (q0 := 0) (rest := []) (st1 := [.int u4.1]) (w' := [xM M b_isKept b_size b_at b_from b_sort u4.2.2.2 b_flights b_firstFlight b_bestHarms b_bestRage b_harmed b_raged, xI cy ((M 1)) 7 b_refused, xI cy ((M 2)) 39 u4.2.1, xI cy ((M 4)) 273 u4.2.2.1]) (mk := [some (xM M b_isKept b_size b_at b_from b_sort u4.2.2.2 b_flights b_firstFlight b_bestHarms b_bestRage b_harmed b_raged), none, some (xI cy ((M 2)) 39 u4.2.1), some (xI cy ((M 4)) 273 u4.2.2.1)]) C hw (c_X8_till l G cy tt M b_isKept b_size b_at b_from b_sort b_flights b_firstFlight b_bestHarms b_bestRage b_harmed b_raged x1 (((35 : Int32))) (((9 : Int32))) true b_now b_minds b_fled _ u4e) zy_X8_till zm_X8_263 rfl rfl rfl [0, 2, 3] rfl rfl rfl rfl rfl rfl rfl rfl hl.1 ⟨rfl, rfl⟩ ⟨Nat.le_of_ble_eq_true rfl, Nat.le_of_ble_eq_true rfl⟩ rfl (Nat.le_of_ble_eq_true rfl) ⟨Nat.zero_le _, Nat.zero_le _⟩ dX8_grown_16 (fun H locs hw => ?_)
    refine lv_goto (pc := 19) (tgt := 28) hx hb dX8_grown_19 (by decide) ?_
    have hf := Option.some.inj hf
    subst hf
    exact zk_reti (pc := 28) (ww := [xM M b_isKept b_size b_at b_from b_sort u4.2.2.2 b_flights b_firstFlight b_bestHarms b_bestRage b_harmed b_raged, xI cy ((M 1)) 7 b_refused, xI cy ((M 2)) 39 u4.2.1, xI cy ((M 4)) 273 u4.2.2.1]) C hw hr hQ dX8_grown_28
def zf_X8_meetings_44 (v1 : Int32) (b_now : Nat → Int32) (b_minds : Nat → Int32) (b_fled : Bool) : Option (Int32 × (Nat → Int32) × (Nat → Int32) × Bool) := (Option.bind (zf_X8_lay (((0 : Int32))) b_now b_minds) (fun u5 => (if v1 ≤ (200 : Int32) then some (v1, u5, b_minds, b_fled) else some ((-1 : Int32), u5, b_minds, b_fled))))
def zf_X8_meetings_7 : Nat → Int32 → (Nat → Int32) → (Nat → Int32) → Bool → Option (Int32 × (Nat → Int32) × (Nat → Int32) × Bool)
  | 0, _, _, _, _ => none
  | n + 1, v1, b_now, b_minds, b_fled => (if (200 : Int32) < v1 then zf_X8_meetings_44 v1 b_now b_minds b_fled else (if (b_now 33) ≤ (b_now 34) then zf_X8_meetings_44 v1 b_now b_minds b_fled else (Option.bind (zf_X8_step (((10 : Int32))) b_now b_fled) (fun u4 => zf_X8_meetings_7 n ((v1 + 1)) u4.2.1 b_minds u4.2.2))))
def zf_X8_meetings  (b_now : Nat → Int32) (b_minds : Nat → Int32) (b_fled : Bool) : Option (Int32 × (Nat → Int32) × (Nat → Int32) × Bool) := (Option.bind (zf_X8_keep (((0 : Int32))) b_now b_minds) (fun u1 => zf_X8_meetings_7 FU ((0 : Int32)) b_now u1 b_fled))
abbrev zr_X8_meetings : Room := { frames := 3, cells := 0, slots := 0, locals := 65 }
set_option maxHeartbeats 4000000 in
set_option maxRecDepth 100000 in
theorem c_X8_meetings (l : Launch) (G : va_G) (cy : Nat → ClassId) (tt : Nat → Nat) (M : Nat → Nat) (b_isKept : Bool) (b_size : Int32) (b_at : Int32) (b_from : Int32) (b_sort : Int32) (b_flights : Int32) (b_firstFlight : Int32) (b_bestHarms : Int32) (b_bestRage : Int32) (b_harmed : Int64) (b_raged : Int64)  (b_now : Nat → Int32) (b_minds : Nat → Int32) (b_fled : Bool) (res : Int32 × (Nat → Int32) × (Nat → Int32) × Bool) (hf : zf_X8_meetings b_now b_minds b_fled = some res) : zCT l yX8_meetings cX8_meetings 2 (some .int) zr_X8_meetings G cy tt [.ref ((M 0))] [xM M b_isKept b_size b_at b_from b_sort b_fled b_flights b_firstFlight b_bestHarms b_bestRage b_harmed b_raged, xI cy ((M 2)) 39 b_now, xI cy ((M 4)) 273 b_minds] (some (.int res.1)) [xM M b_isKept b_size b_at b_from b_sort res.2.2.2 b_flights b_firstFlight b_bestHarms b_bestRage b_harmed b_raged, xI cy ((M 2)) 39 res.2.1, xI cy ((M 4)) 273 res.2.2.1] := by
  refine zk_start zn_X8 (Nat.le_of_ble_eq_true rfl) ?_
  intro p e s m args below meth c A ls Q C hr hQ hw hl
  have C : zCx p m c s args meth cX8_meetings 2 RX8 G cy tt A := C
  have hx := C.1.1
  have hb := C.1.2.1
  have hl : lv_has ls 2 [(0, .ref ((M 0)))] := hl
  have J44 : ∀ (v1 : Int32) (b_now : Nat → Int32) (b_minds : Nat → Int32) (b_fled : Bool) (H : Heap) (locs : List Loc) (ls : Array Slot), zf_X8_meetings_44 v1 b_now b_minds b_fled = some res → zWd G A s.heap H locs [xM M b_isKept b_size b_at b_from b_sort b_fled b_flights b_firstFlight b_bestHarms b_bestRage b_harmed b_raged, xI cy ((M 2)) 39 b_now, xI cy ((M 4)) 273 b_minds] → lv_has ls 2 [(0, .ref ((M 0))), (1, .int v1)] → W p l e zr_X8_meetings s m args below meth c H locs 0 0 Q (F0 m 44 ls []) := by
    intro v1 b_now b_minds b_fled H locs ls hf hw hl
    rw [zf_X8_meetings_44] at hf
    refine lv_aload_n (pc := 44) hx hb dX8_meetings_44 rfl (lv_at hl 0 rfl) ?_
    refine lv_iconst (pc := 45) (v := 0) hx hb dX8_meetings_45 (by decide) ?_
    obtain ⟨u5, u5e, hf⟩ := bd hf
    refine zk_cV (pc := 46) (ci := 8) (q0 := 0) (rest := []) (st1 := []) (w' := [xM M b_isKept b_size b_at b_from b_sort b_fled b_flights b_firstFlight b_bestHarms b_bestRage b_harmed b_raged, xI cy ((M 2)) 39 u5, xI cy ((M 4)) 273 b_minds]) (mk := [none, some (xI cy ((M 2)) 39 u5), none]) C hw (c_X8_lay l G cy tt M b_isKept b_size b_at b_from b_sort b_fled b_flights b_firstFlight b_bestHarms b_bestRage b_harmed b_raged (((0 : Int32))) b_now b_minds _ u5e) zy_X8_lay zm_X8_150 rfl rfl rfl [0, 1, 2] rfl rfl rfl rfl rfl rfl rfl rfl hl.1 ⟨rfl, rfl⟩ ⟨Nat.le_of_ble_eq_true rfl, Nat.le_of_ble_eq_true rfl⟩ rfl (Nat.le_of_ble_eq_true rfl) ⟨Nat.zero_le _, Nat.zero_le _⟩ dX8_meetings_46 (fun H locs hw => ?_)
    refine lv_iload_n (pc := 49) hx hb dX8_meetings_49 rfl (lv_at hl 1 rfl) ?_
    refine lv_sipush (pc := 50) (v := 200) hx hb dX8_meetings_50 (by decide) ?_
    refine lv_icmp_le (pc := 53) (tgt := 60) hx hb dX8_meetings_53 (by decide) (fun q6 => ?_) (fun q6 => ?_)
    · replace hf := if_t q6 hf
      refine lv_iload_n (pc := 60) hx hb dX8_meetings_60 rfl (lv_at hl 1 rfl) ?_
      have hf := Option.some.inj hf
      subst hf
      exact zk_reti (pc := 61) (ww := [xM M b_isKept b_size b_at b_from b_sort b_fled b_flights b_firstFlight b_bestHarms b_bestRage b_harmed b_raged, xI cy ((M 2)) 39 u5, xI cy ((M 4)) 273 b_minds]) C hw hr hQ dX8_meetings_61
    · replace hf := if_f q6 hf
      refine lv_iconst (pc := 56) (v := -1) hx hb dX8_meetings_56 (by decide) ?_
      refine lv_goto (pc := 57) (tgt := 61) hx hb dX8_meetings_57 (by decide) ?_
      have hf := Option.some.inj hf
      subst hf
      exact zk_reti (pc := 61) (ww := [xM M b_isKept b_size b_at b_from b_sort b_fled b_flights b_firstFlight b_bestHarms b_bestRage b_harmed b_raged, xI cy ((M 2)) 39 u5, xI cy ((M 4)) 273 b_minds]) C hw hr hQ dX8_meetings_61
  have J7 : ∀ (n : Nat), ∀ (v1 : Int32) (b_now : Nat → Int32) (b_minds : Nat → Int32) (b_fled : Bool) (H : Heap) (locs : List Loc) (ls : Array Slot), zf_X8_meetings_7 n v1 b_now b_minds b_fled = some res → zWd G A s.heap H locs [xM M b_isKept b_size b_at b_from b_sort b_fled b_flights b_firstFlight b_bestHarms b_bestRage b_harmed b_raged, xI cy ((M 2)) 39 b_now, xI cy ((M 4)) 273 b_minds] → lv_has ls 2 [(0, .ref ((M 0))), (1, .int v1)] → W p l e zr_X8_meetings s m args below meth c H locs 0 0 Q (F0 m 7 ls []) := by
    intro n
    induction n with
    | zero =>
      intro v1 b_now b_minds b_fled H locs ls hf hw hl
      rw [zf_X8_meetings_7] at hf
      cases hf
    | succ n ih =>
      intro v1 b_now b_minds b_fled H locs ls hf hw hl
      rw [zf_X8_meetings_7] at hf
      refine lv_iload_n (pc := 7) hx hb dX8_meetings_7 rfl (lv_at hl 1 rfl) ?_
      refine lv_sipush (pc := 8) (v := 200) hx hb dX8_meetings_8 (by decide) ?_
      refine lv_icmp_gt (pc := 11) (tgt := 44) hx hb dX8_meetings_11 (by decide) (fun q2 => ?_) (fun q2 => ?_)
      · replace hf := if_t q2 hf
        exact J44 v1 b_now b_minds b_fled _ _ _ hf hw (lv_sub hl [0, 1] rfl)
      · replace hf := if_f q2 hf
        refine lv_aload_n (pc := 14) hx hb dX8_meetings_14 rfl (lv_at hl 0 rfl) ?_
        refine zk_gt (pc := 15) C hw zl_X8_17 0 rfl rfl dX8_meetings_15 ?_
        refine lv_bipush (pc := 18) (v := 33) hx hb dX8_meetings_18 (by decide) ?_
        refine zk_ialdK (pc := 20) 33 (by decide) C hw 1 rfl (by decide) dX8_meetings_20 ?_
        refine lv_aload_n (pc := 21) hx hb dX8_meetings_21 rfl (lv_at hl 0 rfl) ?_
        refine zk_gt (pc := 22) C hw zl_X8_17 0 rfl rfl dX8_meetings_22 ?_
        refine lv_bipush (pc := 25) (v := 34) hx hb dX8_meetings_25 (by decide) ?_
        refine zk_ialdK (pc := 27) 34 (by decide) C hw 1 rfl (by decide) dX8_meetings_27 ?_
        refine lv_icmp_le (pc := 28) (tgt := 44) hx hb dX8_meetings_28 (by decide) (fun q3 => ?_) (fun q3 => ?_)
        · replace hf := if_t q3 hf
          exact J44 v1 b_now b_minds b_fled _ _ _ hf hw (lv_sub hl [0, 1] rfl)
        · replace hf := if_f q3 hf
          refine lv_aload_n (pc := 31) hx hb dX8_meetings_31 rfl (lv_at hl 0 rfl) ?_
          refine lv_bipush (pc := 32) (v := 10) hx hb dX8_meetings_32 (by decide) ?_
          obtain ⟨u4, u4e, hf⟩ := bd hf
          refine zk_cV (pc := 34) (ci := 8) (q0 := 0) (rest := []) (st1 := [.int u4.1]) (w' := [xM M b_isKept b_size b_at b_from b_sort u4.2.2 b_flights b_firstFlight b_bestHarms b_bestRage b_harmed b_raged, xI cy ((M 2)) 39 u4.2.1, xI cy ((M 4)) 273 b_minds]) (mk := [some (xM M b_isKept b_size b_at b_from b_sort u4.2.2 b_flights b_firstFlight b_bestHarms b_bestRage b_harmed b_raged), some (xI cy ((M 2)) 39 u4.2.1), none]) C hw (c_X8_step l G cy tt M b_isKept b_size b_at b_from b_sort b_flights b_firstFlight b_bestHarms b_bestRage b_harmed b_raged (((10 : Int32))) b_now b_fled _ u4e) zy_X8_step zm_X8_181 rfl rfl rfl [0, 1] rfl rfl rfl rfl rfl rfl rfl rfl hl.1 ⟨rfl, rfl⟩ ⟨Nat.le_of_ble_eq_true rfl, Nat.le_of_ble_eq_true rfl⟩ rfl (Nat.le_of_ble_eq_true rfl) ⟨Nat.zero_le _, Nat.zero_le _⟩ dX8_meetings_34 (fun H locs hw => ?_)
          refine lv_pop (pc := 37) hx hb dX8_meetings_37 rfl ?_
          refine lv_iinc (pc := 38) (v := (v1 + 1)) (lv' := [(1, .int ((v1 + 1))), (0, .ref ((M 0)))]) hx hb dX8_meetings_38 hl (k := 1) rfl rfl (by decide) rfl (fun ls hl => ?_)
          refine lv_goto (pc := 41) (tgt := 7) hx hb dX8_meetings_41 (by decide) ?_
          exact ih ((v1 + 1)) u4.2.1 b_minds u4.2.2 _ _ _ hf hw (lv_sub hl [1, 0] rfl)
  rw [zf_X8_meetings] at hf
  refine lv_aload_n (pc := 0) hx hb dX8_meetings_0 rfl (lv_at hl 0 rfl) ?_
  refine lv_iconst (pc := 1) (v := 0) hx hb dX8_meetings_1 (by decide) ?_
  obtain ⟨u1, u1e, hf⟩ := bd hf
  refine zk_cV (pc := 2) (ci := 8) (q0 := 0) (rest := []) (st1 := []) (w' := [xM M b_isKept b_size b_at b_from b_sort b_fled b_flights b_firstFlight b_bestHarms b_bestRage b_harmed b_raged, xI cy ((M 2)) 39 b_now, xI cy ((M 4)) 273 u1]) (mk := [none, none, some (xI cy ((M 4)) 273 u1)]) C hw (c_X8_keep l G cy tt M b_isKept b_size b_at b_from b_sort b_fled b_flights b_firstFlight b_bestHarms b_bestRage b_harmed b_raged (((0 : Int32))) b_now b_minds _ u1e) zy_X8_keep zm_X8_142 rfl rfl rfl [0, 1, 2] rfl rfl rfl rfl rfl rfl rfl rfl hl.1 ⟨rfl, rfl⟩ ⟨Nat.le_of_ble_eq_true rfl, Nat.le_of_ble_eq_true rfl⟩ rfl (Nat.le_of_ble_eq_true rfl) ⟨Nat.zero_le _, Nat.zero_le _⟩ dX8_meetings_2 (fun H locs hw => ?_)
  refine lv_iconst (pc := 5) (v := 0) hx hb dX8_meetings_5 (by decide) ?_
  refine lv_istore_n (pc := 6) (lv' := [(1, .int ((0 : Int32))), (0, .ref ((M 0)))]) hx hb dX8_meetings_6 rfl hl (by decide) rfl (fun ls hl => ?_)
  exact J7 FU ((0 : Int32)) b_now u1 b_fled _ _ _ hf hw (lv_sub hl [1, 0] rfl)
def zf_X8_chance_l3_19 (t0 : Int64) (t1 : Int64) (b_now : Nat → Int32) (b_minds : Nat → Int32) (b_fled : Bool) (b_harmed : Int64) (b_raged : Int64) : Option ((Nat → Int32) × (Nat → Int32) × Bool × Int64 × Int64) := some (b_now, b_minds, b_fled, (t1 + t0), (b_raged + ((b_now 33)).toInt64))
def zf_X8_chance_l3_86 (v2 : Int32) (v3 : Bool) (v4 : Bool) (t0 : Bool) (t1 : Int32) (b_now : Nat → Int32) (b_minds : Nat → Int32) (b_fled : Bool) (b_harmed : Int64) (b_raged : Int64) : Option ((Nat → Int32) × (Nat → Int32) × Bool × Int64 × Int64) := none
def zf_X8_chance_l3_81 (v2 : Int32) (v3 : Bool) (v4 : Bool) (t0 : Int32) (b_now : Nat → Int32) (b_minds : Nat → Int32) (b_fled : Bool) (b_harmed : Int64) (b_raged : Int64) : Option ((Nat → Int32) × (Nat → Int32) × Bool × Int64 × Int64) := zf_X8_chance_l3_86 v2 v3 v4 true t0 b_now b_minds b_fled b_harmed b_raged
def zf_X8_chance_l3_49 : Nat → Int32 → Bool → Bool → (Nat → Int32) → (Nat → Int32) → Bool → Int64 → Int64 → Option ((Nat → Int32) × (Nat → Int32) × Bool × Int64 × Int64)
  | 0, _, _, _, _, _, _, _, _ => none
  | n + 1, v2, v3, v4, b_now, b_minds, b_fled, b_harmed, b_raged => (Option.bind (zf_X8_many b_now) (fun u4 => (if u4 ≤ (bI v4) then some (b_now, b_minds, b_fled, b_harmed, b_raged) else (Option.bind (zf_X8_step (((bI v4))) b_now b_fled) (fun u6 => (if v3 then zf_X8_chance_l3_81 v2 v3 v4 v2 u6.2.1 b_minds u6.2.2 b_harmed b_raged else (if u6.1 = (1 : Int32) then zf_X8_chance_l3_81 v2 v3 v4 v2 u6.2.1 b_minds u6.2.2 b_harmed b_raged else zf_X8_chance_l3_86 v2 v3 v4 false v2 u6.2.1 b_minds u6.2.2 b_harmed b_raged)))))))
def zf_X8_chance_l3 (x2 : Int32) (x3 : Bool) (b_now : Nat → Int32) (b_minds : Nat → Int32) (b_fled : Bool) (b_harmed : Int64) (b_raged : Int64) : Option ((Nat → Int32) × (Nat → Int32) × Bool × Int64 × Int64) := (if (3 : Int32) = x2 then (if x3 then zf_X8_chance_l3_19 ((1 : Int64)) b_harmed b_now b_minds b_fled b_harmed b_raged else zf_X8_chance_l3_19 ((0 : Int64)) b_harmed b_now b_minds b_fled b_harmed b_raged) else (Option.bind (zf_X8_keep (((3 : Int32))) b_now b_minds) (fun u2 => zf_X8_chance_l3_49 FU x2 x3 false b_now u2 b_fled b_harmed b_raged)))
abbrev zr_X8_chance_l3 : Room := { frames := 3, cells := 0, slots := 0, locals := 65 }
set_option maxHeartbeats 4000000 in
set_option maxRecDepth 100000 in
theorem c_X8_chance_l3 (l : Launch) (G : va_G) (cy : Nat → ClassId) (tt : Nat → Nat) (M : Nat → Nat) (b_isKept : Bool) (b_size : Int32) (b_at : Int32) (b_from : Int32) (b_sort : Int32) (b_flights : Int32) (b_firstFlight : Int32) (b_bestHarms : Int32) (b_bestRage : Int32) (x2 : Int32) (x3 : Bool) (b_now : Nat → Int32) (b_minds : Nat → Int32) (b_fled : Bool) (b_harmed : Int64) (b_raged : Int64) (res : (Nat → Int32) × (Nat → Int32) × Bool × Int64 × Int64) (hf : zf_X8_chance_l3 x2 x3 b_now b_minds b_fled b_harmed b_raged = some res) : zCT l yX8_chance cX8_chance 6 none zr_X8_chance_l3 G cy tt [.ref ((M 0)), .int ((3 : Int32)), .int x2, .int (bI x3)] [xM M b_isKept b_size b_at b_from b_sort b_fled b_flights b_firstFlight b_bestHarms b_bestRage b_harmed b_raged, xI cy ((M 2)) 39 b_now, xI cy ((M 4)) 273 b_minds] none [xM M b_isKept b_size b_at b_from b_sort res.2.2.1 b_flights b_firstFlight b_bestHarms b_bestRage res.2.2.2.1 res.2.2.2.2, xI cy ((M 2)) 39 res.1, xI cy ((M 4)) 273 res.2.1] := by
  refine zk_start zn_X8 (Nat.le_of_ble_eq_true rfl) ?_
  intro p e s m args below meth c A ls Q C hr hQ hw hl
  have C : zCx p m c s args meth cX8_chance 6 RX8 G cy tt A := C
  have hx := C.1.1
  have hb := C.1.2.1
  have hl : lv_has ls 6 [(0, .ref ((M 0))), (1, .int ((3 : Int32))), (2, .int x2), (3, .int (bI x3))] := hl
  have J19 : ∀ (t0 : Int64) (t1 : Int64) (b_now : Nat → Int32) (b_minds : Nat → Int32) (b_fled : Bool) (b_harmed : Int64) (b_raged : Int64) (H : Heap) (locs : List Loc) (ls : Array Slot), zf_X8_chance_l3_19 t0 t1 b_now b_minds b_fled b_harmed b_raged = some res → zWd G A s.heap H locs [xM M b_isKept b_size b_at b_from b_sort b_fled b_flights b_firstFlight b_bestHarms b_bestRage b_harmed b_raged, xI cy ((M 2)) 39 b_now, xI cy ((M 4)) 273 b_minds] → lv_has ls 6 [(0, .ref ((M 0)))] → W p l e zr_X8_chance_l3 s m args below meth c H locs 0 0 Q (F0 m 19 ls [.long t0, .long t1, .ref ((M 0))]) := by
    intro t0 t1 b_now b_minds b_fled b_harmed b_raged H locs ls hf hw hl
    rw [zf_X8_chance_l3_19] at hf
    refine lv_ladd (pc := 19) hx hb dX8_chance_19 ?_
    refine zk_put (pc := 20) (w' := [xM M b_isKept b_size b_at b_from b_sort b_fled b_flights b_firstFlight b_bestHarms b_bestRage ((t1 + t0)) b_raged, xI cy ((M 2)) 39 b_now, xI cy ((M 4)) 273 b_minds]) C hw zp_X8_267 0 rfl rfl rfl (Nat.le_of_ble_eq_true rfl) rfl dX8_chance_20 (fun H locs hw => ?_)
    refine lv_aload_n (pc := 23) hx hb dX8_chance_23 rfl (lv_at hl 0 rfl) ?_
    refine lv_dup (pc := 24) hx hb dX8_chance_24 rfl ?_
    refine zk_gt (pc := 25) C hw zl_X8_271 0 rfl rfl dX8_chance_25 ?_
    refine lv_aload_n (pc := 28) hx hb dX8_chance_28 rfl (lv_at hl 0 rfl) ?_
    refine zk_gt (pc := 29) C hw zl_X8_17 0 rfl rfl dX8_chance_29 ?_
    refine lv_bipush (pc := 32) (v := 33) hx hb dX8_chance_32 (by decide) ?_
    refine zk_ialdK (pc := 34) 33 (by decide) C hw 1 rfl (by decide) dX8_chance_34 ?_
    refine lv_i2l (pc := 35) (v := ((b_now 33)).toInt64) hx hb dX8_chance_35 rfl ?_
    refine lv_ladd (pc := 36) hx hb dX8_chance_36 ?_
    refine zk_put (pc := 37) (w' := [xM M b_isKept b_size b_at b_from b_sort b_fled b_flights b_firstFlight b_bestHarms b_bestRage ((t1 + t0)) ((b_raged + ((b_now 33)).toInt64)), xI cy ((M 2)) 39 b_now, xI cy ((M 4)) 273 b_minds]) C hw zp_X8_271 0 rfl rfl rfl (Nat.le_of_ble_eq_true rfl) rfl dX8_chance_37 (fun H locs hw => ?_)
    have hf := Option.some.inj hf
    subst hf
    exact zk_retv (pc := 40) (ww := [xM M b_isKept b_size b_at b_from b_sort b_fled b_flights b_firstFlight b_bestHarms b_bestRage ((t1 + t0)) ((b_raged + ((b_now 33)).toInt64)), xI cy ((M 2)) 39 b_now, xI cy ((M 4)) 273 b_minds]) C hw hr hQ dX8_chance_40
  have J86 : ∀ (v2 : Int32) (v3 : Bool) (v4 : Bool) (t0 : Bool) (t1 : Int32) (b_now : Nat → Int32) (b_minds : Nat → Int32) (b_fled : Bool) (b_harmed : Int64) (b_raged : Int64) (H : Heap) (locs : List Loc) (ls : Array Slot), zf_X8_chance_l3_86 v2 v3 v4 t0 t1 b_now b_minds b_fled b_harmed b_raged = some res → zWd G A s.heap H locs [xM M b_isKept b_size b_at b_from b_sort b_fled b_flights b_firstFlight b_bestHarms b_bestRage b_harmed b_raged, xI cy ((M 2)) 39 b_now, xI cy ((M 4)) 273 b_minds] → lv_has ls 6 [(0, .ref ((M 0))), (1, .int ((3 : Int32))), (2, .int v2), (3, .int (bI v3)), (4, .int (bI v4))] → W p l e zr_X8_chance_l3 s m args below meth c H locs 0 0 Q (F0 m 86 ls [.int (bI t0), .int t1, .int ((4 : Int32)), .ref ((M 0))]) := by
    intro v2 v3 v4 t0 t1 b_now b_minds b_fled b_harmed b_raged H locs ls hf hw hl
    rw [zf_X8_chance_l3_86] at hf
    cases hf
  have J81 : ∀ (v2 : Int32) (v3 : Bool) (v4 : Bool) (t0 : Int32) (b_now : Nat → Int32) (b_minds : Nat → Int32) (b_fled : Bool) (b_harmed : Int64) (b_raged : Int64) (H : Heap) (locs : List Loc) (ls : Array Slot), zf_X8_chance_l3_81 v2 v3 v4 t0 b_now b_minds b_fled b_harmed b_raged = some res → zWd G A s.heap H locs [xM M b_isKept b_size b_at b_from b_sort b_fled b_flights b_firstFlight b_bestHarms b_bestRage b_harmed b_raged, xI cy ((M 2)) 39 b_now, xI cy ((M 4)) 273 b_minds] → lv_has ls 6 [(0, .ref ((M 0))), (1, .int ((3 : Int32))), (2, .int v2), (3, .int (bI v3)), (4, .int (bI v4))] → W p l e zr_X8_chance_l3 s m args below meth c H locs 0 0 Q (F0 m 81 ls [.int t0, .int ((4 : Int32)), .ref ((M 0))]) := by
    intro v2 v3 v4 t0 b_now b_minds b_fled b_harmed b_raged H locs ls hf hw hl
    rw [zf_X8_chance_l3_81] at hf
    refine lv_iconst (pc := 81) (v := 1) hx hb dX8_chance_81 (by decide) ?_
    refine lv_goto (pc := 82) (tgt := 86) hx hb dX8_chance_82 (by decide) ?_
    exact J86 v2 v3 v4 true t0 b_now b_minds b_fled b_harmed b_raged _ _ _ hf hw (lv_sub hl [0, 1, 2, 3, 4] rfl)
  have J49 : ∀ (n : Nat), ∀ (v2 : Int32) (v3 : Bool) (v4 : Bool) (b_now : Nat → Int32) (b_minds : Nat → Int32) (b_fled : Bool) (b_harmed : Int64) (b_raged : Int64) (H : Heap) (locs : List Loc) (ls : Array Slot), zf_X8_chance_l3_49 n v2 v3 v4 b_now b_minds b_fled b_harmed b_raged = some res → zWd G A s.heap H locs [xM M b_isKept b_size b_at b_from b_sort b_fled b_flights b_firstFlight b_bestHarms b_bestRage b_harmed b_raged, xI cy ((M 2)) 39 b_now, xI cy ((M 4)) 273 b_minds] → lv_has ls 6 [(0, .ref ((M 0))), (1, .int ((3 : Int32))), (2, .int v2), (3, .int (bI v3)), (4, .int (bI v4))] → W p l e zr_X8_chance_l3 s m args below meth c H locs 0 0 Q (F0 m 49 ls []) := by
    intro n
    induction n with
    | zero =>
      intro v2 v3 v4 b_now b_minds b_fled b_harmed b_raged H locs ls hf hw hl
      rw [zf_X8_chance_l3_49] at hf
      cases hf
    | succ n ih =>
      intro v2 v3 v4 b_now b_minds b_fled b_harmed b_raged H locs ls hf hw hl
      rw [zf_X8_chance_l3_49] at hf
      refine lv_iload (pc := 49) hx hb dX8_chance_49 (lv_at hl 4 rfl) ?_
      refine lv_aload_n (pc := 51) hx hb dX8_chance_51 rfl (lv_at hl 0 rfl) ?_
      obtain ⟨u4, u4e, hf⟩ := bd hf
      refine zk_cV (pc := 52) (ci := 8) (q0 := 0) (rest := [.int (bI v4)]) (st1 := [.int u4, .int (bI v4)]) (w' := [xM M b_isKept b_size b_at b_from b_sort b_fled b_flights b_firstFlight b_bestHarms b_bestRage b_harmed b_raged, xI cy ((M 2)) 39 b_now, xI cy ((M 4)) 273 b_minds]) (mk := [none, none, none]) C hw (c_X8_many l G cy tt M b_isKept b_size b_at b_from b_sort b_fled b_flights b_firstFlight b_bestHarms b_bestRage b_harmed b_raged b_now _ u4e) zy_X8_many zm_X8_80 rfl rfl rfl [0, 1] rfl rfl rfl rfl rfl rfl rfl rfl hl.1 ⟨rfl, rfl⟩ ⟨Nat.le_of_ble_eq_true rfl, Nat.le_of_ble_eq_true rfl⟩ rfl (Nat.le_of_ble_eq_true rfl) ⟨Nat.zero_le _, Nat.zero_le _⟩ dX8_chance_52 (fun H locs hw => ?_)
      refine lv_icmp_ge (pc := 55) (tgt := 100) hx hb dX8_chance_55 (by decide) (fun q5 => ?_) (fun q5 => ?_)
      · replace hf := if_t q5 hf
        have hf := Option.some.inj hf
        subst hf
        exact zk_retv (pc := 100) (ww := [xM M b_isKept b_size b_at b_from b_sort b_fled b_flights b_firstFlight b_bestHarms b_bestRage b_harmed b_raged, xI cy ((M 2)) 39 b_now, xI cy ((M 4)) 273 b_minds]) C hw hr hQ dX8_chance_100
      · replace hf := if_f q5 hf
        refine lv_aload_n (pc := 58) hx hb dX8_chance_58 rfl (lv_at hl 0 rfl) ?_
        refine lv_iload (pc := 59) hx hb dX8_chance_59 (lv_at hl 4 rfl) ?_
        obtain ⟨u6, u6e, hf⟩ := bd hf
        refine zk_cV (pc := 61) (ci := 8) (q0 := 0) (rest := []) (st1 := [.int u6.1]) (w' := [xM M b_isKept b_size b_at b_from b_sort u6.2.2 b_flights b_firstFlight b_bestHarms b_bestRage b_harmed b_raged, xI cy ((M 2)) 39 u6.2.1, xI cy ((M 4)) 273 b_minds]) (mk := [some (xM M b_isKept b_size b_at b_from b_sort u6.2.2 b_flights b_firstFlight b_bestHarms b_bestRage b_harmed b_raged), some (xI cy ((M 2)) 39 u6.2.1), none]) C hw (c_X8_step l G cy tt M b_isKept b_size b_at b_from b_sort b_flights b_firstFlight b_bestHarms b_bestRage b_harmed b_raged (((bI v4))) b_now b_fled _ u6e) zy_X8_step zm_X8_181 rfl rfl rfl [0, 1] rfl rfl rfl rfl rfl rfl rfl rfl hl.1 ⟨rfl, rfl⟩ ⟨Nat.le_of_ble_eq_true rfl, Nat.le_of_ble_eq_true rfl⟩ rfl (Nat.le_of_ble_eq_true rfl) ⟨Nat.zero_le _, Nat.zero_le _⟩ dX8_chance_61 (fun H locs hw => ?_)
        refine lv_istore (pc := 64) (lv' := [(5, .int u6.1), (0, .ref ((M 0))), (1, .int ((3 : Int32))), (2, .int v2), (3, .int (bI v3)), (4, .int (bI v4))]) hx hb dX8_chance_64 hl (by decide) rfl (fun ls hl => ?_)
        refine lv_aload_n (pc := 66) hx hb dX8_chance_66 rfl (lv_at hl 1 rfl) ?_
        refine lv_iload_n (pc := 67) hx hb dX8_chance_67 rfl (lv_at hl 2 rfl) ?_
        refine lv_iconst (pc := 68) (v := 1) hx hb dX8_chance_68 (by decide) ?_
        refine lv_iadd (pc := 69) hx hb dX8_chance_69 ?_
        refine zk_eqi (v := 4) (by decide) ?_
        refine lv_iload_n (pc := 70) hx hb dX8_chance_70 rfl (lv_at hl 3 rfl) ?_
        refine lv_iload_n (pc := 71) hx hb dX8_chance_71 rfl (lv_at hl 4 rfl) ?_
        refine zk_ifnz (pc := 72) (tgt := 81) hx hb dX8_chance_72 (by decide) (fun q7 => ?_) (fun q7 => ?_)
        · replace hf := if_t q7 hf
          exact J81 v2 v3 v4 v2 u6.2.1 b_minds u6.2.2 b_harmed b_raged _ _ _ hf hw (lv_sub hl [1, 2, 3, 4, 5] rfl)
        · replace hf := if_f q7 hf
          refine lv_iload (pc := 75) hx hb dX8_chance_75 (lv_at hl 0 rfl) ?_
          refine lv_iconst (pc := 77) (v := 1) hx hb dX8_chance_77 (by decide) ?_
          refine lv_icmp_ne (pc := 78) (tgt := 85) hx hb dX8_chance_78 (by decide) (fun q8 => ?_) (fun q8 => ?_)
          · replace hf := if_f q8 hf
            refine lv_iconst (pc := 85) (v := 0) hx hb dX8_chance_85 (by decide) ?_
            exact J86 v2 v3 v4 false v2 u6.2.1 b_minds u6.2.2 b_harmed b_raged _ _ _ hf hw (lv_sub hl [1, 2, 3, 4, 5] rfl)
          · replace hf := if_t q8 hf
            exact J81 v2 v3 v4 v2 u6.2.1 b_minds u6.2.2 b_harmed b_raged _ _ _ hf hw (lv_sub hl [1, 2, 3, 4, 5] rfl)
  rw [zf_X8_chance_l3] at hf
  refine lv_iload_n (pc := 0) hx hb dX8_chance_0 rfl (lv_at hl 1 rfl) ?_
  refine lv_iload_n (pc := 1) hx hb dX8_chance_1 rfl (lv_at hl 2 rfl) ?_
  refine lv_icmp_ne (pc := 2) (tgt := 41) hx hb dX8_chance_2 (by decide) (fun q1 => ?_) (fun q1 => ?_)
  · replace hf := if_f q1 hf
    refine lv_aload_n (pc := 41) hx hb dX8_chance_41 rfl (lv_at hl 0 rfl) ?_
    refine lv_iload_n (pc := 42) hx hb dX8_chance_42 rfl (lv_at hl 1 rfl) ?_
    obtain ⟨u2, u2e, hf⟩ := bd hf
    refine zk_cV (pc := 43) (ci := 8) (q0 := 0) (rest := []) (st1 := []) (w' := [xM M b_isKept b_size b_at b_from b_sort b_fled b_flights b_firstFlight b_bestHarms b_bestRage b_harmed b_raged, xI cy ((M 2)) 39 b_now, xI cy ((M 4)) 273 u2]) (mk := [none, none, some (xI cy ((M 4)) 273 u2)]) C hw (c_X8_keep l G cy tt M b_isKept b_size b_at b_from b_sort b_fled b_flights b_firstFlight b_bestHarms b_bestRage b_harmed b_raged (((3 : Int32))) b_now b_minds _ u2e) zy_X8_keep zm_X8_142 rfl rfl rfl [0, 1, 2] rfl rfl rfl rfl rfl rfl rfl rfl hl.1 ⟨rfl, rfl⟩ ⟨Nat.le_of_ble_eq_true rfl, Nat.le_of_ble_eq_true rfl⟩ rfl (Nat.le_of_ble_eq_true rfl) ⟨Nat.zero_le _, Nat.zero_le _⟩ dX8_chance_43 (fun H locs hw => ?_)
    refine lv_iconst (pc := 46) (v := 0) hx hb dX8_chance_46 (by decide) ?_
    refine lv_istore (pc := 47) (lv' := [(4, .int ((0 : Int32))), (0, .ref ((M 0))), (1, .int ((3 : Int32))), (2, .int x2), (3, .int (bI x3))]) hx hb dX8_chance_47 hl (by decide) rfl (fun ls hl => ?_)
    exact J49 FU x2 x3 false b_now u2 b_fled b_harmed b_raged _ _ _ hf hw (lv_sub hl [1, 2, 3, 4, 0] rfl)
  · replace hf := if_t q1 hf
    refine lv_aload_n (pc := 5) hx hb dX8_chance_5 rfl (lv_at hl 0 rfl) ?_
    refine lv_dup (pc := 6) hx hb dX8_chance_6 rfl ?_
    refine zk_gt (pc := 7) C hw zl_X8_267 0 rfl rfl dX8_chance_7 ?_
    refine lv_iload_n (pc := 10) hx hb dX8_chance_10 rfl (lv_at hl 3 rfl) ?_
    refine zk_ifz (pc := 11) (tgt := 18) hx hb dX8_chance_11 (by decide) (fun q3 => ?_) (fun q3 => ?_)
    · replace hf := if_f q3 hf
      refine lv_lconst (pc := 18) (v := 0) hx hb dX8_chance_18 (by decide) ?_
      exact J19 ((0 : Int64)) b_harmed b_now b_minds b_fled b_harmed b_raged _ _ _ hf hw (lv_sub hl [0] rfl)
    · replace hf := if_t q3 hf
      refine lv_lconst (pc := 14) (v := 1) hx hb dX8_chance_14 (by decide) ?_
      refine lv_goto (pc := 15) (tgt := 19) hx hb dX8_chance_15 (by decide) ?_
      exact J19 ((1 : Int64)) b_harmed b_now b_minds b_fled b_harmed b_raged _ _ _ hf hw (lv_sub hl [0] rfl)
def zf_X8_chance_l2_19 (t0 : Int64) (t1 : Int64) (b_now : Nat → Int32) (b_minds : Nat → Int32) (b_fled : Bool) (b_harmed : Int64) (b_raged : Int64) : Option ((Nat → Int32) × (Nat → Int32) × Bool × Int64 × Int64) := some (b_now, b_minds, b_fled, (t1 + t0), (b_raged + ((b_now 33)).toInt64))
def zf_X8_chance_l2_86 (k49 : Int32 → Bool → Int32 → (Nat → Int32) → (Nat → Int32) → Bool → Int64 → Int64 → Option ((Nat → Int32) × (Nat → Int32) × Bool × Int64 × Int64)) (v2 : Int32) (v3 : Bool) (v4 : Int32) (t0 : Bool) (t1 : Int32) (b_now : Nat → Int32) (b_minds : Nat → Int32) (b_fled : Bool) (b_harmed : Int64) (b_raged : Int64) : Option ((Nat → Int32) × (Nat → Int32) × Bool × Int64 × Int64) := (Option.bind (zf_X8_chance_l3 t1 t0 b_now b_minds b_fled b_harmed b_raged) (fun u9 => (Option.bind (zf_X8_lay (((2 : Int32))) u9.1 u9.2.1) (fun u10 => k49 v2 v3 ((v4 + 1)) u10 u9.2.1 u9.2.2.1 u9.2.2.2.1 u9.2.2.2.2))))
def zf_X8_chance_l2_81 (k49 : Int32 → Bool → Int32 → (Nat → Int32) → (Nat → Int32) → Bool → Int64 → Int64 → Option ((Nat → Int32) × (Nat → Int32) × Bool × Int64 × Int64)) (v2 : Int32) (v3 : Bool) (v4 : Int32) (t0 : Int32) (b_now : Nat → Int32) (b_minds : Nat → Int32) (b_fled : Bool) (b_harmed : Int64) (b_raged : Int64) : Option ((Nat → Int32) × (Nat → Int32) × Bool × Int64 × Int64) := zf_X8_chance_l2_86 k49 v2 v3 v4 true t0 b_now b_minds b_fled b_harmed b_raged
def zf_X8_chance_l2_49 : Nat → Int32 → Bool → Int32 → (Nat → Int32) → (Nat → Int32) → Bool → Int64 → Int64 → Option ((Nat → Int32) × (Nat → Int32) × Bool × Int64 × Int64)
  | 0, _, _, _, _, _, _, _, _ => none
  | n + 1, v2, v3, v4, b_now, b_minds, b_fled, b_harmed, b_raged => (Option.bind (zf_X8_many b_now) (fun u4 => (if u4 ≤ v4 then some (b_now, b_minds, b_fled, b_harmed, b_raged) else (Option.bind (zf_X8_step v4 b_now b_fled) (fun u6 => (if v3 then zf_X8_chance_l2_81 (zf_X8_chance_l2_49 n) v2 v3 v4 v2 u6.2.1 b_minds u6.2.2 b_harmed b_raged else (if u6.1 = (1 : Int32) then zf_X8_chance_l2_81 (zf_X8_chance_l2_49 n) v2 v3 v4 v2 u6.2.1 b_minds u6.2.2 b_harmed b_raged else zf_X8_chance_l2_86 (zf_X8_chance_l2_49 n) v2 v3 v4 false v2 u6.2.1 b_minds u6.2.2 b_harmed b_raged)))))))
def zf_X8_chance_l2 (x2 : Int32) (x3 : Bool) (b_now : Nat → Int32) (b_minds : Nat → Int32) (b_fled : Bool) (b_harmed : Int64) (b_raged : Int64) : Option ((Nat → Int32) × (Nat → Int32) × Bool × Int64 × Int64) := (if (2 : Int32) = x2 then (if x3 then zf_X8_chance_l2_19 ((1 : Int64)) b_harmed b_now b_minds b_fled b_harmed b_raged else zf_X8_chance_l2_19 ((0 : Int64)) b_harmed b_now b_minds b_fled b_harmed b_raged) else (Option.bind (zf_X8_keep (((2 : Int32))) b_now b_minds) (fun u2 => zf_X8_chance_l2_49 FU x2 x3 ((0 : Int32)) b_now u2 b_fled b_harmed b_raged)))
abbrev zr_X8_chance_l2 : Room := { frames := 4, cells := 0, slots := 0, locals := 90 }
set_option maxHeartbeats 4000000 in
set_option maxRecDepth 100000 in
theorem c_X8_chance_l2 (l : Launch) (G : va_G) (cy : Nat → ClassId) (tt : Nat → Nat) (M : Nat → Nat) (b_isKept : Bool) (b_size : Int32) (b_at : Int32) (b_from : Int32) (b_sort : Int32) (b_flights : Int32) (b_firstFlight : Int32) (b_bestHarms : Int32) (b_bestRage : Int32) (x2 : Int32) (x3 : Bool) (b_now : Nat → Int32) (b_minds : Nat → Int32) (b_fled : Bool) (b_harmed : Int64) (b_raged : Int64) (res : (Nat → Int32) × (Nat → Int32) × Bool × Int64 × Int64) (hf : zf_X8_chance_l2 x2 x3 b_now b_minds b_fled b_harmed b_raged = some res) : zCT l yX8_chance cX8_chance 6 none zr_X8_chance_l2 G cy tt [.ref ((M 0)), .int ((2 : Int32)), .int x2, .int (bI x3)] [xM M b_isKept b_size b_at b_from b_sort b_fled b_flights b_firstFlight b_bestHarms b_bestRage b_harmed b_raged, xI cy ((M 2)) 39 b_now, xI cy ((M 4)) 273 b_minds] none [xM M b_isKept b_size b_at b_from b_sort res.2.2.1 b_flights b_firstFlight b_bestHarms b_bestRage res.2.2.2.1 res.2.2.2.2, xI cy ((M 2)) 39 res.1, xI cy ((M 4)) 273 res.2.1] := by
  refine zk_start zn_X8 (Nat.le_of_ble_eq_true rfl) ?_
  intro p e s m args below meth c A ls Q C hr hQ hw hl
  have C : zCx p m c s args meth cX8_chance 6 RX8 G cy tt A := C
  have hx := C.1.1
  have hb := C.1.2.1
  have hl : lv_has ls 6 [(0, .ref ((M 0))), (1, .int ((2 : Int32))), (2, .int x2), (3, .int (bI x3))] := hl
  have J19 : ∀ (t0 : Int64) (t1 : Int64) (b_now : Nat → Int32) (b_minds : Nat → Int32) (b_fled : Bool) (b_harmed : Int64) (b_raged : Int64) (H : Heap) (locs : List Loc) (ls : Array Slot), zf_X8_chance_l2_19 t0 t1 b_now b_minds b_fled b_harmed b_raged = some res → zWd G A s.heap H locs [xM M b_isKept b_size b_at b_from b_sort b_fled b_flights b_firstFlight b_bestHarms b_bestRage b_harmed b_raged, xI cy ((M 2)) 39 b_now, xI cy ((M 4)) 273 b_minds] → lv_has ls 6 [(0, .ref ((M 0)))] → W p l e zr_X8_chance_l2 s m args below meth c H locs 0 0 Q (F0 m 19 ls [.long t0, .long t1, .ref ((M 0))]) := by
    intro t0 t1 b_now b_minds b_fled b_harmed b_raged H locs ls hf hw hl
    rw [zf_X8_chance_l2_19] at hf
    refine lv_ladd (pc := 19) hx hb dX8_chance_19 ?_
    refine zk_put (pc := 20) (w' := [xM M b_isKept b_size b_at b_from b_sort b_fled b_flights b_firstFlight b_bestHarms b_bestRage ((t1 + t0)) b_raged, xI cy ((M 2)) 39 b_now, xI cy ((M 4)) 273 b_minds]) C hw zp_X8_267 0 rfl rfl rfl (Nat.le_of_ble_eq_true rfl) rfl dX8_chance_20 (fun H locs hw => ?_)
    refine lv_aload_n (pc := 23) hx hb dX8_chance_23 rfl (lv_at hl 0 rfl) ?_
    refine lv_dup (pc := 24) hx hb dX8_chance_24 rfl ?_
    refine zk_gt (pc := 25) C hw zl_X8_271 0 rfl rfl dX8_chance_25 ?_
    refine lv_aload_n (pc := 28) hx hb dX8_chance_28 rfl (lv_at hl 0 rfl) ?_
    refine zk_gt (pc := 29) C hw zl_X8_17 0 rfl rfl dX8_chance_29 ?_
    refine lv_bipush (pc := 32) (v := 33) hx hb dX8_chance_32 (by decide) ?_
    refine zk_ialdK (pc := 34) 33 (by decide) C hw 1 rfl (by decide) dX8_chance_34 ?_
    refine lv_i2l (pc := 35) (v := ((b_now 33)).toInt64) hx hb dX8_chance_35 rfl ?_
    refine lv_ladd (pc := 36) hx hb dX8_chance_36 ?_
    refine zk_put (pc := 37) (w' := [xM M b_isKept b_size b_at b_from b_sort b_fled b_flights b_firstFlight b_bestHarms b_bestRage ((t1 + t0)) ((b_raged + ((b_now 33)).toInt64)), xI cy ((M 2)) 39 b_now, xI cy ((M 4)) 273 b_minds]) C hw zp_X8_271 0 rfl rfl rfl (Nat.le_of_ble_eq_true rfl) rfl dX8_chance_37 (fun H locs hw => ?_)
    have hf := Option.some.inj hf
    subst hf
    exact zk_retv (pc := 40) (ww := [xM M b_isKept b_size b_at b_from b_sort b_fled b_flights b_firstFlight b_bestHarms b_bestRage ((t1 + t0)) ((b_raged + ((b_now 33)).toInt64)), xI cy ((M 2)) 39 b_now, xI cy ((M 4)) 273 b_minds]) C hw hr hQ dX8_chance_40
  have J86 : ∀ (k49 : Int32 → Bool → Int32 → (Nat → Int32) → (Nat → Int32) → Bool → Int64 → Int64 → Option ((Nat → Int32) × (Nat → Int32) × Bool × Int64 × Int64)) (K49 : ∀ (v2 : Int32) (v3 : Bool) (v4 : Int32) (b_now : Nat → Int32) (b_minds : Nat → Int32) (b_fled : Bool) (b_harmed : Int64) (b_raged : Int64) (H : Heap) (locs : List Loc) (ls : Array Slot), k49 v2 v3 v4 b_now b_minds b_fled b_harmed b_raged = some res → zWd G A s.heap H locs [xM M b_isKept b_size b_at b_from b_sort b_fled b_flights b_firstFlight b_bestHarms b_bestRage b_harmed b_raged, xI cy ((M 2)) 39 b_now, xI cy ((M 4)) 273 b_minds] → lv_has ls 6 [(0, .ref ((M 0))), (1, .int ((2 : Int32))), (2, .int v2), (3, .int (bI v3)), (4, .int v4)] → W p l e zr_X8_chance_l2 s m args below meth c H locs 0 0 Q (F0 m 49 ls [])), ∀ (v2 : Int32) (v3 : Bool) (v4 : Int32) (t0 : Bool) (t1 : Int32) (b_now : Nat → Int32) (b_minds : Nat → Int32) (b_fled : Bool) (b_harmed : Int64) (b_raged : Int64) (H : Heap) (locs : List Loc) (ls : Array Slot), zf_X8_chance_l2_86 k49 v2 v3 v4 t0 t1 b_now b_minds b_fled b_harmed b_raged = some res → zWd G A s.heap H locs [xM M b_isKept b_size b_at b_from b_sort b_fled b_flights b_firstFlight b_bestHarms b_bestRage b_harmed b_raged, xI cy ((M 2)) 39 b_now, xI cy ((M 4)) 273 b_minds] → lv_has ls 6 [(0, .ref ((M 0))), (1, .int ((2 : Int32))), (2, .int v2), (3, .int (bI v3)), (4, .int v4)] → W p l e zr_X8_chance_l2 s m args below meth c H locs 0 0 Q (F0 m 86 ls [.int (bI t0), .int t1, .int ((3 : Int32)), .ref ((M 0))]) := by
    intro k49 K49 v2 v3 v4 t0 t1 b_now b_minds b_fled b_harmed b_raged H locs ls hf hw hl
    rw [zf_X8_chance_l2_86] at hf
    obtain ⟨u9, u9e, hf⟩ := bd hf
    refine zk_cV (pc := 86) (ci := 8) (q0 := 0) (rest := []) (st1 := []) (w' := [xM M b_isKept b_size b_at b_from b_sort u9.2.2.1 b_flights b_firstFlight b_bestHarms b_bestRage u9.2.2.2.1 u9.2.2.2.2, xI cy ((M 2)) 39 u9.1, xI cy ((M 4)) 273 u9.2.1]) (mk := [some (xM M b_isKept b_size b_at b_from b_sort u9.2.2.1 b_flights b_firstFlight b_bestHarms b_bestRage u9.2.2.2.1 u9.2.2.2.2), some (xI cy ((M 2)) 39 u9.1), some (xI cy ((M 4)) 273 u9.2.1)]) C hw (c_X8_chance_l3 l G cy tt M b_isKept b_size b_at b_from b_sort b_flights b_firstFlight b_bestHarms b_bestRage t1 t0 b_now b_minds b_fled b_harmed b_raged _ u9e) zy_X8_chance zm_X8_274 rfl rfl rfl [0, 1, 2] rfl rfl rfl rfl rfl rfl rfl rfl hl.1 ⟨rfl, rfl⟩ ⟨Nat.le_of_ble_eq_true rfl, Nat.le_of_ble_eq_true rfl⟩ rfl (Nat.le_of_ble_eq_true rfl) ⟨Nat.zero_le _, Nat.zero_le _⟩ dX8_chance_86 (fun H locs hw => ?_)
    refine lv_aload_n (pc := 89) hx hb dX8_chance_89 rfl (lv_at hl 0 rfl) ?_
    refine lv_iload_n (pc := 90) hx hb dX8_chance_90 rfl (lv_at hl 1 rfl) ?_
    obtain ⟨u10, u10e, hf⟩ := bd hf
    refine zk_cV (pc := 91) (ci := 8) (q0 := 0) (rest := []) (st1 := []) (w' := [xM M b_isKept b_size b_at b_from b_sort u9.2.2.1 b_flights b_firstFlight b_bestHarms b_bestRage u9.2.2.2.1 u9.2.2.2.2, xI cy ((M 2)) 39 u10, xI cy ((M 4)) 273 u9.2.1]) (mk := [none, some (xI cy ((M 2)) 39 u10), none]) C hw (c_X8_lay l G cy tt M b_isKept b_size b_at b_from b_sort u9.2.2.1 b_flights b_firstFlight b_bestHarms b_bestRage u9.2.2.2.1 u9.2.2.2.2 (((2 : Int32))) u9.1 u9.2.1 _ u10e) zy_X8_lay zm_X8_150 rfl rfl rfl [0, 1, 2] rfl rfl rfl rfl rfl rfl rfl rfl hl.1 ⟨rfl, rfl⟩ ⟨Nat.le_of_ble_eq_true rfl, Nat.le_of_ble_eq_true rfl⟩ rfl (Nat.le_of_ble_eq_true rfl) ⟨Nat.zero_le _, Nat.zero_le _⟩ dX8_chance_91 (fun H locs hw => ?_)
    refine lv_iinc (pc := 94) (v := (v4 + 1)) (lv' := [(4, .int ((v4 + 1))), (0, .ref ((M 0))), (1, .int ((2 : Int32))), (2, .int v2), (3, .int (bI v3))]) hx hb dX8_chance_94 hl (k := 4) rfl rfl (by decide) rfl (fun ls hl => ?_)
    refine lv_goto (pc := 97) (tgt := 49) hx hb dX8_chance_97 (by decide) ?_
    exact K49 v2 v3 ((v4 + 1)) u10 u9.2.1 u9.2.2.1 u9.2.2.2.1 u9.2.2.2.2 _ _ _ hf hw (lv_sub hl [1, 2, 3, 4, 0] rfl)
  have J81 : ∀ (k49 : Int32 → Bool → Int32 → (Nat → Int32) → (Nat → Int32) → Bool → Int64 → Int64 → Option ((Nat → Int32) × (Nat → Int32) × Bool × Int64 × Int64)) (K49 : ∀ (v2 : Int32) (v3 : Bool) (v4 : Int32) (b_now : Nat → Int32) (b_minds : Nat → Int32) (b_fled : Bool) (b_harmed : Int64) (b_raged : Int64) (H : Heap) (locs : List Loc) (ls : Array Slot), k49 v2 v3 v4 b_now b_minds b_fled b_harmed b_raged = some res → zWd G A s.heap H locs [xM M b_isKept b_size b_at b_from b_sort b_fled b_flights b_firstFlight b_bestHarms b_bestRage b_harmed b_raged, xI cy ((M 2)) 39 b_now, xI cy ((M 4)) 273 b_minds] → lv_has ls 6 [(0, .ref ((M 0))), (1, .int ((2 : Int32))), (2, .int v2), (3, .int (bI v3)), (4, .int v4)] → W p l e zr_X8_chance_l2 s m args below meth c H locs 0 0 Q (F0 m 49 ls [])), ∀ (v2 : Int32) (v3 : Bool) (v4 : Int32) (t0 : Int32) (b_now : Nat → Int32) (b_minds : Nat → Int32) (b_fled : Bool) (b_harmed : Int64) (b_raged : Int64) (H : Heap) (locs : List Loc) (ls : Array Slot), zf_X8_chance_l2_81 k49 v2 v3 v4 t0 b_now b_minds b_fled b_harmed b_raged = some res → zWd G A s.heap H locs [xM M b_isKept b_size b_at b_from b_sort b_fled b_flights b_firstFlight b_bestHarms b_bestRage b_harmed b_raged, xI cy ((M 2)) 39 b_now, xI cy ((M 4)) 273 b_minds] → lv_has ls 6 [(0, .ref ((M 0))), (1, .int ((2 : Int32))), (2, .int v2), (3, .int (bI v3)), (4, .int v4)] → W p l e zr_X8_chance_l2 s m args below meth c H locs 0 0 Q (F0 m 81 ls [.int t0, .int ((3 : Int32)), .ref ((M 0))]) := by
    intro k49 K49 v2 v3 v4 t0 b_now b_minds b_fled b_harmed b_raged H locs ls hf hw hl
    rw [zf_X8_chance_l2_81] at hf
    refine lv_iconst (pc := 81) (v := 1) hx hb dX8_chance_81 (by decide) ?_
    refine lv_goto (pc := 82) (tgt := 86) hx hb dX8_chance_82 (by decide) ?_
    exact J86 k49 K49 v2 v3 v4 true t0 b_now b_minds b_fled b_harmed b_raged _ _ _ hf hw (lv_sub hl [0, 1, 2, 3, 4] rfl)
  have J49 : ∀ (n : Nat), ∀ (v2 : Int32) (v3 : Bool) (v4 : Int32) (b_now : Nat → Int32) (b_minds : Nat → Int32) (b_fled : Bool) (b_harmed : Int64) (b_raged : Int64) (H : Heap) (locs : List Loc) (ls : Array Slot), zf_X8_chance_l2_49 n v2 v3 v4 b_now b_minds b_fled b_harmed b_raged = some res → zWd G A s.heap H locs [xM M b_isKept b_size b_at b_from b_sort b_fled b_flights b_firstFlight b_bestHarms b_bestRage b_harmed b_raged, xI cy ((M 2)) 39 b_now, xI cy ((M 4)) 273 b_minds] → lv_has ls 6 [(0, .ref ((M 0))), (1, .int ((2 : Int32))), (2, .int v2), (3, .int (bI v3)), (4, .int v4)] → W p l e zr_X8_chance_l2 s m args below meth c H locs 0 0 Q (F0 m 49 ls []) := by
    intro n
    induction n with
    | zero =>
      intro v2 v3 v4 b_now b_minds b_fled b_harmed b_raged H locs ls hf hw hl
      rw [zf_X8_chance_l2_49] at hf
      cases hf
    | succ n ih =>
      intro v2 v3 v4 b_now b_minds b_fled b_harmed b_raged H locs ls hf hw hl
      rw [zf_X8_chance_l2_49] at hf
      refine lv_iload (pc := 49) hx hb dX8_chance_49 (lv_at hl 4 rfl) ?_
      refine lv_aload_n (pc := 51) hx hb dX8_chance_51 rfl (lv_at hl 0 rfl) ?_
      obtain ⟨u4, u4e, hf⟩ := bd hf
      refine zk_cV (pc := 52) (ci := 8) (q0 := 0) (rest := [.int v4]) (st1 := [.int u4, .int v4]) (w' := [xM M b_isKept b_size b_at b_from b_sort b_fled b_flights b_firstFlight b_bestHarms b_bestRage b_harmed b_raged, xI cy ((M 2)) 39 b_now, xI cy ((M 4)) 273 b_minds]) (mk := [none, none, none]) C hw (c_X8_many l G cy tt M b_isKept b_size b_at b_from b_sort b_fled b_flights b_firstFlight b_bestHarms b_bestRage b_harmed b_raged b_now _ u4e) zy_X8_many zm_X8_80 rfl rfl rfl [0, 1] rfl rfl rfl rfl rfl rfl rfl rfl hl.1 ⟨rfl, rfl⟩ ⟨Nat.le_of_ble_eq_true rfl, Nat.le_of_ble_eq_true rfl⟩ rfl (Nat.le_of_ble_eq_true rfl) ⟨Nat.zero_le _, Nat.zero_le _⟩ dX8_chance_52 (fun H locs hw => ?_)
      refine lv_icmp_ge (pc := 55) (tgt := 100) hx hb dX8_chance_55 (by decide) (fun q5 => ?_) (fun q5 => ?_)
      · replace hf := if_t q5 hf
        have hf := Option.some.inj hf
        subst hf
        exact zk_retv (pc := 100) (ww := [xM M b_isKept b_size b_at b_from b_sort b_fled b_flights b_firstFlight b_bestHarms b_bestRage b_harmed b_raged, xI cy ((M 2)) 39 b_now, xI cy ((M 4)) 273 b_minds]) C hw hr hQ dX8_chance_100
      · replace hf := if_f q5 hf
        refine lv_aload_n (pc := 58) hx hb dX8_chance_58 rfl (lv_at hl 0 rfl) ?_
        refine lv_iload (pc := 59) hx hb dX8_chance_59 (lv_at hl 4 rfl) ?_
        obtain ⟨u6, u6e, hf⟩ := bd hf
        refine zk_cV (pc := 61) (ci := 8) (q0 := 0) (rest := []) (st1 := [.int u6.1]) (w' := [xM M b_isKept b_size b_at b_from b_sort u6.2.2 b_flights b_firstFlight b_bestHarms b_bestRage b_harmed b_raged, xI cy ((M 2)) 39 u6.2.1, xI cy ((M 4)) 273 b_minds]) (mk := [some (xM M b_isKept b_size b_at b_from b_sort u6.2.2 b_flights b_firstFlight b_bestHarms b_bestRage b_harmed b_raged), some (xI cy ((M 2)) 39 u6.2.1), none]) C hw (c_X8_step l G cy tt M b_isKept b_size b_at b_from b_sort b_flights b_firstFlight b_bestHarms b_bestRage b_harmed b_raged v4 b_now b_fled _ u6e) zy_X8_step zm_X8_181 rfl rfl rfl [0, 1] rfl rfl rfl rfl rfl rfl rfl rfl hl.1 ⟨rfl, rfl⟩ ⟨Nat.le_of_ble_eq_true rfl, Nat.le_of_ble_eq_true rfl⟩ rfl (Nat.le_of_ble_eq_true rfl) ⟨Nat.zero_le _, Nat.zero_le _⟩ dX8_chance_61 (fun H locs hw => ?_)
        refine lv_istore (pc := 64) (lv' := [(5, .int u6.1), (0, .ref ((M 0))), (1, .int ((2 : Int32))), (2, .int v2), (3, .int (bI v3)), (4, .int v4)]) hx hb dX8_chance_64 hl (by decide) rfl (fun ls hl => ?_)
        refine lv_aload_n (pc := 66) hx hb dX8_chance_66 rfl (lv_at hl 1 rfl) ?_
        refine lv_iload_n (pc := 67) hx hb dX8_chance_67 rfl (lv_at hl 2 rfl) ?_
        refine lv_iconst (pc := 68) (v := 1) hx hb dX8_chance_68 (by decide) ?_
        refine lv_iadd (pc := 69) hx hb dX8_chance_69 ?_
        refine zk_eqi (v := 3) (by decide) ?_
        refine lv_iload_n (pc := 70) hx hb dX8_chance_70 rfl (lv_at hl 3 rfl) ?_
        refine lv_iload_n (pc := 71) hx hb dX8_chance_71 rfl (lv_at hl 4 rfl) ?_
        refine zk_ifnz (pc := 72) (tgt := 81) hx hb dX8_chance_72 (by decide) (fun q7 => ?_) (fun q7 => ?_)
        · replace hf := if_t q7 hf
          exact J81 (zf_X8_chance_l2_49 n) ih v2 v3 v4 v2 u6.2.1 b_minds u6.2.2 b_harmed b_raged _ _ _ hf hw (lv_sub hl [1, 2, 3, 4, 5] rfl)
        · replace hf := if_f q7 hf
          refine lv_iload (pc := 75) hx hb dX8_chance_75 (lv_at hl 0 rfl) ?_
          refine lv_iconst (pc := 77) (v := 1) hx hb dX8_chance_77 (by decide) ?_
          refine lv_icmp_ne (pc := 78) (tgt := 85) hx hb dX8_chance_78 (by decide) (fun q8 => ?_) (fun q8 => ?_)
          · replace hf := if_f q8 hf
            refine lv_iconst (pc := 85) (v := 0) hx hb dX8_chance_85 (by decide) ?_
            exact J86 (zf_X8_chance_l2_49 n) ih v2 v3 v4 false v2 u6.2.1 b_minds u6.2.2 b_harmed b_raged _ _ _ hf hw (lv_sub hl [1, 2, 3, 4, 5] rfl)
          · replace hf := if_t q8 hf
            exact J81 (zf_X8_chance_l2_49 n) ih v2 v3 v4 v2 u6.2.1 b_minds u6.2.2 b_harmed b_raged _ _ _ hf hw (lv_sub hl [1, 2, 3, 4, 5] rfl)
  rw [zf_X8_chance_l2] at hf
  refine lv_iload_n (pc := 0) hx hb dX8_chance_0 rfl (lv_at hl 1 rfl) ?_
  refine lv_iload_n (pc := 1) hx hb dX8_chance_1 rfl (lv_at hl 2 rfl) ?_
  refine lv_icmp_ne (pc := 2) (tgt := 41) hx hb dX8_chance_2 (by decide) (fun q1 => ?_) (fun q1 => ?_)
  · replace hf := if_f q1 hf
    refine lv_aload_n (pc := 41) hx hb dX8_chance_41 rfl (lv_at hl 0 rfl) ?_
    refine lv_iload_n (pc := 42) hx hb dX8_chance_42 rfl (lv_at hl 1 rfl) ?_
    obtain ⟨u2, u2e, hf⟩ := bd hf
    refine zk_cV (pc := 43) (ci := 8) (q0 := 0) (rest := []) (st1 := []) (w' := [xM M b_isKept b_size b_at b_from b_sort b_fled b_flights b_firstFlight b_bestHarms b_bestRage b_harmed b_raged, xI cy ((M 2)) 39 b_now, xI cy ((M 4)) 273 u2]) (mk := [none, none, some (xI cy ((M 4)) 273 u2)]) C hw (c_X8_keep l G cy tt M b_isKept b_size b_at b_from b_sort b_fled b_flights b_firstFlight b_bestHarms b_bestRage b_harmed b_raged (((2 : Int32))) b_now b_minds _ u2e) zy_X8_keep zm_X8_142 rfl rfl rfl [0, 1, 2] rfl rfl rfl rfl rfl rfl rfl rfl hl.1 ⟨rfl, rfl⟩ ⟨Nat.le_of_ble_eq_true rfl, Nat.le_of_ble_eq_true rfl⟩ rfl (Nat.le_of_ble_eq_true rfl) ⟨Nat.zero_le _, Nat.zero_le _⟩ dX8_chance_43 (fun H locs hw => ?_)
    refine lv_iconst (pc := 46) (v := 0) hx hb dX8_chance_46 (by decide) ?_
    refine lv_istore (pc := 47) (lv' := [(4, .int ((0 : Int32))), (0, .ref ((M 0))), (1, .int ((2 : Int32))), (2, .int x2), (3, .int (bI x3))]) hx hb dX8_chance_47 hl (by decide) rfl (fun ls hl => ?_)
    exact J49 FU x2 x3 ((0 : Int32)) b_now u2 b_fled b_harmed b_raged _ _ _ hf hw (lv_sub hl [1, 2, 3, 4, 0] rfl)
  · replace hf := if_t q1 hf
    refine lv_aload_n (pc := 5) hx hb dX8_chance_5 rfl (lv_at hl 0 rfl) ?_
    refine lv_dup (pc := 6) hx hb dX8_chance_6 rfl ?_
    refine zk_gt (pc := 7) C hw zl_X8_267 0 rfl rfl dX8_chance_7 ?_
    refine lv_iload_n (pc := 10) hx hb dX8_chance_10 rfl (lv_at hl 3 rfl) ?_
    refine zk_ifz (pc := 11) (tgt := 18) hx hb dX8_chance_11 (by decide) (fun q3 => ?_) (fun q3 => ?_)
    · replace hf := if_f q3 hf
      refine lv_lconst (pc := 18) (v := 0) hx hb dX8_chance_18 (by decide) ?_
      exact J19 ((0 : Int64)) b_harmed b_now b_minds b_fled b_harmed b_raged _ _ _ hf hw (lv_sub hl [0] rfl)
    · replace hf := if_t q3 hf
      refine lv_lconst (pc := 14) (v := 1) hx hb dX8_chance_14 (by decide) ?_
      refine lv_goto (pc := 15) (tgt := 19) hx hb dX8_chance_15 (by decide) ?_
      exact J19 ((1 : Int64)) b_harmed b_now b_minds b_fled b_harmed b_raged _ _ _ hf hw (lv_sub hl [0] rfl)
def zf_X8_chance_l1_19 (t0 : Int64) (t1 : Int64) (b_now : Nat → Int32) (b_minds : Nat → Int32) (b_fled : Bool) (b_harmed : Int64) (b_raged : Int64) : Option ((Nat → Int32) × (Nat → Int32) × Bool × Int64 × Int64) := some (b_now, b_minds, b_fled, (t1 + t0), (b_raged + ((b_now 33)).toInt64))
def zf_X8_chance_l1_86 (k49 : Int32 → Bool → Int32 → (Nat → Int32) → (Nat → Int32) → Bool → Int64 → Int64 → Option ((Nat → Int32) × (Nat → Int32) × Bool × Int64 × Int64)) (v2 : Int32) (v3 : Bool) (v4 : Int32) (t0 : Bool) (t1 : Int32) (b_now : Nat → Int32) (b_minds : Nat → Int32) (b_fled : Bool) (b_harmed : Int64) (b_raged : Int64) : Option ((Nat → Int32) × (Nat → Int32) × Bool × Int64 × Int64) := (Option.bind (zf_X8_chance_l2 t1 t0 b_now b_minds b_fled b_harmed b_raged) (fun u9 => (Option.bind (zf_X8_lay (((1 : Int32))) u9.1 u9.2.1) (fun u10 => k49 v2 v3 ((v4 + 1)) u10 u9.2.1 u9.2.2.1 u9.2.2.2.1 u9.2.2.2.2))))
def zf_X8_chance_l1_81 (k49 : Int32 → Bool → Int32 → (Nat → Int32) → (Nat → Int32) → Bool → Int64 → Int64 → Option ((Nat → Int32) × (Nat → Int32) × Bool × Int64 × Int64)) (v2 : Int32) (v3 : Bool) (v4 : Int32) (t0 : Int32) (b_now : Nat → Int32) (b_minds : Nat → Int32) (b_fled : Bool) (b_harmed : Int64) (b_raged : Int64) : Option ((Nat → Int32) × (Nat → Int32) × Bool × Int64 × Int64) := zf_X8_chance_l1_86 k49 v2 v3 v4 true t0 b_now b_minds b_fled b_harmed b_raged
def zf_X8_chance_l1_49 : Nat → Int32 → Bool → Int32 → (Nat → Int32) → (Nat → Int32) → Bool → Int64 → Int64 → Option ((Nat → Int32) × (Nat → Int32) × Bool × Int64 × Int64)
  | 0, _, _, _, _, _, _, _, _ => none
  | n + 1, v2, v3, v4, b_now, b_minds, b_fled, b_harmed, b_raged => (Option.bind (zf_X8_many b_now) (fun u4 => (if u4 ≤ v4 then some (b_now, b_minds, b_fled, b_harmed, b_raged) else (Option.bind (zf_X8_step v4 b_now b_fled) (fun u6 => (if v3 then zf_X8_chance_l1_81 (zf_X8_chance_l1_49 n) v2 v3 v4 v2 u6.2.1 b_minds u6.2.2 b_harmed b_raged else (if u6.1 = (1 : Int32) then zf_X8_chance_l1_81 (zf_X8_chance_l1_49 n) v2 v3 v4 v2 u6.2.1 b_minds u6.2.2 b_harmed b_raged else zf_X8_chance_l1_86 (zf_X8_chance_l1_49 n) v2 v3 v4 false v2 u6.2.1 b_minds u6.2.2 b_harmed b_raged)))))))
def zf_X8_chance_l1 (x2 : Int32) (x3 : Bool) (b_now : Nat → Int32) (b_minds : Nat → Int32) (b_fled : Bool) (b_harmed : Int64) (b_raged : Int64) : Option ((Nat → Int32) × (Nat → Int32) × Bool × Int64 × Int64) := (if (1 : Int32) = x2 then (if x3 then zf_X8_chance_l1_19 ((1 : Int64)) b_harmed b_now b_minds b_fled b_harmed b_raged else zf_X8_chance_l1_19 ((0 : Int64)) b_harmed b_now b_minds b_fled b_harmed b_raged) else (Option.bind (zf_X8_keep (((1 : Int32))) b_now b_minds) (fun u2 => zf_X8_chance_l1_49 FU x2 x3 ((0 : Int32)) b_now u2 b_fled b_harmed b_raged)))
abbrev zr_X8_chance_l1 : Room := { frames := 5, cells := 0, slots := 0, locals := 115 }
set_option maxHeartbeats 4000000 in
set_option maxRecDepth 100000 in
theorem c_X8_chance_l1 (l : Launch) (G : va_G) (cy : Nat → ClassId) (tt : Nat → Nat) (M : Nat → Nat) (b_isKept : Bool) (b_size : Int32) (b_at : Int32) (b_from : Int32) (b_sort : Int32) (b_flights : Int32) (b_firstFlight : Int32) (b_bestHarms : Int32) (b_bestRage : Int32) (x2 : Int32) (x3 : Bool) (b_now : Nat → Int32) (b_minds : Nat → Int32) (b_fled : Bool) (b_harmed : Int64) (b_raged : Int64) (res : (Nat → Int32) × (Nat → Int32) × Bool × Int64 × Int64) (hf : zf_X8_chance_l1 x2 x3 b_now b_minds b_fled b_harmed b_raged = some res) : zCT l yX8_chance cX8_chance 6 none zr_X8_chance_l1 G cy tt [.ref ((M 0)), .int ((1 : Int32)), .int x2, .int (bI x3)] [xM M b_isKept b_size b_at b_from b_sort b_fled b_flights b_firstFlight b_bestHarms b_bestRage b_harmed b_raged, xI cy ((M 2)) 39 b_now, xI cy ((M 4)) 273 b_minds] none [xM M b_isKept b_size b_at b_from b_sort res.2.2.1 b_flights b_firstFlight b_bestHarms b_bestRage res.2.2.2.1 res.2.2.2.2, xI cy ((M 2)) 39 res.1, xI cy ((M 4)) 273 res.2.1] := by
  refine zk_start zn_X8 (Nat.le_of_ble_eq_true rfl) ?_
  intro p e s m args below meth c A ls Q C hr hQ hw hl
  have C : zCx p m c s args meth cX8_chance 6 RX8 G cy tt A := C
  have hx := C.1.1
  have hb := C.1.2.1
  have hl : lv_has ls 6 [(0, .ref ((M 0))), (1, .int ((1 : Int32))), (2, .int x2), (3, .int (bI x3))] := hl
  have J19 : ∀ (t0 : Int64) (t1 : Int64) (b_now : Nat → Int32) (b_minds : Nat → Int32) (b_fled : Bool) (b_harmed : Int64) (b_raged : Int64) (H : Heap) (locs : List Loc) (ls : Array Slot), zf_X8_chance_l1_19 t0 t1 b_now b_minds b_fled b_harmed b_raged = some res → zWd G A s.heap H locs [xM M b_isKept b_size b_at b_from b_sort b_fled b_flights b_firstFlight b_bestHarms b_bestRage b_harmed b_raged, xI cy ((M 2)) 39 b_now, xI cy ((M 4)) 273 b_minds] → lv_has ls 6 [(0, .ref ((M 0)))] → W p l e zr_X8_chance_l1 s m args below meth c H locs 0 0 Q (F0 m 19 ls [.long t0, .long t1, .ref ((M 0))]) := by
    intro t0 t1 b_now b_minds b_fled b_harmed b_raged H locs ls hf hw hl
    rw [zf_X8_chance_l1_19] at hf
    refine lv_ladd (pc := 19) hx hb dX8_chance_19 ?_
    refine zk_put (pc := 20) (w' := [xM M b_isKept b_size b_at b_from b_sort b_fled b_flights b_firstFlight b_bestHarms b_bestRage ((t1 + t0)) b_raged, xI cy ((M 2)) 39 b_now, xI cy ((M 4)) 273 b_minds]) C hw zp_X8_267 0 rfl rfl rfl (Nat.le_of_ble_eq_true rfl) rfl dX8_chance_20 (fun H locs hw => ?_)
    refine lv_aload_n (pc := 23) hx hb dX8_chance_23 rfl (lv_at hl 0 rfl) ?_
    refine lv_dup (pc := 24) hx hb dX8_chance_24 rfl ?_
    refine zk_gt (pc := 25) C hw zl_X8_271 0 rfl rfl dX8_chance_25 ?_
    refine lv_aload_n (pc := 28) hx hb dX8_chance_28 rfl (lv_at hl 0 rfl) ?_
    refine zk_gt (pc := 29) C hw zl_X8_17 0 rfl rfl dX8_chance_29 ?_
    refine lv_bipush (pc := 32) (v := 33) hx hb dX8_chance_32 (by decide) ?_
    refine zk_ialdK (pc := 34) 33 (by decide) C hw 1 rfl (by decide) dX8_chance_34 ?_
    refine lv_i2l (pc := 35) (v := ((b_now 33)).toInt64) hx hb dX8_chance_35 rfl ?_
    refine lv_ladd (pc := 36) hx hb dX8_chance_36 ?_
    refine zk_put (pc := 37) (w' := [xM M b_isKept b_size b_at b_from b_sort b_fled b_flights b_firstFlight b_bestHarms b_bestRage ((t1 + t0)) ((b_raged + ((b_now 33)).toInt64)), xI cy ((M 2)) 39 b_now, xI cy ((M 4)) 273 b_minds]) C hw zp_X8_271 0 rfl rfl rfl (Nat.le_of_ble_eq_true rfl) rfl dX8_chance_37 (fun H locs hw => ?_)
    have hf := Option.some.inj hf
    subst hf
    exact zk_retv (pc := 40) (ww := [xM M b_isKept b_size b_at b_from b_sort b_fled b_flights b_firstFlight b_bestHarms b_bestRage ((t1 + t0)) ((b_raged + ((b_now 33)).toInt64)), xI cy ((M 2)) 39 b_now, xI cy ((M 4)) 273 b_minds]) C hw hr hQ dX8_chance_40
  have J86 : ∀ (k49 : Int32 → Bool → Int32 → (Nat → Int32) → (Nat → Int32) → Bool → Int64 → Int64 → Option ((Nat → Int32) × (Nat → Int32) × Bool × Int64 × Int64)) (K49 : ∀ (v2 : Int32) (v3 : Bool) (v4 : Int32) (b_now : Nat → Int32) (b_minds : Nat → Int32) (b_fled : Bool) (b_harmed : Int64) (b_raged : Int64) (H : Heap) (locs : List Loc) (ls : Array Slot), k49 v2 v3 v4 b_now b_minds b_fled b_harmed b_raged = some res → zWd G A s.heap H locs [xM M b_isKept b_size b_at b_from b_sort b_fled b_flights b_firstFlight b_bestHarms b_bestRage b_harmed b_raged, xI cy ((M 2)) 39 b_now, xI cy ((M 4)) 273 b_minds] → lv_has ls 6 [(0, .ref ((M 0))), (1, .int ((1 : Int32))), (2, .int v2), (3, .int (bI v3)), (4, .int v4)] → W p l e zr_X8_chance_l1 s m args below meth c H locs 0 0 Q (F0 m 49 ls [])), ∀ (v2 : Int32) (v3 : Bool) (v4 : Int32) (t0 : Bool) (t1 : Int32) (b_now : Nat → Int32) (b_minds : Nat → Int32) (b_fled : Bool) (b_harmed : Int64) (b_raged : Int64) (H : Heap) (locs : List Loc) (ls : Array Slot), zf_X8_chance_l1_86 k49 v2 v3 v4 t0 t1 b_now b_minds b_fled b_harmed b_raged = some res → zWd G A s.heap H locs [xM M b_isKept b_size b_at b_from b_sort b_fled b_flights b_firstFlight b_bestHarms b_bestRage b_harmed b_raged, xI cy ((M 2)) 39 b_now, xI cy ((M 4)) 273 b_minds] → lv_has ls 6 [(0, .ref ((M 0))), (1, .int ((1 : Int32))), (2, .int v2), (3, .int (bI v3)), (4, .int v4)] → W p l e zr_X8_chance_l1 s m args below meth c H locs 0 0 Q (F0 m 86 ls [.int (bI t0), .int t1, .int ((2 : Int32)), .ref ((M 0))]) := by
    intro k49 K49 v2 v3 v4 t0 t1 b_now b_minds b_fled b_harmed b_raged H locs ls hf hw hl
    rw [zf_X8_chance_l1_86] at hf
    obtain ⟨u9, u9e, hf⟩ := bd hf
    refine zk_cV (pc := 86) (ci := 8) (q0 := 0) (rest := []) (st1 := []) (w' := [xM M b_isKept b_size b_at b_from b_sort u9.2.2.1 b_flights b_firstFlight b_bestHarms b_bestRage u9.2.2.2.1 u9.2.2.2.2, xI cy ((M 2)) 39 u9.1, xI cy ((M 4)) 273 u9.2.1]) (mk := [some (xM M b_isKept b_size b_at b_from b_sort u9.2.2.1 b_flights b_firstFlight b_bestHarms b_bestRage u9.2.2.2.1 u9.2.2.2.2), some (xI cy ((M 2)) 39 u9.1), some (xI cy ((M 4)) 273 u9.2.1)]) C hw (c_X8_chance_l2 l G cy tt M b_isKept b_size b_at b_from b_sort b_flights b_firstFlight b_bestHarms b_bestRage t1 t0 b_now b_minds b_fled b_harmed b_raged _ u9e) zy_X8_chance zm_X8_274 rfl rfl rfl [0, 1, 2] rfl rfl rfl rfl rfl rfl rfl rfl hl.1 ⟨rfl, rfl⟩ ⟨Nat.le_of_ble_eq_true rfl, Nat.le_of_ble_eq_true rfl⟩ rfl (Nat.le_of_ble_eq_true rfl) ⟨Nat.zero_le _, Nat.zero_le _⟩ dX8_chance_86 (fun H locs hw => ?_)
    refine lv_aload_n (pc := 89) hx hb dX8_chance_89 rfl (lv_at hl 0 rfl) ?_
    refine lv_iload_n (pc := 90) hx hb dX8_chance_90 rfl (lv_at hl 1 rfl) ?_
    obtain ⟨u10, u10e, hf⟩ := bd hf
    refine zk_cV (pc := 91) (ci := 8) (q0 := 0) (rest := []) (st1 := []) (w' := [xM M b_isKept b_size b_at b_from b_sort u9.2.2.1 b_flights b_firstFlight b_bestHarms b_bestRage u9.2.2.2.1 u9.2.2.2.2, xI cy ((M 2)) 39 u10, xI cy ((M 4)) 273 u9.2.1]) (mk := [none, some (xI cy ((M 2)) 39 u10), none]) C hw (c_X8_lay l G cy tt M b_isKept b_size b_at b_from b_sort u9.2.2.1 b_flights b_firstFlight b_bestHarms b_bestRage u9.2.2.2.1 u9.2.2.2.2 (((1 : Int32))) u9.1 u9.2.1 _ u10e) zy_X8_lay zm_X8_150 rfl rfl rfl [0, 1, 2] rfl rfl rfl rfl rfl rfl rfl rfl hl.1 ⟨rfl, rfl⟩ ⟨Nat.le_of_ble_eq_true rfl, Nat.le_of_ble_eq_true rfl⟩ rfl (Nat.le_of_ble_eq_true rfl) ⟨Nat.zero_le _, Nat.zero_le _⟩ dX8_chance_91 (fun H locs hw => ?_)
    refine lv_iinc (pc := 94) (v := (v4 + 1)) (lv' := [(4, .int ((v4 + 1))), (0, .ref ((M 0))), (1, .int ((1 : Int32))), (2, .int v2), (3, .int (bI v3))]) hx hb dX8_chance_94 hl (k := 4) rfl rfl (by decide) rfl (fun ls hl => ?_)
    refine lv_goto (pc := 97) (tgt := 49) hx hb dX8_chance_97 (by decide) ?_
    exact K49 v2 v3 ((v4 + 1)) u10 u9.2.1 u9.2.2.1 u9.2.2.2.1 u9.2.2.2.2 _ _ _ hf hw (lv_sub hl [1, 2, 3, 4, 0] rfl)
  have J81 : ∀ (k49 : Int32 → Bool → Int32 → (Nat → Int32) → (Nat → Int32) → Bool → Int64 → Int64 → Option ((Nat → Int32) × (Nat → Int32) × Bool × Int64 × Int64)) (K49 : ∀ (v2 : Int32) (v3 : Bool) (v4 : Int32) (b_now : Nat → Int32) (b_minds : Nat → Int32) (b_fled : Bool) (b_harmed : Int64) (b_raged : Int64) (H : Heap) (locs : List Loc) (ls : Array Slot), k49 v2 v3 v4 b_now b_minds b_fled b_harmed b_raged = some res → zWd G A s.heap H locs [xM M b_isKept b_size b_at b_from b_sort b_fled b_flights b_firstFlight b_bestHarms b_bestRage b_harmed b_raged, xI cy ((M 2)) 39 b_now, xI cy ((M 4)) 273 b_minds] → lv_has ls 6 [(0, .ref ((M 0))), (1, .int ((1 : Int32))), (2, .int v2), (3, .int (bI v3)), (4, .int v4)] → W p l e zr_X8_chance_l1 s m args below meth c H locs 0 0 Q (F0 m 49 ls [])), ∀ (v2 : Int32) (v3 : Bool) (v4 : Int32) (t0 : Int32) (b_now : Nat → Int32) (b_minds : Nat → Int32) (b_fled : Bool) (b_harmed : Int64) (b_raged : Int64) (H : Heap) (locs : List Loc) (ls : Array Slot), zf_X8_chance_l1_81 k49 v2 v3 v4 t0 b_now b_minds b_fled b_harmed b_raged = some res → zWd G A s.heap H locs [xM M b_isKept b_size b_at b_from b_sort b_fled b_flights b_firstFlight b_bestHarms b_bestRage b_harmed b_raged, xI cy ((M 2)) 39 b_now, xI cy ((M 4)) 273 b_minds] → lv_has ls 6 [(0, .ref ((M 0))), (1, .int ((1 : Int32))), (2, .int v2), (3, .int (bI v3)), (4, .int v4)] → W p l e zr_X8_chance_l1 s m args below meth c H locs 0 0 Q (F0 m 81 ls [.int t0, .int ((2 : Int32)), .ref ((M 0))]) := by
    intro k49 K49 v2 v3 v4 t0 b_now b_minds b_fled b_harmed b_raged H locs ls hf hw hl
    rw [zf_X8_chance_l1_81] at hf
    refine lv_iconst (pc := 81) (v := 1) hx hb dX8_chance_81 (by decide) ?_
    refine lv_goto (pc := 82) (tgt := 86) hx hb dX8_chance_82 (by decide) ?_
    exact J86 k49 K49 v2 v3 v4 true t0 b_now b_minds b_fled b_harmed b_raged _ _ _ hf hw (lv_sub hl [0, 1, 2, 3, 4] rfl)
  have J49 : ∀ (n : Nat), ∀ (v2 : Int32) (v3 : Bool) (v4 : Int32) (b_now : Nat → Int32) (b_minds : Nat → Int32) (b_fled : Bool) (b_harmed : Int64) (b_raged : Int64) (H : Heap) (locs : List Loc) (ls : Array Slot), zf_X8_chance_l1_49 n v2 v3 v4 b_now b_minds b_fled b_harmed b_raged = some res → zWd G A s.heap H locs [xM M b_isKept b_size b_at b_from b_sort b_fled b_flights b_firstFlight b_bestHarms b_bestRage b_harmed b_raged, xI cy ((M 2)) 39 b_now, xI cy ((M 4)) 273 b_minds] → lv_has ls 6 [(0, .ref ((M 0))), (1, .int ((1 : Int32))), (2, .int v2), (3, .int (bI v3)), (4, .int v4)] → W p l e zr_X8_chance_l1 s m args below meth c H locs 0 0 Q (F0 m 49 ls []) := by
    intro n
    induction n with
    | zero =>
      intro v2 v3 v4 b_now b_minds b_fled b_harmed b_raged H locs ls hf hw hl
      rw [zf_X8_chance_l1_49] at hf
      cases hf
    | succ n ih =>
      intro v2 v3 v4 b_now b_minds b_fled b_harmed b_raged H locs ls hf hw hl
      rw [zf_X8_chance_l1_49] at hf
      refine lv_iload (pc := 49) hx hb dX8_chance_49 (lv_at hl 4 rfl) ?_
      refine lv_aload_n (pc := 51) hx hb dX8_chance_51 rfl (lv_at hl 0 rfl) ?_
      obtain ⟨u4, u4e, hf⟩ := bd hf
      refine zk_cV (pc := 52) (ci := 8) (q0 := 0) (rest := [.int v4]) (st1 := [.int u4, .int v4]) (w' := [xM M b_isKept b_size b_at b_from b_sort b_fled b_flights b_firstFlight b_bestHarms b_bestRage b_harmed b_raged, xI cy ((M 2)) 39 b_now, xI cy ((M 4)) 273 b_minds]) (mk := [none, none, none]) C hw (c_X8_many l G cy tt M b_isKept b_size b_at b_from b_sort b_fled b_flights b_firstFlight b_bestHarms b_bestRage b_harmed b_raged b_now _ u4e) zy_X8_many zm_X8_80 rfl rfl rfl [0, 1] rfl rfl rfl rfl rfl rfl rfl rfl hl.1 ⟨rfl, rfl⟩ ⟨Nat.le_of_ble_eq_true rfl, Nat.le_of_ble_eq_true rfl⟩ rfl (Nat.le_of_ble_eq_true rfl) ⟨Nat.zero_le _, Nat.zero_le _⟩ dX8_chance_52 (fun H locs hw => ?_)
      refine lv_icmp_ge (pc := 55) (tgt := 100) hx hb dX8_chance_55 (by decide) (fun q5 => ?_) (fun q5 => ?_)
      · replace hf := if_t q5 hf
        have hf := Option.some.inj hf
        subst hf
        exact zk_retv (pc := 100) (ww := [xM M b_isKept b_size b_at b_from b_sort b_fled b_flights b_firstFlight b_bestHarms b_bestRage b_harmed b_raged, xI cy ((M 2)) 39 b_now, xI cy ((M 4)) 273 b_minds]) C hw hr hQ dX8_chance_100
      · replace hf := if_f q5 hf
        refine lv_aload_n (pc := 58) hx hb dX8_chance_58 rfl (lv_at hl 0 rfl) ?_
        refine lv_iload (pc := 59) hx hb dX8_chance_59 (lv_at hl 4 rfl) ?_
        obtain ⟨u6, u6e, hf⟩ := bd hf
        refine zk_cV (pc := 61) (ci := 8) (q0 := 0) (rest := []) (st1 := [.int u6.1]) (w' := [xM M b_isKept b_size b_at b_from b_sort u6.2.2 b_flights b_firstFlight b_bestHarms b_bestRage b_harmed b_raged, xI cy ((M 2)) 39 u6.2.1, xI cy ((M 4)) 273 b_minds]) (mk := [some (xM M b_isKept b_size b_at b_from b_sort u6.2.2 b_flights b_firstFlight b_bestHarms b_bestRage b_harmed b_raged), some (xI cy ((M 2)) 39 u6.2.1), none]) C hw (c_X8_step l G cy tt M b_isKept b_size b_at b_from b_sort b_flights b_firstFlight b_bestHarms b_bestRage b_harmed b_raged v4 b_now b_fled _ u6e) zy_X8_step zm_X8_181 rfl rfl rfl [0, 1] rfl rfl rfl rfl rfl rfl rfl rfl hl.1 ⟨rfl, rfl⟩ ⟨Nat.le_of_ble_eq_true rfl, Nat.le_of_ble_eq_true rfl⟩ rfl (Nat.le_of_ble_eq_true rfl) ⟨Nat.zero_le _, Nat.zero_le _⟩ dX8_chance_61 (fun H locs hw => ?_)
        refine lv_istore (pc := 64) (lv' := [(5, .int u6.1), (0, .ref ((M 0))), (1, .int ((1 : Int32))), (2, .int v2), (3, .int (bI v3)), (4, .int v4)]) hx hb dX8_chance_64 hl (by decide) rfl (fun ls hl => ?_)
        refine lv_aload_n (pc := 66) hx hb dX8_chance_66 rfl (lv_at hl 1 rfl) ?_
        refine lv_iload_n (pc := 67) hx hb dX8_chance_67 rfl (lv_at hl 2 rfl) ?_
        refine lv_iconst (pc := 68) (v := 1) hx hb dX8_chance_68 (by decide) ?_
        refine lv_iadd (pc := 69) hx hb dX8_chance_69 ?_
        refine zk_eqi (v := 2) (by decide) ?_
        refine lv_iload_n (pc := 70) hx hb dX8_chance_70 rfl (lv_at hl 3 rfl) ?_
        refine lv_iload_n (pc := 71) hx hb dX8_chance_71 rfl (lv_at hl 4 rfl) ?_
        refine zk_ifnz (pc := 72) (tgt := 81) hx hb dX8_chance_72 (by decide) (fun q7 => ?_) (fun q7 => ?_)
        · replace hf := if_t q7 hf
          exact J81 (zf_X8_chance_l1_49 n) ih v2 v3 v4 v2 u6.2.1 b_minds u6.2.2 b_harmed b_raged _ _ _ hf hw (lv_sub hl [1, 2, 3, 4, 5] rfl)
        · replace hf := if_f q7 hf
          refine lv_iload (pc := 75) hx hb dX8_chance_75 (lv_at hl 0 rfl) ?_
          refine lv_iconst (pc := 77) (v := 1) hx hb dX8_chance_77 (by decide) ?_
          refine lv_icmp_ne (pc := 78) (tgt := 85) hx hb dX8_chance_78 (by decide) (fun q8 => ?_) (fun q8 => ?_)
          · replace hf := if_f q8 hf
            refine lv_iconst (pc := 85) (v := 0) hx hb dX8_chance_85 (by decide) ?_
            exact J86 (zf_X8_chance_l1_49 n) ih v2 v3 v4 false v2 u6.2.1 b_minds u6.2.2 b_harmed b_raged _ _ _ hf hw (lv_sub hl [1, 2, 3, 4, 5] rfl)
          · replace hf := if_t q8 hf
            exact J81 (zf_X8_chance_l1_49 n) ih v2 v3 v4 v2 u6.2.1 b_minds u6.2.2 b_harmed b_raged _ _ _ hf hw (lv_sub hl [1, 2, 3, 4, 5] rfl)
  rw [zf_X8_chance_l1] at hf
  refine lv_iload_n (pc := 0) hx hb dX8_chance_0 rfl (lv_at hl 1 rfl) ?_
  refine lv_iload_n (pc := 1) hx hb dX8_chance_1 rfl (lv_at hl 2 rfl) ?_
  refine lv_icmp_ne (pc := 2) (tgt := 41) hx hb dX8_chance_2 (by decide) (fun q1 => ?_) (fun q1 => ?_)
  · replace hf := if_f q1 hf
    refine lv_aload_n (pc := 41) hx hb dX8_chance_41 rfl (lv_at hl 0 rfl) ?_
    refine lv_iload_n (pc := 42) hx hb dX8_chance_42 rfl (lv_at hl 1 rfl) ?_
    obtain ⟨u2, u2e, hf⟩ := bd hf
    refine zk_cV (pc := 43) (ci := 8) (q0 := 0) (rest := []) (st1 := []) (w' := [xM M b_isKept b_size b_at b_from b_sort b_fled b_flights b_firstFlight b_bestHarms b_bestRage b_harmed b_raged, xI cy ((M 2)) 39 b_now, xI cy ((M 4)) 273 u2]) (mk := [none, none, some (xI cy ((M 4)) 273 u2)]) C hw (c_X8_keep l G cy tt M b_isKept b_size b_at b_from b_sort b_fled b_flights b_firstFlight b_bestHarms b_bestRage b_harmed b_raged (((1 : Int32))) b_now b_minds _ u2e) zy_X8_keep zm_X8_142 rfl rfl rfl [0, 1, 2] rfl rfl rfl rfl rfl rfl rfl rfl hl.1 ⟨rfl, rfl⟩ ⟨Nat.le_of_ble_eq_true rfl, Nat.le_of_ble_eq_true rfl⟩ rfl (Nat.le_of_ble_eq_true rfl) ⟨Nat.zero_le _, Nat.zero_le _⟩ dX8_chance_43 (fun H locs hw => ?_)
    refine lv_iconst (pc := 46) (v := 0) hx hb dX8_chance_46 (by decide) ?_
    refine lv_istore (pc := 47) (lv' := [(4, .int ((0 : Int32))), (0, .ref ((M 0))), (1, .int ((1 : Int32))), (2, .int x2), (3, .int (bI x3))]) hx hb dX8_chance_47 hl (by decide) rfl (fun ls hl => ?_)
    exact J49 FU x2 x3 ((0 : Int32)) b_now u2 b_fled b_harmed b_raged _ _ _ hf hw (lv_sub hl [1, 2, 3, 4, 0] rfl)
  · replace hf := if_t q1 hf
    refine lv_aload_n (pc := 5) hx hb dX8_chance_5 rfl (lv_at hl 0 rfl) ?_
    refine lv_dup (pc := 6) hx hb dX8_chance_6 rfl ?_
    refine zk_gt (pc := 7) C hw zl_X8_267 0 rfl rfl dX8_chance_7 ?_
    refine lv_iload_n (pc := 10) hx hb dX8_chance_10 rfl (lv_at hl 3 rfl) ?_
    refine zk_ifz (pc := 11) (tgt := 18) hx hb dX8_chance_11 (by decide) (fun q3 => ?_) (fun q3 => ?_)
    · replace hf := if_f q3 hf
      refine lv_lconst (pc := 18) (v := 0) hx hb dX8_chance_18 (by decide) ?_
      exact J19 ((0 : Int64)) b_harmed b_now b_minds b_fled b_harmed b_raged _ _ _ hf hw (lv_sub hl [0] rfl)
    · replace hf := if_t q3 hf
      refine lv_lconst (pc := 14) (v := 1) hx hb dX8_chance_14 (by decide) ?_
      refine lv_goto (pc := 15) (tgt := 19) hx hb dX8_chance_15 (by decide) ?_
      exact J19 ((1 : Int64)) b_harmed b_now b_minds b_fled b_harmed b_raged _ _ _ hf hw (lv_sub hl [0] rfl)
def zf_X8_chance_l0_19 (t0 : Int64) (t1 : Int64) (b_now : Nat → Int32) (b_minds : Nat → Int32) (b_fled : Bool) (b_harmed : Int64) (b_raged : Int64) : Option ((Nat → Int32) × (Nat → Int32) × Bool × Int64 × Int64) := some (b_now, b_minds, b_fled, (t1 + t0), (b_raged + ((b_now 33)).toInt64))
def zf_X8_chance_l0_86 (k49 : Int32 → Bool → Int32 → (Nat → Int32) → (Nat → Int32) → Bool → Int64 → Int64 → Option ((Nat → Int32) × (Nat → Int32) × Bool × Int64 × Int64)) (v2 : Int32) (v3 : Bool) (v4 : Int32) (t0 : Bool) (t1 : Int32) (b_now : Nat → Int32) (b_minds : Nat → Int32) (b_fled : Bool) (b_harmed : Int64) (b_raged : Int64) : Option ((Nat → Int32) × (Nat → Int32) × Bool × Int64 × Int64) := (Option.bind (zf_X8_chance_l1 t1 t0 b_now b_minds b_fled b_harmed b_raged) (fun u9 => (Option.bind (zf_X8_lay (((0 : Int32))) u9.1 u9.2.1) (fun u10 => k49 v2 v3 ((v4 + 1)) u10 u9.2.1 u9.2.2.1 u9.2.2.2.1 u9.2.2.2.2))))
def zf_X8_chance_l0_81 (k49 : Int32 → Bool → Int32 → (Nat → Int32) → (Nat → Int32) → Bool → Int64 → Int64 → Option ((Nat → Int32) × (Nat → Int32) × Bool × Int64 × Int64)) (v2 : Int32) (v3 : Bool) (v4 : Int32) (t0 : Int32) (b_now : Nat → Int32) (b_minds : Nat → Int32) (b_fled : Bool) (b_harmed : Int64) (b_raged : Int64) : Option ((Nat → Int32) × (Nat → Int32) × Bool × Int64 × Int64) := zf_X8_chance_l0_86 k49 v2 v3 v4 true t0 b_now b_minds b_fled b_harmed b_raged
def zf_X8_chance_l0_49 : Nat → Int32 → Bool → Int32 → (Nat → Int32) → (Nat → Int32) → Bool → Int64 → Int64 → Option ((Nat → Int32) × (Nat → Int32) × Bool × Int64 × Int64)
  | 0, _, _, _, _, _, _, _, _ => none
  | n + 1, v2, v3, v4, b_now, b_minds, b_fled, b_harmed, b_raged => (Option.bind (zf_X8_many b_now) (fun u4 => (if u4 ≤ v4 then some (b_now, b_minds, b_fled, b_harmed, b_raged) else (Option.bind (zf_X8_step v4 b_now b_fled) (fun u6 => (if v3 then zf_X8_chance_l0_81 (zf_X8_chance_l0_49 n) v2 v3 v4 v2 u6.2.1 b_minds u6.2.2 b_harmed b_raged else (if u6.1 = (1 : Int32) then zf_X8_chance_l0_81 (zf_X8_chance_l0_49 n) v2 v3 v4 v2 u6.2.1 b_minds u6.2.2 b_harmed b_raged else zf_X8_chance_l0_86 (zf_X8_chance_l0_49 n) v2 v3 v4 false v2 u6.2.1 b_minds u6.2.2 b_harmed b_raged)))))))
def zf_X8_chance_l0 (x2 : Int32) (x3 : Bool) (b_now : Nat → Int32) (b_minds : Nat → Int32) (b_fled : Bool) (b_harmed : Int64) (b_raged : Int64) : Option ((Nat → Int32) × (Nat → Int32) × Bool × Int64 × Int64) := (if (0 : Int32) = x2 then (if x3 then zf_X8_chance_l0_19 ((1 : Int64)) b_harmed b_now b_minds b_fled b_harmed b_raged else zf_X8_chance_l0_19 ((0 : Int64)) b_harmed b_now b_minds b_fled b_harmed b_raged) else (Option.bind (zf_X8_keep (((0 : Int32))) b_now b_minds) (fun u2 => zf_X8_chance_l0_49 FU x2 x3 ((0 : Int32)) b_now u2 b_fled b_harmed b_raged)))
abbrev zr_X8_chance_l0 : Room := { frames := 6, cells := 0, slots := 0, locals := 140 }
set_option maxHeartbeats 4000000 in
set_option maxRecDepth 100000 in
theorem c_X8_chance_l0 (l : Launch) (G : va_G) (cy : Nat → ClassId) (tt : Nat → Nat) (M : Nat → Nat) (b_isKept : Bool) (b_size : Int32) (b_at : Int32) (b_from : Int32) (b_sort : Int32) (b_flights : Int32) (b_firstFlight : Int32) (b_bestHarms : Int32) (b_bestRage : Int32) (x2 : Int32) (x3 : Bool) (b_now : Nat → Int32) (b_minds : Nat → Int32) (b_fled : Bool) (b_harmed : Int64) (b_raged : Int64) (res : (Nat → Int32) × (Nat → Int32) × Bool × Int64 × Int64) (hf : zf_X8_chance_l0 x2 x3 b_now b_minds b_fled b_harmed b_raged = some res) : zCT l yX8_chance cX8_chance 6 none zr_X8_chance_l0 G cy tt [.ref ((M 0)), .int ((0 : Int32)), .int x2, .int (bI x3)] [xM M b_isKept b_size b_at b_from b_sort b_fled b_flights b_firstFlight b_bestHarms b_bestRage b_harmed b_raged, xI cy ((M 2)) 39 b_now, xI cy ((M 4)) 273 b_minds] none [xM M b_isKept b_size b_at b_from b_sort res.2.2.1 b_flights b_firstFlight b_bestHarms b_bestRage res.2.2.2.1 res.2.2.2.2, xI cy ((M 2)) 39 res.1, xI cy ((M 4)) 273 res.2.1] := by
  refine zk_start zn_X8 (Nat.le_of_ble_eq_true rfl) ?_
  intro p e s m args below meth c A ls Q C hr hQ hw hl
  have C : zCx p m c s args meth cX8_chance 6 RX8 G cy tt A := C
  have hx := C.1.1
  have hb := C.1.2.1
  have hl : lv_has ls 6 [(0, .ref ((M 0))), (1, .int ((0 : Int32))), (2, .int x2), (3, .int (bI x3))] := hl
  have J19 : ∀ (t0 : Int64) (t1 : Int64) (b_now : Nat → Int32) (b_minds : Nat → Int32) (b_fled : Bool) (b_harmed : Int64) (b_raged : Int64) (H : Heap) (locs : List Loc) (ls : Array Slot), zf_X8_chance_l0_19 t0 t1 b_now b_minds b_fled b_harmed b_raged = some res → zWd G A s.heap H locs [xM M b_isKept b_size b_at b_from b_sort b_fled b_flights b_firstFlight b_bestHarms b_bestRage b_harmed b_raged, xI cy ((M 2)) 39 b_now, xI cy ((M 4)) 273 b_minds] → lv_has ls 6 [(0, .ref ((M 0)))] → W p l e zr_X8_chance_l0 s m args below meth c H locs 0 0 Q (F0 m 19 ls [.long t0, .long t1, .ref ((M 0))]) := by
    intro t0 t1 b_now b_minds b_fled b_harmed b_raged H locs ls hf hw hl
    rw [zf_X8_chance_l0_19] at hf
    refine lv_ladd (pc := 19) hx hb dX8_chance_19 ?_
    refine zk_put (pc := 20) (w' := [xM M b_isKept b_size b_at b_from b_sort b_fled b_flights b_firstFlight b_bestHarms b_bestRage ((t1 + t0)) b_raged, xI cy ((M 2)) 39 b_now, xI cy ((M 4)) 273 b_minds]) C hw zp_X8_267 0 rfl rfl rfl (Nat.le_of_ble_eq_true rfl) rfl dX8_chance_20 (fun H locs hw => ?_)
    refine lv_aload_n (pc := 23) hx hb dX8_chance_23 rfl (lv_at hl 0 rfl) ?_
    refine lv_dup (pc := 24) hx hb dX8_chance_24 rfl ?_
    refine zk_gt (pc := 25) C hw zl_X8_271 0 rfl rfl dX8_chance_25 ?_
    refine lv_aload_n (pc := 28) hx hb dX8_chance_28 rfl (lv_at hl 0 rfl) ?_
    refine zk_gt (pc := 29) C hw zl_X8_17 0 rfl rfl dX8_chance_29 ?_
    refine lv_bipush (pc := 32) (v := 33) hx hb dX8_chance_32 (by decide) ?_
    refine zk_ialdK (pc := 34) 33 (by decide) C hw 1 rfl (by decide) dX8_chance_34 ?_
    refine lv_i2l (pc := 35) (v := ((b_now 33)).toInt64) hx hb dX8_chance_35 rfl ?_
    refine lv_ladd (pc := 36) hx hb dX8_chance_36 ?_
    refine zk_put (pc := 37) (w' := [xM M b_isKept b_size b_at b_from b_sort b_fled b_flights b_firstFlight b_bestHarms b_bestRage ((t1 + t0)) ((b_raged + ((b_now 33)).toInt64)), xI cy ((M 2)) 39 b_now, xI cy ((M 4)) 273 b_minds]) C hw zp_X8_271 0 rfl rfl rfl (Nat.le_of_ble_eq_true rfl) rfl dX8_chance_37 (fun H locs hw => ?_)
    have hf := Option.some.inj hf
    subst hf
    exact zk_retv (pc := 40) (ww := [xM M b_isKept b_size b_at b_from b_sort b_fled b_flights b_firstFlight b_bestHarms b_bestRage ((t1 + t0)) ((b_raged + ((b_now 33)).toInt64)), xI cy ((M 2)) 39 b_now, xI cy ((M 4)) 273 b_minds]) C hw hr hQ dX8_chance_40
  have J86 : ∀ (k49 : Int32 → Bool → Int32 → (Nat → Int32) → (Nat → Int32) → Bool → Int64 → Int64 → Option ((Nat → Int32) × (Nat → Int32) × Bool × Int64 × Int64)) (K49 : ∀ (v2 : Int32) (v3 : Bool) (v4 : Int32) (b_now : Nat → Int32) (b_minds : Nat → Int32) (b_fled : Bool) (b_harmed : Int64) (b_raged : Int64) (H : Heap) (locs : List Loc) (ls : Array Slot), k49 v2 v3 v4 b_now b_minds b_fled b_harmed b_raged = some res → zWd G A s.heap H locs [xM M b_isKept b_size b_at b_from b_sort b_fled b_flights b_firstFlight b_bestHarms b_bestRage b_harmed b_raged, xI cy ((M 2)) 39 b_now, xI cy ((M 4)) 273 b_minds] → lv_has ls 6 [(0, .ref ((M 0))), (1, .int ((0 : Int32))), (2, .int v2), (3, .int (bI v3)), (4, .int v4)] → W p l e zr_X8_chance_l0 s m args below meth c H locs 0 0 Q (F0 m 49 ls [])), ∀ (v2 : Int32) (v3 : Bool) (v4 : Int32) (t0 : Bool) (t1 : Int32) (b_now : Nat → Int32) (b_minds : Nat → Int32) (b_fled : Bool) (b_harmed : Int64) (b_raged : Int64) (H : Heap) (locs : List Loc) (ls : Array Slot), zf_X8_chance_l0_86 k49 v2 v3 v4 t0 t1 b_now b_minds b_fled b_harmed b_raged = some res → zWd G A s.heap H locs [xM M b_isKept b_size b_at b_from b_sort b_fled b_flights b_firstFlight b_bestHarms b_bestRage b_harmed b_raged, xI cy ((M 2)) 39 b_now, xI cy ((M 4)) 273 b_minds] → lv_has ls 6 [(0, .ref ((M 0))), (1, .int ((0 : Int32))), (2, .int v2), (3, .int (bI v3)), (4, .int v4)] → W p l e zr_X8_chance_l0 s m args below meth c H locs 0 0 Q (F0 m 86 ls [.int (bI t0), .int t1, .int ((1 : Int32)), .ref ((M 0))]) := by
    intro k49 K49 v2 v3 v4 t0 t1 b_now b_minds b_fled b_harmed b_raged H locs ls hf hw hl
    rw [zf_X8_chance_l0_86] at hf
    obtain ⟨u9, u9e, hf⟩ := bd hf
    refine zk_cV (pc := 86) (ci := 8) (q0 := 0) (rest := []) (st1 := []) (w' := [xM M b_isKept b_size b_at b_from b_sort u9.2.2.1 b_flights b_firstFlight b_bestHarms b_bestRage u9.2.2.2.1 u9.2.2.2.2, xI cy ((M 2)) 39 u9.1, xI cy ((M 4)) 273 u9.2.1]) (mk := [some (xM M b_isKept b_size b_at b_from b_sort u9.2.2.1 b_flights b_firstFlight b_bestHarms b_bestRage u9.2.2.2.1 u9.2.2.2.2), some (xI cy ((M 2)) 39 u9.1), some (xI cy ((M 4)) 273 u9.2.1)]) C hw (c_X8_chance_l1 l G cy tt M b_isKept b_size b_at b_from b_sort b_flights b_firstFlight b_bestHarms b_bestRage t1 t0 b_now b_minds b_fled b_harmed b_raged _ u9e) zy_X8_chance zm_X8_274 rfl rfl rfl [0, 1, 2] rfl rfl rfl rfl rfl rfl rfl rfl hl.1 ⟨rfl, rfl⟩ ⟨Nat.le_of_ble_eq_true rfl, Nat.le_of_ble_eq_true rfl⟩ rfl (Nat.le_of_ble_eq_true rfl) ⟨Nat.zero_le _, Nat.zero_le _⟩ dX8_chance_86 (fun H locs hw => ?_)
    refine lv_aload_n (pc := 89) hx hb dX8_chance_89 rfl (lv_at hl 0 rfl) ?_
    refine lv_iload_n (pc := 90) hx hb dX8_chance_90 rfl (lv_at hl 1 rfl) ?_
    obtain ⟨u10, u10e, hf⟩ := bd hf
    refine zk_cV (pc := 91) (ci := 8) (q0 := 0) (rest := []) (st1 := []) (w' := [xM M b_isKept b_size b_at b_from b_sort u9.2.2.1 b_flights b_firstFlight b_bestHarms b_bestRage u9.2.2.2.1 u9.2.2.2.2, xI cy ((M 2)) 39 u10, xI cy ((M 4)) 273 u9.2.1]) (mk := [none, some (xI cy ((M 2)) 39 u10), none]) C hw (c_X8_lay l G cy tt M b_isKept b_size b_at b_from b_sort u9.2.2.1 b_flights b_firstFlight b_bestHarms b_bestRage u9.2.2.2.1 u9.2.2.2.2 (((0 : Int32))) u9.1 u9.2.1 _ u10e) zy_X8_lay zm_X8_150 rfl rfl rfl [0, 1, 2] rfl rfl rfl rfl rfl rfl rfl rfl hl.1 ⟨rfl, rfl⟩ ⟨Nat.le_of_ble_eq_true rfl, Nat.le_of_ble_eq_true rfl⟩ rfl (Nat.le_of_ble_eq_true rfl) ⟨Nat.zero_le _, Nat.zero_le _⟩ dX8_chance_91 (fun H locs hw => ?_)
    refine lv_iinc (pc := 94) (v := (v4 + 1)) (lv' := [(4, .int ((v4 + 1))), (0, .ref ((M 0))), (1, .int ((0 : Int32))), (2, .int v2), (3, .int (bI v3))]) hx hb dX8_chance_94 hl (k := 4) rfl rfl (by decide) rfl (fun ls hl => ?_)
    refine lv_goto (pc := 97) (tgt := 49) hx hb dX8_chance_97 (by decide) ?_
    exact K49 v2 v3 ((v4 + 1)) u10 u9.2.1 u9.2.2.1 u9.2.2.2.1 u9.2.2.2.2 _ _ _ hf hw (lv_sub hl [1, 2, 3, 4, 0] rfl)
  have J81 : ∀ (k49 : Int32 → Bool → Int32 → (Nat → Int32) → (Nat → Int32) → Bool → Int64 → Int64 → Option ((Nat → Int32) × (Nat → Int32) × Bool × Int64 × Int64)) (K49 : ∀ (v2 : Int32) (v3 : Bool) (v4 : Int32) (b_now : Nat → Int32) (b_minds : Nat → Int32) (b_fled : Bool) (b_harmed : Int64) (b_raged : Int64) (H : Heap) (locs : List Loc) (ls : Array Slot), k49 v2 v3 v4 b_now b_minds b_fled b_harmed b_raged = some res → zWd G A s.heap H locs [xM M b_isKept b_size b_at b_from b_sort b_fled b_flights b_firstFlight b_bestHarms b_bestRage b_harmed b_raged, xI cy ((M 2)) 39 b_now, xI cy ((M 4)) 273 b_minds] → lv_has ls 6 [(0, .ref ((M 0))), (1, .int ((0 : Int32))), (2, .int v2), (3, .int (bI v3)), (4, .int v4)] → W p l e zr_X8_chance_l0 s m args below meth c H locs 0 0 Q (F0 m 49 ls [])), ∀ (v2 : Int32) (v3 : Bool) (v4 : Int32) (t0 : Int32) (b_now : Nat → Int32) (b_minds : Nat → Int32) (b_fled : Bool) (b_harmed : Int64) (b_raged : Int64) (H : Heap) (locs : List Loc) (ls : Array Slot), zf_X8_chance_l0_81 k49 v2 v3 v4 t0 b_now b_minds b_fled b_harmed b_raged = some res → zWd G A s.heap H locs [xM M b_isKept b_size b_at b_from b_sort b_fled b_flights b_firstFlight b_bestHarms b_bestRage b_harmed b_raged, xI cy ((M 2)) 39 b_now, xI cy ((M 4)) 273 b_minds] → lv_has ls 6 [(0, .ref ((M 0))), (1, .int ((0 : Int32))), (2, .int v2), (3, .int (bI v3)), (4, .int v4)] → W p l e zr_X8_chance_l0 s m args below meth c H locs 0 0 Q (F0 m 81 ls [.int t0, .int ((1 : Int32)), .ref ((M 0))]) := by
    intro k49 K49 v2 v3 v4 t0 b_now b_minds b_fled b_harmed b_raged H locs ls hf hw hl
    rw [zf_X8_chance_l0_81] at hf
    refine lv_iconst (pc := 81) (v := 1) hx hb dX8_chance_81 (by decide) ?_
    refine lv_goto (pc := 82) (tgt := 86) hx hb dX8_chance_82 (by decide) ?_
    exact J86 k49 K49 v2 v3 v4 true t0 b_now b_minds b_fled b_harmed b_raged _ _ _ hf hw (lv_sub hl [0, 1, 2, 3, 4] rfl)
  have J49 : ∀ (n : Nat), ∀ (v2 : Int32) (v3 : Bool) (v4 : Int32) (b_now : Nat → Int32) (b_minds : Nat → Int32) (b_fled : Bool) (b_harmed : Int64) (b_raged : Int64) (H : Heap) (locs : List Loc) (ls : Array Slot), zf_X8_chance_l0_49 n v2 v3 v4 b_now b_minds b_fled b_harmed b_raged = some res → zWd G A s.heap H locs [xM M b_isKept b_size b_at b_from b_sort b_fled b_flights b_firstFlight b_bestHarms b_bestRage b_harmed b_raged, xI cy ((M 2)) 39 b_now, xI cy ((M 4)) 273 b_minds] → lv_has ls 6 [(0, .ref ((M 0))), (1, .int ((0 : Int32))), (2, .int v2), (3, .int (bI v3)), (4, .int v4)] → W p l e zr_X8_chance_l0 s m args below meth c H locs 0 0 Q (F0 m 49 ls []) := by
    intro n
    induction n with
    | zero =>
      intro v2 v3 v4 b_now b_minds b_fled b_harmed b_raged H locs ls hf hw hl
      rw [zf_X8_chance_l0_49] at hf
      cases hf
    | succ n ih =>
      intro v2 v3 v4 b_now b_minds b_fled b_harmed b_raged H locs ls hf hw hl
      rw [zf_X8_chance_l0_49] at hf
      refine lv_iload (pc := 49) hx hb dX8_chance_49 (lv_at hl 4 rfl) ?_
      refine lv_aload_n (pc := 51) hx hb dX8_chance_51 rfl (lv_at hl 0 rfl) ?_
      obtain ⟨u4, u4e, hf⟩ := bd hf
      refine zk_cV (pc := 52) (ci := 8) (q0 := 0) (rest := [.int v4]) (st1 := [.int u4, .int v4]) (w' := [xM M b_isKept b_size b_at b_from b_sort b_fled b_flights b_firstFlight b_bestHarms b_bestRage b_harmed b_raged, xI cy ((M 2)) 39 b_now, xI cy ((M 4)) 273 b_minds]) (mk := [none, none, none]) C hw (c_X8_many l G cy tt M b_isKept b_size b_at b_from b_sort b_fled b_flights b_firstFlight b_bestHarms b_bestRage b_harmed b_raged b_now _ u4e) zy_X8_many zm_X8_80 rfl rfl rfl [0, 1] rfl rfl rfl rfl rfl rfl rfl rfl hl.1 ⟨rfl, rfl⟩ ⟨Nat.le_of_ble_eq_true rfl, Nat.le_of_ble_eq_true rfl⟩ rfl (Nat.le_of_ble_eq_true rfl) ⟨Nat.zero_le _, Nat.zero_le _⟩ dX8_chance_52 (fun H locs hw => ?_)
      refine lv_icmp_ge (pc := 55) (tgt := 100) hx hb dX8_chance_55 (by decide) (fun q5 => ?_) (fun q5 => ?_)
      · replace hf := if_t q5 hf
        have hf := Option.some.inj hf
        subst hf
        exact zk_retv (pc := 100) (ww := [xM M b_isKept b_size b_at b_from b_sort b_fled b_flights b_firstFlight b_bestHarms b_bestRage b_harmed b_raged, xI cy ((M 2)) 39 b_now, xI cy ((M 4)) 273 b_minds]) C hw hr hQ dX8_chance_100
      · replace hf := if_f q5 hf
        refine lv_aload_n (pc := 58) hx hb dX8_chance_58 rfl (lv_at hl 0 rfl) ?_
        refine lv_iload (pc := 59) hx hb dX8_chance_59 (lv_at hl 4 rfl) ?_
        obtain ⟨u6, u6e, hf⟩ := bd hf
        refine zk_cV (pc := 61) (ci := 8) (q0 := 0) (rest := []) (st1 := [.int u6.1]) (w' := [xM M b_isKept b_size b_at b_from b_sort u6.2.2 b_flights b_firstFlight b_bestHarms b_bestRage b_harmed b_raged, xI cy ((M 2)) 39 u6.2.1, xI cy ((M 4)) 273 b_minds]) (mk := [some (xM M b_isKept b_size b_at b_from b_sort u6.2.2 b_flights b_firstFlight b_bestHarms b_bestRage b_harmed b_raged), some (xI cy ((M 2)) 39 u6.2.1), none]) C hw (c_X8_step l G cy tt M b_isKept b_size b_at b_from b_sort b_flights b_firstFlight b_bestHarms b_bestRage b_harmed b_raged v4 b_now b_fled _ u6e) zy_X8_step zm_X8_181 rfl rfl rfl [0, 1] rfl rfl rfl rfl rfl rfl rfl rfl hl.1 ⟨rfl, rfl⟩ ⟨Nat.le_of_ble_eq_true rfl, Nat.le_of_ble_eq_true rfl⟩ rfl (Nat.le_of_ble_eq_true rfl) ⟨Nat.zero_le _, Nat.zero_le _⟩ dX8_chance_61 (fun H locs hw => ?_)
        refine lv_istore (pc := 64) (lv' := [(5, .int u6.1), (0, .ref ((M 0))), (1, .int ((0 : Int32))), (2, .int v2), (3, .int (bI v3)), (4, .int v4)]) hx hb dX8_chance_64 hl (by decide) rfl (fun ls hl => ?_)
        refine lv_aload_n (pc := 66) hx hb dX8_chance_66 rfl (lv_at hl 1 rfl) ?_
        refine lv_iload_n (pc := 67) hx hb dX8_chance_67 rfl (lv_at hl 2 rfl) ?_
        refine lv_iconst (pc := 68) (v := 1) hx hb dX8_chance_68 (by decide) ?_
        refine lv_iadd (pc := 69) hx hb dX8_chance_69 ?_
        refine zk_eqi (v := 1) (by decide) ?_
        refine lv_iload_n (pc := 70) hx hb dX8_chance_70 rfl (lv_at hl 3 rfl) ?_
        refine lv_iload_n (pc := 71) hx hb dX8_chance_71 rfl (lv_at hl 4 rfl) ?_
        refine zk_ifnz (pc := 72) (tgt := 81) hx hb dX8_chance_72 (by decide) (fun q7 => ?_) (fun q7 => ?_)
        · replace hf := if_t q7 hf
          exact J81 (zf_X8_chance_l0_49 n) ih v2 v3 v4 v2 u6.2.1 b_minds u6.2.2 b_harmed b_raged _ _ _ hf hw (lv_sub hl [1, 2, 3, 4, 5] rfl)
        · replace hf := if_f q7 hf
          refine lv_iload (pc := 75) hx hb dX8_chance_75 (lv_at hl 0 rfl) ?_
          refine lv_iconst (pc := 77) (v := 1) hx hb dX8_chance_77 (by decide) ?_
          refine lv_icmp_ne (pc := 78) (tgt := 85) hx hb dX8_chance_78 (by decide) (fun q8 => ?_) (fun q8 => ?_)
          · replace hf := if_f q8 hf
            refine lv_iconst (pc := 85) (v := 0) hx hb dX8_chance_85 (by decide) ?_
            exact J86 (zf_X8_chance_l0_49 n) ih v2 v3 v4 false v2 u6.2.1 b_minds u6.2.2 b_harmed b_raged _ _ _ hf hw (lv_sub hl [1, 2, 3, 4, 5] rfl)
          · replace hf := if_t q8 hf
            exact J81 (zf_X8_chance_l0_49 n) ih v2 v3 v4 v2 u6.2.1 b_minds u6.2.2 b_harmed b_raged _ _ _ hf hw (lv_sub hl [1, 2, 3, 4, 5] rfl)
  rw [zf_X8_chance_l0] at hf
  refine lv_iload_n (pc := 0) hx hb dX8_chance_0 rfl (lv_at hl 1 rfl) ?_
  refine lv_iload_n (pc := 1) hx hb dX8_chance_1 rfl (lv_at hl 2 rfl) ?_
  refine lv_icmp_ne (pc := 2) (tgt := 41) hx hb dX8_chance_2 (by decide) (fun q1 => ?_) (fun q1 => ?_)
  · replace hf := if_f q1 hf
    refine lv_aload_n (pc := 41) hx hb dX8_chance_41 rfl (lv_at hl 0 rfl) ?_
    refine lv_iload_n (pc := 42) hx hb dX8_chance_42 rfl (lv_at hl 1 rfl) ?_
    obtain ⟨u2, u2e, hf⟩ := bd hf
    refine zk_cV (pc := 43) (ci := 8) (q0 := 0) (rest := []) (st1 := []) (w' := [xM M b_isKept b_size b_at b_from b_sort b_fled b_flights b_firstFlight b_bestHarms b_bestRage b_harmed b_raged, xI cy ((M 2)) 39 b_now, xI cy ((M 4)) 273 u2]) (mk := [none, none, some (xI cy ((M 4)) 273 u2)]) C hw (c_X8_keep l G cy tt M b_isKept b_size b_at b_from b_sort b_fled b_flights b_firstFlight b_bestHarms b_bestRage b_harmed b_raged (((0 : Int32))) b_now b_minds _ u2e) zy_X8_keep zm_X8_142 rfl rfl rfl [0, 1, 2] rfl rfl rfl rfl rfl rfl rfl rfl hl.1 ⟨rfl, rfl⟩ ⟨Nat.le_of_ble_eq_true rfl, Nat.le_of_ble_eq_true rfl⟩ rfl (Nat.le_of_ble_eq_true rfl) ⟨Nat.zero_le _, Nat.zero_le _⟩ dX8_chance_43 (fun H locs hw => ?_)
    refine lv_iconst (pc := 46) (v := 0) hx hb dX8_chance_46 (by decide) ?_
    refine lv_istore (pc := 47) (lv' := [(4, .int ((0 : Int32))), (0, .ref ((M 0))), (1, .int ((0 : Int32))), (2, .int x2), (3, .int (bI x3))]) hx hb dX8_chance_47 hl (by decide) rfl (fun ls hl => ?_)
    exact J49 FU x2 x3 ((0 : Int32)) b_now u2 b_fled b_harmed b_raged _ _ _ hf hw (lv_sub hl [1, 2, 3, 4, 0] rfl)
  · replace hf := if_t q1 hf
    refine lv_aload_n (pc := 5) hx hb dX8_chance_5 rfl (lv_at hl 0 rfl) ?_
    refine lv_dup (pc := 6) hx hb dX8_chance_6 rfl ?_
    refine zk_gt (pc := 7) C hw zl_X8_267 0 rfl rfl dX8_chance_7 ?_
    refine lv_iload_n (pc := 10) hx hb dX8_chance_10 rfl (lv_at hl 3 rfl) ?_
    refine zk_ifz (pc := 11) (tgt := 18) hx hb dX8_chance_11 (by decide) (fun q3 => ?_) (fun q3 => ?_)
    · replace hf := if_f q3 hf
      refine lv_lconst (pc := 18) (v := 0) hx hb dX8_chance_18 (by decide) ?_
      exact J19 ((0 : Int64)) b_harmed b_now b_minds b_fled b_harmed b_raged _ _ _ hf hw (lv_sub hl [0] rfl)
    · replace hf := if_t q3 hf
      refine lv_lconst (pc := 14) (v := 1) hx hb dX8_chance_14 (by decide) ?_
      refine lv_goto (pc := 15) (tgt := 19) hx hb dX8_chance_15 (by decide) ?_
      exact J19 ((1 : Int64)) b_harmed b_now b_minds b_fled b_harmed b_raged _ _ _ hf hw (lv_sub hl [0] rfl)
def zf_X8_odds_22 (b_refused : Nat → Int32) (b_now : Nat → Int32) (b_minds : Nat → Int32) (b_fled : Bool) (b_harmed : Int64) (b_raged : Int64) : Option (Int32 × (Nat → Int32) × (Nat → Int32) × (Nat → Int32) × Bool × Int64 × Int64) := (Option.bind (zf_X8_refuse (((-2 : Int32))) b_refused) (fun u14 => some (u14.1, u14.2, b_now, b_minds, b_fled, b_harmed, b_raged)))
def zf_X8_odds_65 : Nat → Int32 → Int32 → Int64 → Int32 → (Nat → Int32) → (Nat → Int32) → (Nat → Int32) → Bool → Int64 → Int64 → Option (Int32 × (Nat → Int32) × (Nat → Int32) × (Nat → Int32) × Bool × Int64 × Int64)
  | 0, _, _, _, _, _, _, _, _, _, _ => none
  | n + 1, v1, v2, v3, v5, b_refused, b_now, b_minds, b_fled, b_harmed, b_raged => (if v1 ≤ v5 then (if v2 = 0 then (if v3 = 0 then none else some ((((b_harmed * (1000000 : Int64)) / v3)).toInt32, b_refused, b_now, b_minds, b_fled, b_harmed, b_raged)) else (if v3 = 0 then none else some ((((b_raged * (1000 : Int64)) / v3)).toInt32, b_refused, b_now, b_minds, b_fled, b_harmed, b_raged))) else (Option.bind (zf_X8_many b_now) (fun u13 => zf_X8_odds_65 n v1 v2 ((v3 * u13.toInt64)) ((v5 + 1)) b_refused b_now b_minds b_fled b_harmed b_raged)))
def zf_X8_odds (x1 : Int32) (x2 : Int32) (b_refused : Nat → Int32) (b_now : Nat → Int32) (b_minds : Nat → Int32) (b_fled : Bool) (b_harmed : Int64) (b_raged : Int64) : Option (Int32 × (Nat → Int32) × (Nat → Int32) × (Nat → Int32) × Bool × Int64 × Int64) := (Option.bind (zf_X8_isIn x1.toInt64 (((0 : Int64))) (((3 : Int64)))) (fun u1 => (if u1 then (Option.bind (zf_X8_isIn x2.toInt64 (((0 : Int64))) (((1 : Int64)))) (fun u3 => (if u3 then (Option.bind (zf_X8_many b_now) (fun u5 => (if u5 = 0 then (Option.bind (zf_X8_refuse (((-5 : Int32))) b_refused) (fun u8 => some (u8.1, u8.2, b_now, b_minds, b_fled, b_harmed, b_raged))) else (Option.bind (zf_X8_chance_l0 x1 false b_now b_minds b_fled ((0 : Int64)) ((0 : Int64))) (fun u7 => zf_X8_odds_65 FU x1 x2 ((1 : Int64)) ((0 : Int32)) b_refused u7.1 u7.2.1 u7.2.2.1 u7.2.2.2.1 u7.2.2.2.2))))) else zf_X8_odds_22 b_refused b_now b_minds b_fled b_harmed b_raged))) else zf_X8_odds_22 b_refused b_now b_minds b_fled b_harmed b_raged)))
abbrev zr_X8_odds : Room := { frames := 7, cells := 0, slots := 0, locals := 165 }
set_option maxHeartbeats 4000000 in
set_option maxRecDepth 100000 in
theorem c_X8_odds (l : Launch) (G : va_G) (cy : Nat → ClassId) (tt : Nat → Nat) (M : Nat → Nat) (b_isKept : Bool) (b_size : Int32) (b_at : Int32) (b_from : Int32) (b_sort : Int32) (b_flights : Int32) (b_firstFlight : Int32) (b_bestHarms : Int32) (b_bestRage : Int32) (x1 : Int32) (x2 : Int32) (b_refused : Nat → Int32) (b_now : Nat → Int32) (b_minds : Nat → Int32) (b_fled : Bool) (b_harmed : Int64) (b_raged : Int64) (res : Int32 × (Nat → Int32) × (Nat → Int32) × (Nat → Int32) × Bool × Int64 × Int64) (hf : zf_X8_odds x1 x2 b_refused b_now b_minds b_fled b_harmed b_raged = some res) : zCT l yX8_odds cX8_odds 6 (some .int) zr_X8_odds G cy tt [.ref ((M 0)), .int x1, .int x2] [xM M b_isKept b_size b_at b_from b_sort b_fled b_flights b_firstFlight b_bestHarms b_bestRage b_harmed b_raged, xI cy ((M 1)) 7 b_refused, xI cy ((M 2)) 39 b_now, xI cy ((M 4)) 273 b_minds] (some (.int res.1)) [xM M b_isKept b_size b_at b_from b_sort res.2.2.2.2.1 b_flights b_firstFlight b_bestHarms b_bestRage res.2.2.2.2.2.1 res.2.2.2.2.2.2, xI cy ((M 1)) 7 res.2.1, xI cy ((M 2)) 39 res.2.2.1, xI cy ((M 4)) 273 res.2.2.2.1] := by
  refine zk_start zn_X8 (Nat.le_of_ble_eq_true rfl) ?_
  intro p e s m args below meth c A ls Q C hr hQ hw hl
  have C : zCx p m c s args meth cX8_odds 6 RX8 G cy tt A := C
  have hx := C.1.1
  have hb := C.1.2.1
  have hl : lv_has ls 6 [(0, .ref ((M 0))), (1, .int x1), (2, .int x2)] := hl
  have J22 : ∀ (b_refused : Nat → Int32) (b_now : Nat → Int32) (b_minds : Nat → Int32) (b_fled : Bool) (b_harmed : Int64) (b_raged : Int64) (H : Heap) (locs : List Loc) (ls : Array Slot), zf_X8_odds_22 b_refused b_now b_minds b_fled b_harmed b_raged = some res → zWd G A s.heap H locs [xM M b_isKept b_size b_at b_from b_sort b_fled b_flights b_firstFlight b_bestHarms b_bestRage b_harmed b_raged, xI cy ((M 1)) 7 b_refused, xI cy ((M 2)) 39 b_now, xI cy ((M 4)) 273 b_minds] → lv_has ls 6 [(0, .ref ((M 0)))] → W p l e zr_X8_odds s m args below meth c H locs 0 0 Q (F0 m 22 ls []) := by
    intro b_refused b_now b_minds b_fled b_harmed b_raged H locs ls hf hw hl
    rw [zf_X8_odds_22] at hf
    refine lv_aload_n (pc := 22) hx hb dX8_odds_22 rfl (lv_at hl 0 rfl) ?_
    refine lv_bipush (pc := 23) (v := -2) hx hb dX8_odds_23 (by decide) ?_
    obtain ⟨u14, u14e, hf⟩ := bd hf
    refine zk_cV (pc := 25) (ci := 8) (q0 := 0) (rest := []) (st1 := [.int u14.1]) (w' := [xM M b_isKept b_size b_at b_from b_sort b_fled b_flights b_firstFlight b_bestHarms b_bestRage b_harmed b_raged, xI cy ((M 1)) 7 u14.2, xI cy ((M 2)) 39 b_now, xI cy ((M 4)) 273 b_minds]) (mk := [none, some (xI cy ((M 1)) 7 u14.2), none, none]) C hw (c_X8_refuse l G cy tt M b_isKept b_size b_at b_from b_sort b_fled b_flights b_firstFlight b_bestHarms b_bestRage b_harmed b_raged (((-2 : Int32))) b_refused _ u14e) zy_X8_refuse zm_X8_90 rfl rfl rfl [0, 1] rfl rfl rfl rfl rfl rfl rfl rfl hl.1 ⟨rfl, rfl⟩ ⟨Nat.le_of_ble_eq_true rfl, Nat.le_of_ble_eq_true rfl⟩ rfl (Nat.le_of_ble_eq_true rfl) ⟨Nat.zero_le _, Nat.zero_le _⟩ dX8_odds_25 (fun H locs hw => ?_)
    have hf := Option.some.inj hf
    subst hf
    exact zk_reti (pc := 28) (ww := [xM M b_isKept b_size b_at b_from b_sort b_fled b_flights b_firstFlight b_bestHarms b_bestRage b_harmed b_raged, xI cy ((M 1)) 7 u14.2, xI cy ((M 2)) 39 b_now, xI cy ((M 4)) 273 b_minds]) C hw hr hQ dX8_odds_28
  have J65 : ∀ (n : Nat), ∀ (v1 : Int32) (v2 : Int32) (v3 : Int64) (v5 : Int32) (b_refused : Nat → Int32) (b_now : Nat → Int32) (b_minds : Nat → Int32) (b_fled : Bool) (b_harmed : Int64) (b_raged : Int64) (H : Heap) (locs : List Loc) (ls : Array Slot), zf_X8_odds_65 n v1 v2 v3 v5 b_refused b_now b_minds b_fled b_harmed b_raged = some res → zWd G A s.heap H locs [xM M b_isKept b_size b_at b_from b_sort b_fled b_flights b_firstFlight b_bestHarms b_bestRage b_harmed b_raged, xI cy ((M 1)) 7 b_refused, xI cy ((M 2)) 39 b_now, xI cy ((M 4)) 273 b_minds] → lv_has ls 6 [(0, .ref ((M 0))), (1, .int v1), (2, .int v2), (3, .long v3), (5, .int v5)] → W p l e zr_X8_odds s m args below meth c H locs 0 0 Q (F0 m 65 ls []) := by
    intro n
    induction n with
    | zero =>
      intro v1 v2 v3 v5 b_refused b_now b_minds b_fled b_harmed b_raged H locs ls hf hw hl
      rw [zf_X8_odds_65] at hf
      cases hf
    | succ n ih =>
      intro v1 v2 v3 v5 b_refused b_now b_minds b_fled b_harmed b_raged H locs ls hf hw hl
      rw [zf_X8_odds_65] at hf
      refine lv_iload (pc := 65) hx hb dX8_odds_65 (lv_at hl 4 rfl) ?_
      refine lv_iload_n (pc := 67) hx hb dX8_odds_67 rfl (lv_at hl 1 rfl) ?_
      refine lv_icmp_ge (pc := 68) (tgt := 85) hx hb dX8_odds_68 (by decide) (fun q9 => ?_) (fun q9 => ?_)
      · replace hf := if_t q9 hf
        refine lv_iload_n (pc := 85) hx hb dX8_odds_85 rfl (lv_at hl 2 rfl) ?_
        refine lv_if_ne (pc := 86) (tgt := 102) hx hb dX8_odds_86 (by decide) (fun q10 => ?_) (fun q10 => ?_)
        · replace hf := if_f q10 hf
          refine lv_aload_n (pc := 102) hx hb dX8_odds_102 rfl (lv_at hl 0 rfl) ?_
          refine zk_gt (pc := 103) C hw zl_X8_271 0 rfl rfl dX8_odds_103 ?_
          refine lv_ldc2 (pc := 106) (v := 1000) hx hb C.1.2.2.2.1 (C.1.2.2.2.2 _ zc_X8_280) dX8_odds_106 ?_
          refine lv_lmul (pc := 109) hx hb dX8_odds_109 ?_
          refine lv_lload_n (pc := 110) hx hb dX8_odds_110 rfl (lv_at hl 3 rfl) ?_
          obtain ⟨q11, hf⟩ := ck0l hf
          refine lv_ldiv (pc := 111) hx hb dX8_odds_111 q11 ?_
          refine lv_l2i (pc := 112) (v := (((b_raged * (1000 : Int64)) / v3)).toInt32) hx hb dX8_odds_112 rfl ?_
          have hf := Option.some.inj hf
          subst hf
          exact zk_reti (pc := 113) (ww := [xM M b_isKept b_size b_at b_from b_sort b_fled b_flights b_firstFlight b_bestHarms b_bestRage b_harmed b_raged, xI cy ((M 1)) 7 b_refused, xI cy ((M 2)) 39 b_now, xI cy ((M 4)) 273 b_minds]) C hw hr hQ dX8_odds_113
        · replace hf := if_t q10 hf
          refine lv_aload_n (pc := 89) hx hb dX8_odds_89 rfl (lv_at hl 0 rfl) ?_
          refine zk_gt (pc := 90) C hw zl_X8_267 0 rfl rfl dX8_odds_90 ?_
          refine lv_ldc2 (pc := 93) (v := 1000000) hx hb C.1.2.2.2.1 (C.1.2.2.2.2 _ zc_X8_278) dX8_odds_93 ?_
          refine lv_lmul (pc := 96) hx hb dX8_odds_96 ?_
          refine lv_lload_n (pc := 97) hx hb dX8_odds_97 rfl (lv_at hl 3 rfl) ?_
          obtain ⟨q12, hf⟩ := ck0l hf
          refine lv_ldiv (pc := 98) hx hb dX8_odds_98 q12 ?_
          refine lv_goto (pc := 99) (tgt := 112) hx hb dX8_odds_99 (by decide) ?_
          refine lv_l2i (pc := 112) (v := (((b_harmed * (1000000 : Int64)) / v3)).toInt32) hx hb dX8_odds_112 rfl ?_
          have hf := Option.some.inj hf
          subst hf
          exact zk_reti (pc := 113) (ww := [xM M b_isKept b_size b_at b_from b_sort b_fled b_flights b_firstFlight b_bestHarms b_bestRage b_harmed b_raged, xI cy ((M 1)) 7 b_refused, xI cy ((M 2)) 39 b_now, xI cy ((M 4)) 273 b_minds]) C hw hr hQ dX8_odds_113
      · replace hf := if_f q9 hf
        refine lv_lload_n (pc := 71) hx hb dX8_odds_71 rfl (lv_at hl 3 rfl) ?_
        refine lv_aload_n (pc := 72) hx hb dX8_odds_72 rfl (lv_at hl 0 rfl) ?_
        obtain ⟨u13, u13e, hf⟩ := bd hf
        refine zk_cV (pc := 73) (ci := 8) (q0 := 0) (rest := [.long v3]) (st1 := [.int u13, .long v3]) (w' := [xM M b_isKept b_size b_at b_from b_sort b_fled b_flights b_firstFlight b_bestHarms b_bestRage b_harmed b_raged, xI cy ((M 1)) 7 b_refused, xI cy ((M 2)) 39 b_now, xI cy ((M 4)) 273 b_minds]) (mk := [none, none, none, none]) C hw (c_X8_many l G cy tt M b_isKept b_size b_at b_from b_sort b_fled b_flights b_firstFlight b_bestHarms b_bestRage b_harmed b_raged b_now _ u13e) zy_X8_many zm_X8_80 rfl rfl rfl [0, 2] rfl rfl rfl rfl rfl rfl rfl rfl hl.1 ⟨rfl, rfl⟩ ⟨Nat.le_of_ble_eq_true rfl, Nat.le_of_ble_eq_true rfl⟩ rfl (Nat.le_of_ble_eq_true rfl) ⟨Nat.zero_le _, Nat.zero_le _⟩ dX8_odds_73 (fun H locs hw => ?_)
        refine lv_i2l (pc := 76) (v := u13.toInt64) hx hb dX8_odds_76 rfl ?_
        refine lv_lmul (pc := 77) hx hb dX8_odds_77 ?_
        refine lv_lstore_n (pc := 78) (lv' := [(3, .long ((v3 * u13.toInt64))), (0, .ref ((M 0))), (1, .int v1), (2, .int v2), (5, .int v5)]) hx hb dX8_odds_78 rfl hl (by decide) rfl (fun ls hl => ?_)
        refine lv_iinc (pc := 79) (v := (v5 + 1)) (lv' := [(5, .int ((v5 + 1))), (3, .long ((v3 * u13.toInt64))), (0, .ref ((M 0))), (1, .int v1), (2, .int v2)]) hx hb dX8_odds_79 hl (k := 4) rfl rfl (by decide) rfl (fun ls hl => ?_)
        refine lv_goto (pc := 82) (tgt := 65) hx hb dX8_odds_82 (by decide) ?_
        exact ih v1 v2 ((v3 * u13.toInt64)) ((v5 + 1)) b_refused b_now b_minds b_fled b_harmed b_raged _ _ _ hf hw (lv_sub hl [2, 3, 4, 1, 0] rfl)
  rw [zf_X8_odds] at hf
  refine lv_iload_n (pc := 0) hx hb dX8_odds_0 rfl (lv_at hl 1 rfl) ?_
  refine lv_i2l (pc := 1) (v := x1.toInt64) hx hb dX8_odds_1 rfl ?_
  refine lv_lconst (pc := 2) (v := 0) hx hb dX8_odds_2 (by decide) ?_
  refine lv_ldc2 (pc := 3) (v := 3) hx hb C.1.2.2.2.1 (C.1.2.2.2.2 _ zc_X8_179) dX8_odds_3 ?_
  obtain ⟨u1, u1e, hf⟩ := bd hf
  refine zk_cS (pc := 6) (rest := []) (st1 := [.int (bI u1)]) (w' := [xM M b_isKept b_size b_at b_from b_sort b_fled b_flights b_firstFlight b_bestHarms b_bestRage b_harmed b_raged, xI cy ((M 1)) 7 b_refused, xI cy ((M 2)) 39 b_now, xI cy ((M 4)) 273 b_minds]) (mk := [none, none, none, none]) C hw (c_X8_isIn l G cy tt x1.toInt64 (((0 : Int64))) (((3 : Int64))) _ u1e) zy_X8_isIn zm_X8_68 [] rfl rfl rfl rfl rfl rfl rfl rfl hl.1 ⟨rfl, rfl⟩ ⟨Nat.le_of_ble_eq_true rfl, Nat.le_of_ble_eq_true rfl⟩ rfl (Nat.le_of_ble_eq_true rfl) ⟨Nat.zero_le _, Nat.zero_le _⟩ dX8_odds_6 (fun H locs hw => ?_)
  refine zk_ifz (pc := 9) (tgt := 22) hx hb dX8_odds_9 (by decide) (fun q2 => ?_) (fun q2 => ?_)
  · replace hf := if_f q2 hf
    exact J22 b_refused b_now b_minds b_fled b_harmed b_raged _ _ _ hf hw (lv_sub hl [0] rfl)
  · replace hf := if_t q2 hf
    refine lv_iload_n (pc := 12) hx hb dX8_odds_12 rfl (lv_at hl 2 rfl) ?_
    refine lv_i2l (pc := 13) (v := x2.toInt64) hx hb dX8_odds_13 rfl ?_
    refine lv_lconst (pc := 14) (v := 0) hx hb dX8_odds_14 (by decide) ?_
    refine lv_lconst (pc := 15) (v := 1) hx hb dX8_odds_15 (by decide) ?_
    obtain ⟨u3, u3e, hf⟩ := bd hf
    refine zk_cS (pc := 16) (rest := []) (st1 := [.int (bI u3)]) (w' := [xM M b_isKept b_size b_at b_from b_sort b_fled b_flights b_firstFlight b_bestHarms b_bestRage b_harmed b_raged, xI cy ((M 1)) 7 b_refused, xI cy ((M 2)) 39 b_now, xI cy ((M 4)) 273 b_minds]) (mk := [none, none, none, none]) C hw (c_X8_isIn l G cy tt x2.toInt64 (((0 : Int64))) (((1 : Int64))) _ u3e) zy_X8_isIn zm_X8_68 [] rfl rfl rfl rfl rfl rfl rfl rfl hl.1 ⟨rfl, rfl⟩ ⟨Nat.le_of_ble_eq_true rfl, Nat.le_of_ble_eq_true rfl⟩ rfl (Nat.le_of_ble_eq_true rfl) ⟨Nat.zero_le _, Nat.zero_le _⟩ dX8_odds_16 (fun H locs hw => ?_)
    refine zk_ifnz (pc := 19) (tgt := 29) hx hb dX8_odds_19 (by decide) (fun q4 => ?_) (fun q4 => ?_)
    · replace hf := if_t q4 hf
      refine lv_aload_n (pc := 29) hx hb dX8_odds_29 rfl (lv_at hl 0 rfl) ?_
      obtain ⟨u5, u5e, hf⟩ := bd hf
      refine zk_cV (pc := 30) (ci := 8) (q0 := 0) (rest := []) (st1 := [.int u5]) (w' := [xM M b_isKept b_size b_at b_from b_sort b_fled b_flights b_firstFlight b_bestHarms b_bestRage b_harmed b_raged, xI cy ((M 1)) 7 b_refused, xI cy ((M 2)) 39 b_now, xI cy ((M 4)) 273 b_minds]) (mk := [none, none, none, none]) C hw (c_X8_many l G cy tt M b_isKept b_size b_at b_from b_sort b_fled b_flights b_firstFlight b_bestHarms b_bestRage b_harmed b_raged b_now _ u5e) zy_X8_many zm_X8_80 rfl rfl rfl [0, 2] rfl rfl rfl rfl rfl rfl rfl rfl hl.1 ⟨rfl, rfl⟩ ⟨Nat.le_of_ble_eq_true rfl, Nat.le_of_ble_eq_true rfl⟩ rfl (Nat.le_of_ble_eq_true rfl) ⟨Nat.zero_le _, Nat.zero_le _⟩ dX8_odds_30 (fun H locs hw => ?_)
      refine lv_if_ne (pc := 33) (tgt := 43) hx hb dX8_odds_33 (by decide) (fun q6 => ?_) (fun q6 => ?_)
      · replace hf := if_f q6 hf
        refine lv_aload_n (pc := 43) hx hb dX8_odds_43 rfl (lv_at hl 0 rfl) ?_
        refine lv_lconst (pc := 44) (v := 0) hx hb dX8_odds_44 (by decide) ?_
        refine zk_put (pc := 45) (w' := [xM M b_isKept b_size b_at b_from b_sort b_fled b_flights b_firstFlight b_bestHarms b_bestRage ((0 : Int64)) b_raged, xI cy ((M 1)) 7 b_refused, xI cy ((M 2)) 39 b_now, xI cy ((M 4)) 273 b_minds]) C hw zp_X8_267 0 rfl rfl rfl (Nat.le_of_ble_eq_true rfl) rfl dX8_odds_45 (fun H locs hw => ?_)
        refine lv_aload_n (pc := 48) hx hb dX8_odds_48 rfl (lv_at hl 0 rfl) ?_
        refine lv_lconst (pc := 49) (v := 0) hx hb dX8_odds_49 (by decide) ?_
        refine zk_put (pc := 50) (w' := [xM M b_isKept b_size b_at b_from b_sort b_fled b_flights b_firstFlight b_bestHarms b_bestRage ((0 : Int64)) ((0 : Int64)), xI cy ((M 1)) 7 b_refused, xI cy ((M 2)) 39 b_now, xI cy ((M 4)) 273 b_minds]) C hw zp_X8_271 0 rfl rfl rfl (Nat.le_of_ble_eq_true rfl) rfl dX8_odds_50 (fun H locs hw => ?_)
        refine lv_aload_n (pc := 53) hx hb dX8_odds_53 rfl (lv_at hl 0 rfl) ?_
        refine lv_iconst (pc := 54) (v := 0) hx hb dX8_odds_54 (by decide) ?_
        refine lv_iload_n (pc := 55) hx hb dX8_odds_55 rfl (lv_at hl 1 rfl) ?_
        refine lv_iconst (pc := 56) (v := 0) hx hb dX8_odds_56 (by decide) ?_
        obtain ⟨u7, u7e, hf⟩ := bd hf
        refine zk_cV (pc := 57) (ci := 8) (q0 := 0) (rest := []) (st1 := []) (w' := [xM M b_isKept b_size b_at b_from b_sort u7.2.2.1 b_flights b_firstFlight b_bestHarms b_bestRage u7.2.2.2.1 u7.2.2.2.2, xI cy ((M 1)) 7 b_refused, xI cy ((M 2)) 39 u7.1, xI cy ((M 4)) 273 u7.2.1]) (mk := [some (xM M b_isKept b_size b_at b_from b_sort u7.2.2.1 b_flights b_firstFlight b_bestHarms b_bestRage u7.2.2.2.1 u7.2.2.2.2), none, some (xI cy ((M 2)) 39 u7.1), some (xI cy ((M 4)) 273 u7.2.1)]) C hw (c_X8_chance_l0 l G cy tt M b_isKept b_size b_at b_from b_sort b_flights b_firstFlight b_bestHarms b_bestRage x1 false b_now b_minds b_fled ((0 : Int64)) ((0 : Int64)) _ u7e) zy_X8_chance zm_X8_274 rfl rfl rfl [0, 2, 3] rfl rfl rfl rfl rfl rfl rfl rfl hl.1 ⟨rfl, rfl⟩ ⟨Nat.le_of_ble_eq_true rfl, Nat.le_of_ble_eq_true rfl⟩ rfl (Nat.le_of_ble_eq_true rfl) ⟨Nat.zero_le _, Nat.zero_le _⟩ dX8_odds_57 (fun H locs hw => ?_)
        refine lv_lconst (pc := 60) (v := 1) hx hb dX8_odds_60 (by decide) ?_
        refine lv_lstore_n (pc := 61) (lv' := [(3, .long ((1 : Int64))), (0, .ref ((M 0))), (1, .int x1), (2, .int x2)]) hx hb dX8_odds_61 rfl hl (by decide) rfl (fun ls hl => ?_)
        refine lv_iconst (pc := 62) (v := 0) hx hb dX8_odds_62 (by decide) ?_
        refine lv_istore (pc := 63) (lv' := [(5, .int ((0 : Int32))), (3, .long ((1 : Int64))), (0, .ref ((M 0))), (1, .int x1), (2, .int x2)]) hx hb dX8_odds_63 hl (by decide) rfl (fun ls hl => ?_)
        exact J65 FU x1 x2 ((1 : Int64)) ((0 : Int32)) b_refused u7.1 u7.2.1 u7.2.2.1 u7.2.2.2.1 u7.2.2.2.2 _ _ _ hf hw (lv_sub hl [2, 3, 4, 1, 0] rfl)
      · replace hf := if_t q6 hf
        refine lv_aload_n (pc := 36) hx hb dX8_odds_36 rfl (lv_at hl 0 rfl) ?_
        refine lv_bipush (pc := 37) (v := -5) hx hb dX8_odds_37 (by decide) ?_
        obtain ⟨u8, u8e, hf⟩ := bd hf
        refine zk_cV (pc := 39) (ci := 8) (q0 := 0) (rest := []) (st1 := [.int u8.1]) (w' := [xM M b_isKept b_size b_at b_from b_sort b_fled b_flights b_firstFlight b_bestHarms b_bestRage b_harmed b_raged, xI cy ((M 1)) 7 u8.2, xI cy ((M 2)) 39 b_now, xI cy ((M 4)) 273 b_minds]) (mk := [none, some (xI cy ((M 1)) 7 u8.2), none, none]) C hw (c_X8_refuse l G cy tt M b_isKept b_size b_at b_from b_sort b_fled b_flights b_firstFlight b_bestHarms b_bestRage b_harmed b_raged (((-5 : Int32))) b_refused _ u8e) zy_X8_refuse zm_X8_90 rfl rfl rfl [0, 1] rfl rfl rfl rfl rfl rfl rfl rfl hl.1 ⟨rfl, rfl⟩ ⟨Nat.le_of_ble_eq_true rfl, Nat.le_of_ble_eq_true rfl⟩ rfl (Nat.le_of_ble_eq_true rfl) ⟨Nat.zero_le _, Nat.zero_le _⟩ dX8_odds_39 (fun H locs hw => ?_)
        have hf := Option.some.inj hf
        subst hf
        exact zk_reti (pc := 42) (ww := [xM M b_isKept b_size b_at b_from b_sort b_fled b_flights b_firstFlight b_bestHarms b_bestRage b_harmed b_raged, xI cy ((M 1)) 7 u8.2, xI cy ((M 2)) 39 b_now, xI cy ((M 4)) 273 b_minds]) C hw hr hQ dX8_odds_42
    · replace hf := if_f q4 hf
      exact J22 b_refused b_now b_minds b_fled b_harmed b_raged _ _ _ hf hw (lv_sub hl [0] rfl)
def zf_X8_flees_58 (k30 : Int32 → Int32 → Int32 → Int32 → (Nat → Int32) → (Nat → Int32) → Option (Int32 × (Nat → Int32) × (Nat → Int32))) (v1 : Int32) (v2 : Int32) (v4 : Int32) (t0 : Int32) (b_refused : Nat → Int32) (b_now : Nat → Int32) : Option (Int32 × (Nat → Int32) × (Nat → Int32)) := k30 v1 v2 t0 ((v4 + (-1))) b_refused b_now
def zf_X8_flees_30 : Nat → Int32 → Int32 → Int32 → Int32 → (Nat → Int32) → (Nat → Int32) → Option (Int32 × (Nat → Int32) × (Nat → Int32))
  | 0, _, _, _, _, _, _ => none
  | n + 1, v1, v2, v3, v4, b_refused, b_now => (if v4 < 0 then some (v3, b_refused, (upd b_now 33 v2)) else (Option.bind (zf_X8_isStaying v1 ((upd b_now 33 v4))) (fun u5 => (if u5 then zf_X8_flees_58 (zf_X8_flees_30 n) v1 v2 v4 v3 b_refused ((upd b_now 33 v4)) else zf_X8_flees_58 (zf_X8_flees_30 n) v1 v2 v4 v4 b_refused ((upd b_now 33 v4))))))
def zf_X8_flees (x1 : Int32) (b_refused : Nat → Int32) (b_now : Nat → Int32) : Option (Int32 × (Nat → Int32) × (Nat → Int32)) := (Option.bind (zf_X8_isKeeper x1.toInt64 b_now) (fun u1 => (if u1 then zf_X8_flees_30 FU x1 ((b_now 33)) ((-1 : Int32)) ((99 : Int32)) b_refused b_now else (Option.bind (zf_X8_refuse (((-2 : Int32))) b_refused) (fun u3 => some (u3.1, u3.2, b_now))))))
abbrev zr_X8_flees : Room := { frames := 2, cells := 0, slots := 0, locals := 47 }
set_option maxHeartbeats 4000000 in
set_option maxRecDepth 100000 in
theorem c_X8_flees (l : Launch) (G : va_G) (cy : Nat → ClassId) (tt : Nat → Nat) (M : Nat → Nat) (b_isKept : Bool) (b_size : Int32) (b_at : Int32) (b_from : Int32) (b_sort : Int32) (b_fled : Bool) (b_flights : Int32) (b_firstFlight : Int32) (b_bestHarms : Int32) (b_bestRage : Int32) (b_harmed : Int64) (b_raged : Int64) (x1 : Int32) (b_refused : Nat → Int32) (b_now : Nat → Int32) (res : Int32 × (Nat → Int32) × (Nat → Int32)) (hf : zf_X8_flees x1 b_refused b_now = some res) : zCT l yX8_flees cX8_flees 5 (some .int) zr_X8_flees G cy tt [.ref ((M 0)), .int x1] [xM M b_isKept b_size b_at b_from b_sort b_fled b_flights b_firstFlight b_bestHarms b_bestRage b_harmed b_raged, xI cy ((M 1)) 7 b_refused, xI cy ((M 2)) 39 b_now] (some (.int res.1)) [xM M b_isKept b_size b_at b_from b_sort b_fled b_flights b_firstFlight b_bestHarms b_bestRage b_harmed b_raged, xI cy ((M 1)) 7 res.2.1, xI cy ((M 2)) 39 res.2.2] := by
  refine zk_start zn_X8 (Nat.le_of_ble_eq_true rfl) ?_
  intro p e s m args below meth c A ls Q C hr hQ hw hl
  have C : zCx p m c s args meth cX8_flees 5 RX8 G cy tt A := C
  have hx := C.1.1
  have hb := C.1.2.1
  have hl : lv_has ls 5 [(0, .ref ((M 0))), (1, .int x1)] := hl
  have J58 : ∀ (k30 : Int32 → Int32 → Int32 → Int32 → (Nat → Int32) → (Nat → Int32) → Option (Int32 × (Nat → Int32) × (Nat → Int32))) (K30 : ∀ (v1 : Int32) (v2 : Int32) (v3 : Int32) (v4 : Int32) (b_refused : Nat → Int32) (b_now : Nat → Int32) (H : Heap) (locs : List Loc) (ls : Array Slot), k30 v1 v2 v3 v4 b_refused b_now = some res → zWd G A s.heap H locs [xM M b_isKept b_size b_at b_from b_sort b_fled b_flights b_firstFlight b_bestHarms b_bestRage b_harmed b_raged, xI cy ((M 1)) 7 b_refused, xI cy ((M 2)) 39 b_now] → lv_has ls 5 [(0, .ref ((M 0))), (1, .int v1), (2, .int v2), (3, .int v3), (4, .int v4)] → W p l e zr_X8_flees s m args below meth c H locs 0 0 Q (F0 m 30 ls [])), ∀ (v1 : Int32) (v2 : Int32) (v4 : Int32) (t0 : Int32) (b_refused : Nat → Int32) (b_now : Nat → Int32) (H : Heap) (locs : List Loc) (ls : Array Slot), zf_X8_flees_58 k30 v1 v2 v4 t0 b_refused b_now = some res → zWd G A s.heap H locs [xM M b_isKept b_size b_at b_from b_sort b_fled b_flights b_firstFlight b_bestHarms b_bestRage b_harmed b_raged, xI cy ((M 1)) 7 b_refused, xI cy ((M 2)) 39 b_now] → lv_has ls 5 [(0, .ref ((M 0))), (1, .int v1), (2, .int v2), (4, .int v4)] → W p l e zr_X8_flees s m args below meth c H locs 0 0 Q (F0 m 58 ls [.int t0]) := by
    intro k30 K30 v1 v2 v4 t0 b_refused b_now H locs ls hf hw hl
    rw [zf_X8_flees_58] at hf
    refine lv_istore_n (pc := 58) (lv' := [(3, .int t0), (0, .ref ((M 0))), (1, .int v1), (2, .int v2), (4, .int v4)]) hx hb dX8_flees_58 rfl hl (by decide) rfl (fun ls hl => ?_)
    refine lv_iinc (pc := 59) (v := (v4 + (-1))) (lv' := [(4, .int ((v4 + (-1)))), (3, .int t0), (0, .ref ((M 0))), (1, .int v1), (2, .int v2)]) hx hb dX8_flees_59 hl (k := 4) rfl rfl (by decide) rfl (fun ls hl => ?_)
    refine lv_goto (pc := 62) (tgt := 30) hx hb dX8_flees_62 (by decide) ?_
    exact K30 v1 v2 t0 ((v4 + (-1))) b_refused b_now _ _ _ hf hw (lv_sub hl [2, 3, 4, 1, 0] rfl)
  have J30 : ∀ (n : Nat), ∀ (v1 : Int32) (v2 : Int32) (v3 : Int32) (v4 : Int32) (b_refused : Nat → Int32) (b_now : Nat → Int32) (H : Heap) (locs : List Loc) (ls : Array Slot), zf_X8_flees_30 n v1 v2 v3 v4 b_refused b_now = some res → zWd G A s.heap H locs [xM M b_isKept b_size b_at b_from b_sort b_fled b_flights b_firstFlight b_bestHarms b_bestRage b_harmed b_raged, xI cy ((M 1)) 7 b_refused, xI cy ((M 2)) 39 b_now] → lv_has ls 5 [(0, .ref ((M 0))), (1, .int v1), (2, .int v2), (3, .int v3), (4, .int v4)] → W p l e zr_X8_flees s m args below meth c H locs 0 0 Q (F0 m 30 ls []) := by
    intro n
    induction n with
    | zero =>
      intro v1 v2 v3 v4 b_refused b_now H locs ls hf hw hl
      rw [zf_X8_flees_30] at hf
      cases hf
    | succ n ih =>
      intro v1 v2 v3 v4 b_refused b_now H locs ls hf hw hl
      rw [zf_X8_flees_30] at hf
      refine lv_iload (pc := 30) hx hb dX8_flees_30 (lv_at hl 4 rfl) ?_
      refine lv_if_lt (pc := 32) (tgt := 65) hx hb dX8_flees_32 (by decide) (fun q4 => ?_) (fun q4 => ?_)
      · replace hf := if_t q4 hf
        refine lv_aload_n (pc := 65) hx hb dX8_flees_65 rfl (lv_at hl 0 rfl) ?_
        refine zk_gt (pc := 66) C hw zl_X8_17 0 rfl rfl dX8_flees_66 ?_
        refine lv_bipush (pc := 69) (v := 33) hx hb dX8_flees_69 (by decide) ?_
        refine lv_iload_n (pc := 71) hx hb dX8_flees_71 rfl (lv_at hl 2 rfl) ?_
        refine zk_iastK (pc := 72) (w' := [xM M b_isKept b_size b_at b_from b_sort b_fled b_flights b_firstFlight b_bestHarms b_bestRage b_harmed b_raged, xI cy ((M 1)) 7 b_refused, xI cy ((M 2)) 39 ((upd b_now 33 v2))]) 33 (by decide) C hw 2 rfl (by decide) rfl dX8_flees_72 (fun H locs hw => ?_)
        refine lv_iload_n (pc := 73) hx hb dX8_flees_73 rfl (lv_at hl 3 rfl) ?_
        have hf := Option.some.inj hf
        subst hf
        exact zk_reti (pc := 74) (ww := [xM M b_isKept b_size b_at b_from b_sort b_fled b_flights b_firstFlight b_bestHarms b_bestRage b_harmed b_raged, xI cy ((M 1)) 7 b_refused, xI cy ((M 2)) 39 ((upd b_now 33 v2))]) C hw hr hQ dX8_flees_74
      · replace hf := if_f q4 hf
        refine lv_aload_n (pc := 35) hx hb dX8_flees_35 rfl (lv_at hl 0 rfl) ?_
        refine zk_gt (pc := 36) C hw zl_X8_17 0 rfl rfl dX8_flees_36 ?_
        refine lv_bipush (pc := 39) (v := 33) hx hb dX8_flees_39 (by decide) ?_
        refine lv_iload (pc := 41) hx hb dX8_flees_41 (lv_at hl 4 rfl) ?_
        refine zk_iastK (pc := 43) (w' := [xM M b_isKept b_size b_at b_from b_sort b_fled b_flights b_firstFlight b_bestHarms b_bestRage b_harmed b_raged, xI cy ((M 1)) 7 b_refused, xI cy ((M 2)) 39 ((upd b_now 33 v4))]) 33 (by decide) C hw 2 rfl (by decide) rfl dX8_flees_43 (fun H locs hw => ?_)
        refine lv_aload_n (pc := 44) hx hb dX8_flees_44 rfl (lv_at hl 0 rfl) ?_
        refine lv_iload_n (pc := 45) hx hb dX8_flees_45 rfl (lv_at hl 1 rfl) ?_
        obtain ⟨u5, u5e, hf⟩ := bd hf
        refine zk_cV (pc := 46) (ci := 8) (q0 := 0) (rest := []) (st1 := [.int (bI u5)]) (w' := [xM M b_isKept b_size b_at b_from b_sort b_fled b_flights b_firstFlight b_bestHarms b_bestRage b_harmed b_raged, xI cy ((M 1)) 7 b_refused, xI cy ((M 2)) 39 ((upd b_now 33 v4))]) (mk := [none, none, none]) C hw (c_X8_isStaying l G cy tt M b_isKept b_size b_at b_from b_sort b_fled b_flights b_firstFlight b_bestHarms b_bestRage b_harmed b_raged v1 ((upd b_now 33 v4)) _ u5e) zy_X8_isStaying zm_X8_166 rfl rfl rfl [0, 2] rfl rfl rfl rfl rfl rfl rfl rfl hl.1 ⟨rfl, rfl⟩ ⟨Nat.le_of_ble_eq_true rfl, Nat.le_of_ble_eq_true rfl⟩ rfl (Nat.le_of_ble_eq_true rfl) ⟨Nat.zero_le _, Nat.zero_le _⟩ dX8_flees_46 (fun H locs hw => ?_)
        refine zk_ifz (pc := 49) (tgt := 56) hx hb dX8_flees_49 (by decide) (fun q6 => ?_) (fun q6 => ?_)
        · replace hf := if_f q6 hf
          refine lv_iload (pc := 56) hx hb dX8_flees_56 (lv_at hl 4 rfl) ?_
          exact J58 (zf_X8_flees_30 n) ih v1 v2 v4 v4 b_refused ((upd b_now 33 v4)) _ _ _ hf hw (lv_sub hl [0, 1, 2, 4] rfl)
        · replace hf := if_t q6 hf
          refine lv_iload_n (pc := 52) hx hb dX8_flees_52 rfl (lv_at hl 3 rfl) ?_
          refine lv_goto (pc := 53) (tgt := 58) hx hb dX8_flees_53 (by decide) ?_
          exact J58 (zf_X8_flees_30 n) ih v1 v2 v4 v3 b_refused ((upd b_now 33 v4)) _ _ _ hf hw (lv_sub hl [0, 1, 2, 4] rfl)
  rw [zf_X8_flees] at hf
  refine lv_aload_n (pc := 0) hx hb dX8_flees_0 rfl (lv_at hl 0 rfl) ?_
  refine lv_iload_n (pc := 1) hx hb dX8_flees_1 rfl (lv_at hl 1 rfl) ?_
  refine lv_i2l (pc := 2) (v := x1.toInt64) hx hb dX8_flees_2 rfl ?_
  obtain ⟨u1, u1e, hf⟩ := bd hf
  refine zk_cV (pc := 3) (ci := 8) (q0 := 0) (rest := []) (st1 := [.int (bI u1)]) (w' := [xM M b_isKept b_size b_at b_from b_sort b_fled b_flights b_firstFlight b_bestHarms b_bestRage b_harmed b_raged, xI cy ((M 1)) 7 b_refused, xI cy ((M 2)) 39 b_now]) (mk := [none, none, none]) C hw (c_X8_isKeeper l G cy tt M b_isKept b_size b_at b_from b_sort b_fled b_flights b_firstFlight b_bestHarms b_bestRage b_harmed b_raged x1.toInt64 b_now _ u1e) zy_X8_isKeeper zm_X8_76 rfl rfl rfl [0, 2] rfl rfl rfl rfl rfl rfl rfl rfl hl.1 ⟨rfl, rfl⟩ ⟨Nat.le_of_ble_eq_true rfl, Nat.le_of_ble_eq_true rfl⟩ rfl (Nat.le_of_ble_eq_true rfl) ⟨Nat.zero_le _, Nat.zero_le _⟩ dX8_flees_3 (fun H locs hw => ?_)
  refine zk_ifnz (pc := 6) (tgt := 16) hx hb dX8_flees_6 (by decide) (fun q2 => ?_) (fun q2 => ?_)
  · replace hf := if_t q2 hf
    refine lv_aload_n (pc := 16) hx hb dX8_flees_16 rfl (lv_at hl 0 rfl) ?_
    refine zk_gt (pc := 17) C hw zl_X8_17 0 rfl rfl dX8_flees_17 ?_
    refine lv_bipush (pc := 20) (v := 33) hx hb dX8_flees_20 (by decide) ?_
    refine zk_ialdK (pc := 22) 33 (by decide) C hw 2 rfl (by decide) dX8_flees_22 ?_
    refine lv_istore_n (pc := 23) (lv' := [(2, .int ((b_now 33))), (0, .ref ((M 0))), (1, .int x1)]) hx hb dX8_flees_23 rfl hl (by decide) rfl (fun ls hl => ?_)
    refine lv_iconst (pc := 24) (v := -1) hx hb dX8_flees_24 (by decide) ?_
    refine lv_istore_n (pc := 25) (lv' := [(3, .int ((-1 : Int32))), (2, .int ((b_now 33))), (0, .ref ((M 0))), (1, .int x1)]) hx hb dX8_flees_25 rfl hl (by decide) rfl (fun ls hl => ?_)
    refine lv_bipush (pc := 26) (v := 99) hx hb dX8_flees_26 (by decide) ?_
    refine lv_istore (pc := 28) (lv' := [(4, .int ((99 : Int32))), (3, .int ((-1 : Int32))), (2, .int ((b_now 33))), (0, .ref ((M 0))), (1, .int x1)]) hx hb dX8_flees_28 hl (by decide) rfl (fun ls hl => ?_)
    exact J30 FU x1 ((b_now 33)) ((-1 : Int32)) ((99 : Int32)) b_refused b_now _ _ _ hf hw (lv_sub hl [3, 4, 2, 1, 0] rfl)
  · replace hf := if_f q2 hf
    refine lv_aload_n (pc := 9) hx hb dX8_flees_9 rfl (lv_at hl 0 rfl) ?_
    refine lv_bipush (pc := 10) (v := -2) hx hb dX8_flees_10 (by decide) ?_
    obtain ⟨u3, u3e, hf⟩ := bd hf
    refine zk_cV (pc := 12) (ci := 8) (q0 := 0) (rest := []) (st1 := [.int u3.1]) (w' := [xM M b_isKept b_size b_at b_from b_sort b_fled b_flights b_firstFlight b_bestHarms b_bestRage b_harmed b_raged, xI cy ((M 1)) 7 u3.2, xI cy ((M 2)) 39 b_now]) (mk := [none, some (xI cy ((M 1)) 7 u3.2), none]) C hw (c_X8_refuse l G cy tt M b_isKept b_size b_at b_from b_sort b_fled b_flights b_firstFlight b_bestHarms b_bestRage b_harmed b_raged (((-2 : Int32))) b_refused _ u3e) zy_X8_refuse zm_X8_90 rfl rfl rfl [0, 1] rfl rfl rfl rfl rfl rfl rfl rfl hl.1 ⟨rfl, rfl⟩ ⟨Nat.le_of_ble_eq_true rfl, Nat.le_of_ble_eq_true rfl⟩ rfl (Nat.le_of_ble_eq_true rfl) ⟨Nat.zero_le _, Nat.zero_le _⟩ dX8_flees_12 (fun H locs hw => ?_)
    have hf := Option.some.inj hf
    subst hf
    exact zk_reti (pc := 15) (ww := [xM M b_isKept b_size b_at b_from b_sort b_fled b_flights b_firstFlight b_bestHarms b_bestRage b_harmed b_raged, xI cy ((M 1)) 7 u3.2, xI cy ((M 2)) 39 b_now]) C hw hr hQ dX8_flees_15
def zf_X8_needs_59 (k28 : Int32 → Int32 → Int32 → Int32 → (Nat → Int32) → (Nat → Int32) → Option (Int32 × (Nat → Int32) × (Nat → Int32))) (v1 : Int32) (v2 : Int32) (v4 : Int32) (t0 : Int32) (b_refused : Nat → Int32) (b_now : Nat → Int32) : Option (Int32 × (Nat → Int32) × (Nat → Int32)) := k28 v1 v2 t0 ((v4 + (-1))) b_refused b_now
def zf_X8_needs_28 : Nat → Int32 → Int32 → Int32 → Int32 → (Nat → Int32) → (Nat → Int32) → Option (Int32 × (Nat → Int32) × (Nat → Int32))
  | 0, _, _, _, _, _, _ => none
  | n + 1, v1, v2, v3, v4, b_refused, b_now => (if v4 < 0 then (if ix ((((4 : Int32) * v1) + (2 : Int32))) 39 then some (v3, b_refused, (upd b_now (((((4 : Int32) * v1) + (2 : Int32))).toNatClampNeg) v2)) else none) else (if ix ((((4 : Int32) * v1) + (2 : Int32))) 39 then (Option.bind (zf_X8_isStaying v1 ((upd b_now (((((4 : Int32) * v1) + (2 : Int32))).toNatClampNeg) v4))) (fun u8 => (if u8 then zf_X8_needs_59 (zf_X8_needs_28 n) v1 v2 v4 v4 b_refused ((upd b_now (((((4 : Int32) * v1) + (2 : Int32))).toNatClampNeg) v4)) else zf_X8_needs_59 (zf_X8_needs_28 n) v1 v2 v4 v3 b_refused ((upd b_now (((((4 : Int32) * v1) + (2 : Int32))).toNatClampNeg) v4))))) else none))
def zf_X8_needs (x1 : Int32) (b_refused : Nat → Int32) (b_now : Nat → Int32) : Option (Int32 × (Nat → Int32) × (Nat → Int32)) := (Option.bind (zf_X8_isKeeper x1.toInt64 b_now) (fun u1 => (if u1 then (Option.bind (zf_X8_nerveOf x1 b_now) (fun u3 => zf_X8_needs_28 FU x1 u3 ((-1 : Int32)) ((40 : Int32)) b_refused b_now)) else (Option.bind (zf_X8_refuse (((-2 : Int32))) b_refused) (fun u4 => some (u4.1, u4.2, b_now))))))
abbrev zr_X8_needs : Room := { frames := 2, cells := 0, slots := 0, locals := 47 }
set_option maxHeartbeats 4000000 in
set_option maxRecDepth 100000 in
theorem c_X8_needs (l : Launch) (G : va_G) (cy : Nat → ClassId) (tt : Nat → Nat) (M : Nat → Nat) (b_isKept : Bool) (b_size : Int32) (b_at : Int32) (b_from : Int32) (b_sort : Int32) (b_fled : Bool) (b_flights : Int32) (b_firstFlight : Int32) (b_bestHarms : Int32) (b_bestRage : Int32) (b_harmed : Int64) (b_raged : Int64) (x1 : Int32) (b_refused : Nat → Int32) (b_now : Nat → Int32) (res : Int32 × (Nat → Int32) × (Nat → Int32)) (hf : zf_X8_needs x1 b_refused b_now = some res) : zCT l yX8_needs cX8_needs 5 (some .int) zr_X8_needs G cy tt [.ref ((M 0)), .int x1] [xM M b_isKept b_size b_at b_from b_sort b_fled b_flights b_firstFlight b_bestHarms b_bestRage b_harmed b_raged, xI cy ((M 1)) 7 b_refused, xI cy ((M 2)) 39 b_now] (some (.int res.1)) [xM M b_isKept b_size b_at b_from b_sort b_fled b_flights b_firstFlight b_bestHarms b_bestRage b_harmed b_raged, xI cy ((M 1)) 7 res.2.1, xI cy ((M 2)) 39 res.2.2] := by
  refine zk_start zn_X8 (Nat.le_of_ble_eq_true rfl) ?_
  intro p e s m args below meth c A ls Q C hr hQ hw hl
  have C : zCx p m c s args meth cX8_needs 5 RX8 G cy tt A := C
  have hx := C.1.1
  have hb := C.1.2.1
  have hl : lv_has ls 5 [(0, .ref ((M 0))), (1, .int x1)] := hl
  have J59 : ∀ (k28 : Int32 → Int32 → Int32 → Int32 → (Nat → Int32) → (Nat → Int32) → Option (Int32 × (Nat → Int32) × (Nat → Int32))) (K28 : ∀ (v1 : Int32) (v2 : Int32) (v3 : Int32) (v4 : Int32) (b_refused : Nat → Int32) (b_now : Nat → Int32) (H : Heap) (locs : List Loc) (ls : Array Slot), k28 v1 v2 v3 v4 b_refused b_now = some res → zWd G A s.heap H locs [xM M b_isKept b_size b_at b_from b_sort b_fled b_flights b_firstFlight b_bestHarms b_bestRage b_harmed b_raged, xI cy ((M 1)) 7 b_refused, xI cy ((M 2)) 39 b_now] → lv_has ls 5 [(0, .ref ((M 0))), (1, .int v1), (2, .int v2), (3, .int v3), (4, .int v4)] → W p l e zr_X8_needs s m args below meth c H locs 0 0 Q (F0 m 28 ls [])), ∀ (v1 : Int32) (v2 : Int32) (v4 : Int32) (t0 : Int32) (b_refused : Nat → Int32) (b_now : Nat → Int32) (H : Heap) (locs : List Loc) (ls : Array Slot), zf_X8_needs_59 k28 v1 v2 v4 t0 b_refused b_now = some res → zWd G A s.heap H locs [xM M b_isKept b_size b_at b_from b_sort b_fled b_flights b_firstFlight b_bestHarms b_bestRage b_harmed b_raged, xI cy ((M 1)) 7 b_refused, xI cy ((M 2)) 39 b_now] → lv_has ls 5 [(0, .ref ((M 0))), (1, .int v1), (2, .int v2), (4, .int v4)] → W p l e zr_X8_needs s m args below meth c H locs 0 0 Q (F0 m 59 ls [.int t0]) := by
    intro k28 K28 v1 v2 v4 t0 b_refused b_now H locs ls hf hw hl
    rw [zf_X8_needs_59] at hf
    refine lv_istore_n (pc := 59) (lv' := [(3, .int t0), (0, .ref ((M 0))), (1, .int v1), (2, .int v2), (4, .int v4)]) hx hb dX8_needs_59 rfl hl (by decide) rfl (fun ls hl => ?_)
    refine lv_iinc (pc := 60) (v := (v4 + (-1))) (lv' := [(4, .int ((v4 + (-1)))), (3, .int t0), (0, .ref ((M 0))), (1, .int v1), (2, .int v2)]) hx hb dX8_needs_60 hl (k := 4) rfl rfl (by decide) rfl (fun ls hl => ?_)
    refine lv_goto (pc := 63) (tgt := 28) hx hb dX8_needs_63 (by decide) ?_
    exact K28 v1 v2 t0 ((v4 + (-1))) b_refused b_now _ _ _ hf hw (lv_sub hl [2, 3, 4, 1, 0] rfl)
  have J28 : ∀ (n : Nat), ∀ (v1 : Int32) (v2 : Int32) (v3 : Int32) (v4 : Int32) (b_refused : Nat → Int32) (b_now : Nat → Int32) (H : Heap) (locs : List Loc) (ls : Array Slot), zf_X8_needs_28 n v1 v2 v3 v4 b_refused b_now = some res → zWd G A s.heap H locs [xM M b_isKept b_size b_at b_from b_sort b_fled b_flights b_firstFlight b_bestHarms b_bestRage b_harmed b_raged, xI cy ((M 1)) 7 b_refused, xI cy ((M 2)) 39 b_now] → lv_has ls 5 [(0, .ref ((M 0))), (1, .int v1), (2, .int v2), (3, .int v3), (4, .int v4)] → W p l e zr_X8_needs s m args below meth c H locs 0 0 Q (F0 m 28 ls []) := by
    intro n
    induction n with
    | zero =>
      intro v1 v2 v3 v4 b_refused b_now H locs ls hf hw hl
      rw [zf_X8_needs_28] at hf
      cases hf
    | succ n ih =>
      intro v1 v2 v3 v4 b_refused b_now H locs ls hf hw hl
      rw [zf_X8_needs_28] at hf
      refine lv_iload (pc := 28) hx hb dX8_needs_28 (lv_at hl 4 rfl) ?_
      refine lv_if_lt (pc := 30) (tgt := 66) hx hb dX8_needs_30 (by decide) (fun q5 => ?_) (fun q5 => ?_)
      · replace hf := if_t q5 hf
        refine lv_aload_n (pc := 66) hx hb dX8_needs_66 rfl (lv_at hl 0 rfl) ?_
        refine zk_gt (pc := 67) C hw zl_X8_17 0 rfl rfl dX8_needs_67 ?_
        refine lv_iconst (pc := 70) (v := 4) hx hb dX8_needs_70 (by decide) ?_
        refine lv_iload_n (pc := 71) hx hb dX8_needs_71 rfl (lv_at hl 1 rfl) ?_
        refine lv_imul (pc := 72) hx hb dX8_needs_72 ?_
        refine lv_iconst (pc := 73) (v := 2) hx hb dX8_needs_73 (by decide) ?_
        refine lv_iadd (pc := 74) hx hb dX8_needs_74 ?_
        refine lv_iload_n (pc := 75) hx hb dX8_needs_75 rfl (lv_at hl 2 rfl) ?_
        obtain ⟨q6, hf⟩ := ck hf
        refine zk_iast (pc := 76) (w' := [xM M b_isKept b_size b_at b_from b_sort b_fled b_flights b_firstFlight b_bestHarms b_bestRage b_harmed b_raged, xI cy ((M 1)) 7 b_refused, xI cy ((M 2)) 39 ((upd b_now (((((4 : Int32) * v1) + (2 : Int32))).toNatClampNeg) v2))]) C hw 2 rfl q6 rfl dX8_needs_76 (fun H locs hw => ?_)
        refine lv_iload_n (pc := 77) hx hb dX8_needs_77 rfl (lv_at hl 3 rfl) ?_
        have hf := Option.some.inj hf
        subst hf
        exact zk_reti (pc := 78) (ww := [xM M b_isKept b_size b_at b_from b_sort b_fled b_flights b_firstFlight b_bestHarms b_bestRage b_harmed b_raged, xI cy ((M 1)) 7 b_refused, xI cy ((M 2)) 39 ((upd b_now (((((4 : Int32) * v1) + (2 : Int32))).toNatClampNeg) v2))]) C hw hr hQ dX8_needs_78
      · replace hf := if_f q5 hf
        refine lv_aload_n (pc := 33) hx hb dX8_needs_33 rfl (lv_at hl 0 rfl) ?_
        refine zk_gt (pc := 34) C hw zl_X8_17 0 rfl rfl dX8_needs_34 ?_
        refine lv_iconst (pc := 37) (v := 4) hx hb dX8_needs_37 (by decide) ?_
        refine lv_iload_n (pc := 38) hx hb dX8_needs_38 rfl (lv_at hl 1 rfl) ?_
        refine lv_imul (pc := 39) hx hb dX8_needs_39 ?_
        refine lv_iconst (pc := 40) (v := 2) hx hb dX8_needs_40 (by decide) ?_
        refine lv_iadd (pc := 41) hx hb dX8_needs_41 ?_
        refine lv_iload (pc := 42) hx hb dX8_needs_42 (lv_at hl 4 rfl) ?_
        obtain ⟨q7, hf⟩ := ck hf
        refine zk_iast (pc := 44) (w' := [xM M b_isKept b_size b_at b_from b_sort b_fled b_flights b_firstFlight b_bestHarms b_bestRage b_harmed b_raged, xI cy ((M 1)) 7 b_refused, xI cy ((M 2)) 39 ((upd b_now (((((4 : Int32) * v1) + (2 : Int32))).toNatClampNeg) v4))]) C hw 2 rfl q7 rfl dX8_needs_44 (fun H locs hw => ?_)
        refine lv_aload_n (pc := 45) hx hb dX8_needs_45 rfl (lv_at hl 0 rfl) ?_
        refine lv_iload_n (pc := 46) hx hb dX8_needs_46 rfl (lv_at hl 1 rfl) ?_
        obtain ⟨u8, u8e, hf⟩ := bd hf
        refine zk_cV (pc := 47) (ci := 8) (q0 := 0) (rest := []) (st1 := [.int (bI u8)]) (w' := [xM M b_isKept b_size b_at b_from b_sort b_fled b_flights b_firstFlight b_bestHarms b_bestRage b_harmed b_raged, xI cy ((M 1)) 7 b_refused, xI cy ((M 2)) 39 ((upd b_now (((((4 : Int32) * v1) + (2 : Int32))).toNatClampNeg) v4))]) (mk := [none, none, none]) C hw (c_X8_isStaying l G cy tt M b_isKept b_size b_at b_from b_sort b_fled b_flights b_firstFlight b_bestHarms b_bestRage b_harmed b_raged v1 ((upd b_now (((((4 : Int32) * v1) + (2 : Int32))).toNatClampNeg) v4)) _ u8e) zy_X8_isStaying zm_X8_166 rfl rfl rfl [0, 2] rfl rfl rfl rfl rfl rfl rfl rfl hl.1 ⟨rfl, rfl⟩ ⟨Nat.le_of_ble_eq_true rfl, Nat.le_of_ble_eq_true rfl⟩ rfl (Nat.le_of_ble_eq_true rfl) ⟨Nat.zero_le _, Nat.zero_le _⟩ dX8_needs_47 (fun H locs hw => ?_)
        refine zk_ifz (pc := 50) (tgt := 58) hx hb dX8_needs_50 (by decide) (fun q9 => ?_) (fun q9 => ?_)
        · replace hf := if_f q9 hf
          refine lv_iload_n (pc := 58) hx hb dX8_needs_58 rfl (lv_at hl 3 rfl) ?_
          exact J59 (zf_X8_needs_28 n) ih v1 v2 v4 v3 b_refused ((upd b_now (((((4 : Int32) * v1) + (2 : Int32))).toNatClampNeg) v4)) _ _ _ hf hw (lv_sub hl [0, 1, 2, 4] rfl)
        · replace hf := if_t q9 hf
          refine lv_iload (pc := 53) hx hb dX8_needs_53 (lv_at hl 4 rfl) ?_
          refine lv_goto (pc := 55) (tgt := 59) hx hb dX8_needs_55 (by decide) ?_
          exact J59 (zf_X8_needs_28 n) ih v1 v2 v4 v4 b_refused ((upd b_now (((((4 : Int32) * v1) + (2 : Int32))).toNatClampNeg) v4)) _ _ _ hf hw (lv_sub hl [0, 1, 2, 4] rfl)
  rw [zf_X8_needs] at hf
  refine lv_aload_n (pc := 0) hx hb dX8_needs_0 rfl (lv_at hl 0 rfl) ?_
  refine lv_iload_n (pc := 1) hx hb dX8_needs_1 rfl (lv_at hl 1 rfl) ?_
  refine lv_i2l (pc := 2) (v := x1.toInt64) hx hb dX8_needs_2 rfl ?_
  obtain ⟨u1, u1e, hf⟩ := bd hf
  refine zk_cV (pc := 3) (ci := 8) (q0 := 0) (rest := []) (st1 := [.int (bI u1)]) (w' := [xM M b_isKept b_size b_at b_from b_sort b_fled b_flights b_firstFlight b_bestHarms b_bestRage b_harmed b_raged, xI cy ((M 1)) 7 b_refused, xI cy ((M 2)) 39 b_now]) (mk := [none, none, none]) C hw (c_X8_isKeeper l G cy tt M b_isKept b_size b_at b_from b_sort b_fled b_flights b_firstFlight b_bestHarms b_bestRage b_harmed b_raged x1.toInt64 b_now _ u1e) zy_X8_isKeeper zm_X8_76 rfl rfl rfl [0, 2] rfl rfl rfl rfl rfl rfl rfl rfl hl.1 ⟨rfl, rfl⟩ ⟨Nat.le_of_ble_eq_true rfl, Nat.le_of_ble_eq_true rfl⟩ rfl (Nat.le_of_ble_eq_true rfl) ⟨Nat.zero_le _, Nat.zero_le _⟩ dX8_needs_3 (fun H locs hw => ?_)
  refine zk_ifnz (pc := 6) (tgt := 16) hx hb dX8_needs_6 (by decide) (fun q2 => ?_) (fun q2 => ?_)
  · replace hf := if_t q2 hf
    refine lv_aload_n (pc := 16) hx hb dX8_needs_16 rfl (lv_at hl 0 rfl) ?_
    refine lv_iload_n (pc := 17) hx hb dX8_needs_17 rfl (lv_at hl 1 rfl) ?_
    obtain ⟨u3, u3e, hf⟩ := bd hf
    refine zk_cV (pc := 18) (ci := 8) (q0 := 0) (rest := []) (st1 := [.int u3]) (w' := [xM M b_isKept b_size b_at b_from b_sort b_fled b_flights b_firstFlight b_bestHarms b_bestRage b_harmed b_raged, xI cy ((M 1)) 7 b_refused, xI cy ((M 2)) 39 b_now]) (mk := [none, none, none]) C hw (c_X8_nerveOf l G cy tt M b_isKept b_size b_at b_from b_sort b_fled b_flights b_firstFlight b_bestHarms b_bestRage b_harmed b_raged x1 b_now _ u3e) zy_X8_nerveOf zm_X8_98 rfl rfl rfl [0, 2] rfl rfl rfl rfl rfl rfl rfl rfl hl.1 ⟨rfl, rfl⟩ ⟨Nat.le_of_ble_eq_true rfl, Nat.le_of_ble_eq_true rfl⟩ rfl (Nat.le_of_ble_eq_true rfl) ⟨Nat.zero_le _, Nat.zero_le _⟩ dX8_needs_18 (fun H locs hw => ?_)
    refine lv_istore_n (pc := 21) (lv' := [(2, .int u3), (0, .ref ((M 0))), (1, .int x1)]) hx hb dX8_needs_21 rfl hl (by decide) rfl (fun ls hl => ?_)
    refine lv_iconst (pc := 22) (v := -1) hx hb dX8_needs_22 (by decide) ?_
    refine lv_istore_n (pc := 23) (lv' := [(3, .int ((-1 : Int32))), (2, .int u3), (0, .ref ((M 0))), (1, .int x1)]) hx hb dX8_needs_23 rfl hl (by decide) rfl (fun ls hl => ?_)
    refine lv_bipush (pc := 24) (v := 40) hx hb dX8_needs_24 (by decide) ?_
    refine lv_istore (pc := 26) (lv' := [(4, .int ((40 : Int32))), (3, .int ((-1 : Int32))), (2, .int u3), (0, .ref ((M 0))), (1, .int x1)]) hx hb dX8_needs_26 hl (by decide) rfl (fun ls hl => ?_)
    exact J28 FU x1 u3 ((-1 : Int32)) ((40 : Int32)) b_refused b_now _ _ _ hf hw (lv_sub hl [3, 4, 2, 1, 0] rfl)
  · replace hf := if_f q2 hf
    refine lv_aload_n (pc := 9) hx hb dX8_needs_9 rfl (lv_at hl 0 rfl) ?_
    refine lv_bipush (pc := 10) (v := -2) hx hb dX8_needs_10 (by decide) ?_
    obtain ⟨u4, u4e, hf⟩ := bd hf
    refine zk_cV (pc := 12) (ci := 8) (q0 := 0) (rest := []) (st1 := [.int u4.1]) (w' := [xM M b_isKept b_size b_at b_from b_sort b_fled b_flights b_firstFlight b_bestHarms b_bestRage b_harmed b_raged, xI cy ((M 1)) 7 u4.2, xI cy ((M 2)) 39 b_now]) (mk := [none, some (xI cy ((M 1)) 7 u4.2), none]) C hw (c_X8_refuse l G cy tt M b_isKept b_size b_at b_from b_sort b_fled b_flights b_firstFlight b_bestHarms b_bestRage b_harmed b_raged (((-2 : Int32))) b_refused _ u4e) zy_X8_refuse zm_X8_90 rfl rfl rfl [0, 1] rfl rfl rfl rfl rfl rfl rfl rfl hl.1 ⟨rfl, rfl⟩ ⟨Nat.le_of_ble_eq_true rfl, Nat.le_of_ble_eq_true rfl⟩ rfl (Nat.le_of_ble_eq_true rfl) ⟨Nat.zero_le _, Nat.zero_le _⟩ dX8_needs_12 (fun H locs hw => ?_)
    have hf := Option.some.inj hf
    subst hf
    exact zk_reti (pc := 15) (ww := [xM M b_isKept b_size b_at b_from b_sort b_fled b_flights b_firstFlight b_bestHarms b_bestRage b_harmed b_raged, xI cy ((M 1)) 7 u4.2, xI cy ((M 2)) 39 b_now]) C hw hr hQ dX8_needs_15
def zf_X8_both (x1 : Int32) (x2 : Int32) (b_now : Nat → Int32) (b_minds : Nat → Int32) (b_fled : Bool) (b_roster : Nat → Int32) (b_flights : Int32) (b_firstFlight : Int32) : Option (Int32 × (Nat → Int32) × (Nat → Int32) × Bool × (Nat → Int32) × Int32 × Int32) := (Option.bind (zf_X8_rageBehind (((2 : Int32))) b_now b_minds b_fled ((upd ((upd b_roster 0 x1)) 1 x2)) b_flights b_firstFlight) (fun u1 => some (u1.1, u1.2.1, u1.2.2.1, u1.2.2.2.1, (upd ((upd b_roster 0 x1)) 1 x2), u1.2.2.2.2.1, u1.2.2.2.2.2)))
abbrev zr_X8_both : Room := { frames := 5, cells := 0, slots := 0, locals := 110 }
set_option maxHeartbeats 4000000 in
set_option maxRecDepth 100000 in
theorem c_X8_both (l : Launch) (G : va_G) (cy : Nat → ClassId) (tt : Nat → Nat) (M : Nat → Nat) (b_isKept : Bool) (b_size : Int32) (b_at : Int32) (b_from : Int32) (b_sort : Int32) (b_bestHarms : Int32) (b_bestRage : Int32) (b_harmed : Int64) (b_raged : Int64) (x1 : Int32) (x2 : Int32) (b_now : Nat → Int32) (b_minds : Nat → Int32) (b_fled : Bool) (b_roster : Nat → Int32) (b_flights : Int32) (b_firstFlight : Int32) (res : Int32 × (Nat → Int32) × (Nat → Int32) × Bool × (Nat → Int32) × Int32 × Int32) (hf : zf_X8_both x1 x2 b_now b_minds b_fled b_roster b_flights b_firstFlight = some res) : zCT l yX8_both cX8_both 3 (some .int) zr_X8_both G cy tt [.ref ((M 0)), .int x1, .int x2] [xM M b_isKept b_size b_at b_from b_sort b_fled b_flights b_firstFlight b_bestHarms b_bestRage b_harmed b_raged, xI cy ((M 2)) 39 b_now, xI cy ((M 4)) 273 b_minds, xI cy ((M 12)) 40 b_roster] (some (.int res.1)) [xM M b_isKept b_size b_at b_from b_sort res.2.2.2.1 res.2.2.2.2.2.1 res.2.2.2.2.2.2 b_bestHarms b_bestRage b_harmed b_raged, xI cy ((M 2)) 39 res.2.1, xI cy ((M 4)) 273 res.2.2.1, xI cy ((M 12)) 40 res.2.2.2.2.1] := by
  refine zk_start zn_X8 (Nat.le_of_ble_eq_true rfl) ?_
  intro p e s m args below meth c A ls Q C hr hQ hw hl
  have C : zCx p m c s args meth cX8_both 3 RX8 G cy tt A := C
  have hx := C.1.1
  have hb := C.1.2.1
  have hl : lv_has ls 3 [(0, .ref ((M 0))), (1, .int x1), (2, .int x2)] := hl
  rw [zf_X8_both] at hf
  refine lv_aload_n (pc := 0) hx hb dX8_both_0 rfl (lv_at hl 0 rfl) ?_
  refine zk_gt (pc := 1) C hw zl_X8_49 0 rfl rfl dX8_both_1 ?_
  refine lv_iconst (pc := 4) (v := 0) hx hb dX8_both_4 (by decide) ?_
  refine lv_iload_n (pc := 5) hx hb dX8_both_5 rfl (lv_at hl 1 rfl) ?_
  refine zk_iastK (pc := 6) (w' := [xM M b_isKept b_size b_at b_from b_sort b_fled b_flights b_firstFlight b_bestHarms b_bestRage b_harmed b_raged, xI cy ((M 2)) 39 b_now, xI cy ((M 4)) 273 b_minds, xI cy ((M 12)) 40 ((upd b_roster 0 x1))]) 0 (by decide) C hw 3 rfl (by decide) rfl dX8_both_6 (fun H locs hw => ?_)
  refine lv_aload_n (pc := 7) hx hb dX8_both_7 rfl (lv_at hl 0 rfl) ?_
  refine zk_gt (pc := 8) C hw zl_X8_49 0 rfl rfl dX8_both_8 ?_
  refine lv_iconst (pc := 11) (v := 1) hx hb dX8_both_11 (by decide) ?_
  refine lv_iload_n (pc := 12) hx hb dX8_both_12 rfl (lv_at hl 2 rfl) ?_
  refine zk_iastK (pc := 13) (w' := [xM M b_isKept b_size b_at b_from b_sort b_fled b_flights b_firstFlight b_bestHarms b_bestRage b_harmed b_raged, xI cy ((M 2)) 39 b_now, xI cy ((M 4)) 273 b_minds, xI cy ((M 12)) 40 ((upd ((upd b_roster 0 x1)) 1 x2))]) 1 (by decide) C hw 3 rfl (by decide) rfl dX8_both_13 (fun H locs hw => ?_)
  refine lv_aload_n (pc := 14) hx hb dX8_both_14 rfl (lv_at hl 0 rfl) ?_
  refine lv_iconst (pc := 15) (v := 2) hx hb dX8_both_15 (by decide) ?_
  obtain ⟨u1, u1e, hf⟩ := bd hf
  refine zk_cV (pc := 16) (ci := 8) (q0 := 0) (rest := []) (st1 := [.int u1.1]) (w' := [xM M b_isKept b_size b_at b_from b_sort u1.2.2.2.1 u1.2.2.2.2.1 u1.2.2.2.2.2 b_bestHarms b_bestRage b_harmed b_raged, xI cy ((M 2)) 39 u1.2.1, xI cy ((M 4)) 273 u1.2.2.1, xI cy ((M 12)) 40 ((upd ((upd b_roster 0 x1)) 1 x2))]) (mk := [some (xM M b_isKept b_size b_at b_from b_sort u1.2.2.2.1 u1.2.2.2.2.1 u1.2.2.2.2.2 b_bestHarms b_bestRage b_harmed b_raged), some (xI cy ((M 2)) 39 u1.2.1), some (xI cy ((M 4)) 273 u1.2.2.1), none]) C hw (c_X8_rageBehind l G cy tt M b_isKept b_size b_at b_from b_sort b_bestHarms b_bestRage b_harmed b_raged (((2 : Int32))) b_now b_minds b_fled ((upd ((upd b_roster 0 x1)) 1 x2)) b_flights b_firstFlight _ u1e) zy_X8_rageBehind zm_X8_229 rfl rfl rfl [0, 1, 2, 3] rfl rfl rfl rfl rfl rfl rfl rfl hl.1 ⟨rfl, rfl⟩ ⟨Nat.le_of_ble_eq_true rfl, Nat.le_of_ble_eq_true rfl⟩ rfl (Nat.le_of_ble_eq_true rfl) ⟨Nat.zero_le _, Nat.zero_le _⟩ dX8_both_16 (fun H locs hw => ?_)
  have hf := Option.some.inj hf
  subst hf
  exact zk_reti (pc := 19) (ww := [xM M b_isKept b_size b_at b_from b_sort u1.2.2.2.1 u1.2.2.2.2.1 u1.2.2.2.2.2 b_bestHarms b_bestRage b_harmed b_raged, xI cy ((M 2)) 39 u1.2.1, xI cy ((M 4)) 273 u1.2.2.1, xI cy ((M 12)) 40 ((upd ((upd b_roster 0 x1)) 1 x2))]) C hw hr hQ dX8_both_19
def zf_X8_first_18 (b_refused : Nat → Int32) (b_now : Nat → Int32) (b_minds : Nat → Int32) (b_fled : Bool) (b_roster : Nat → Int32) (b_flights : Int32) (b_firstFlight : Int32) : Option (Int32 × (Nat → Int32) × (Nat → Int32) × (Nat → Int32) × Bool × (Nat → Int32) × Int32 × Int32) := (Option.bind (zf_X8_refuse (((-2 : Int32))) b_refused) (fun u9 => some (u9.1, u9.2, b_now, b_minds, b_fled, b_roster, b_flights, b_firstFlight)))
def zf_X8_first (x1 : Int32) (x2 : Int32) (b_refused : Nat → Int32) (b_now : Nat → Int32) (b_minds : Nat → Int32) (b_fled : Bool) (b_roster : Nat → Int32) (b_flights : Int32) (b_firstFlight : Int32) : Option (Int32 × (Nat → Int32) × (Nat → Int32) × (Nat → Int32) × Bool × (Nat → Int32) × Int32 × Int32) := (Option.bind (zf_X8_isOrder x1.toInt64 b_now) (fun u1 => (if u1 then (Option.bind (zf_X8_isOrder x2.toInt64 b_now) (fun u3 => (if u3 then (Option.bind (zf_X8_both x1 x2 b_now b_minds b_fled b_roster b_flights b_firstFlight) (fun u5 => (Option.bind (zf_X8_both x2 x1 u5.2.1 u5.2.2.1 u5.2.2.2.1 u5.2.2.2.2.1 u5.2.2.2.2.2.1 u5.2.2.2.2.2.2) (fun u6 => (if u6.1 ≤ u5.1 then (if u5.1 ≤ u6.1 then some ((2 : Int32), b_refused, u6.2.1, u6.2.2.1, u6.2.2.2.1, u6.2.2.2.2.1, u6.2.2.2.2.2.1, u6.2.2.2.2.2.2) else some ((1 : Int32), b_refused, u6.2.1, u6.2.2.1, u6.2.2.2.1, u6.2.2.2.2.1, u6.2.2.2.2.2.1, u6.2.2.2.2.2.2)) else some ((0 : Int32), b_refused, u6.2.1, u6.2.2.1, u6.2.2.2.1, u6.2.2.2.2.1, u6.2.2.2.2.2.1, u6.2.2.2.2.2.2)))))) else zf_X8_first_18 b_refused b_now b_minds b_fled b_roster b_flights b_firstFlight))) else zf_X8_first_18 b_refused b_now b_minds b_fled b_roster b_flights b_firstFlight)))
abbrev zr_X8_first : Room := { frames := 6, cells := 0, slots := 0, locals := 132 }
set_option maxHeartbeats 4000000 in
set_option maxRecDepth 100000 in
theorem c_X8_first (l : Launch) (G : va_G) (cy : Nat → ClassId) (tt : Nat → Nat) (M : Nat → Nat) (b_isKept : Bool) (b_size : Int32) (b_at : Int32) (b_from : Int32) (b_sort : Int32) (b_bestHarms : Int32) (b_bestRage : Int32) (b_harmed : Int64) (b_raged : Int64) (x1 : Int32) (x2 : Int32) (b_refused : Nat → Int32) (b_now : Nat → Int32) (b_minds : Nat → Int32) (b_fled : Bool) (b_roster : Nat → Int32) (b_flights : Int32) (b_firstFlight : Int32) (res : Int32 × (Nat → Int32) × (Nat → Int32) × (Nat → Int32) × Bool × (Nat → Int32) × Int32 × Int32) (hf : zf_X8_first x1 x2 b_refused b_now b_minds b_fled b_roster b_flights b_firstFlight = some res) : zCT l yX8_first cX8_first 5 (some .int) zr_X8_first G cy tt [.ref ((M 0)), .int x1, .int x2] [xM M b_isKept b_size b_at b_from b_sort b_fled b_flights b_firstFlight b_bestHarms b_bestRage b_harmed b_raged, xI cy ((M 1)) 7 b_refused, xI cy ((M 2)) 39 b_now, xI cy ((M 4)) 273 b_minds, xI cy ((M 12)) 40 b_roster] (some (.int res.1)) [xM M b_isKept b_size b_at b_from b_sort res.2.2.2.2.1 res.2.2.2.2.2.2.1 res.2.2.2.2.2.2.2 b_bestHarms b_bestRage b_harmed b_raged, xI cy ((M 1)) 7 res.2.1, xI cy ((M 2)) 39 res.2.2.1, xI cy ((M 4)) 273 res.2.2.2.1, xI cy ((M 12)) 40 res.2.2.2.2.2.1] := by
  refine zk_start zn_X8 (Nat.le_of_ble_eq_true rfl) ?_
  intro p e s m args below meth c A ls Q C hr hQ hw hl
  have C : zCx p m c s args meth cX8_first 5 RX8 G cy tt A := C
  have hx := C.1.1
  have hb := C.1.2.1
  have hl : lv_has ls 5 [(0, .ref ((M 0))), (1, .int x1), (2, .int x2)] := hl
  have J18 : ∀ (b_refused : Nat → Int32) (b_now : Nat → Int32) (b_minds : Nat → Int32) (b_fled : Bool) (b_roster : Nat → Int32) (b_flights : Int32) (b_firstFlight : Int32) (H : Heap) (locs : List Loc) (ls : Array Slot), zf_X8_first_18 b_refused b_now b_minds b_fled b_roster b_flights b_firstFlight = some res → zWd G A s.heap H locs [xM M b_isKept b_size b_at b_from b_sort b_fled b_flights b_firstFlight b_bestHarms b_bestRage b_harmed b_raged, xI cy ((M 1)) 7 b_refused, xI cy ((M 2)) 39 b_now, xI cy ((M 4)) 273 b_minds, xI cy ((M 12)) 40 b_roster] → lv_has ls 5 [(0, .ref ((M 0)))] → W p l e zr_X8_first s m args below meth c H locs 0 0 Q (F0 m 18 ls []) := by
    intro b_refused b_now b_minds b_fled b_roster b_flights b_firstFlight H locs ls hf hw hl
    rw [zf_X8_first_18] at hf
    refine lv_aload_n (pc := 18) hx hb dX8_first_18 rfl (lv_at hl 0 rfl) ?_
    refine lv_bipush (pc := 19) (v := -2) hx hb dX8_first_19 (by decide) ?_
    obtain ⟨u9, u9e, hf⟩ := bd hf
    refine zk_cV (pc := 21) (ci := 8) (q0 := 0) (rest := []) (st1 := [.int u9.1]) (w' := [xM M b_isKept b_size b_at b_from b_sort b_fled b_flights b_firstFlight b_bestHarms b_bestRage b_harmed b_raged, xI cy ((M 1)) 7 u9.2, xI cy ((M 2)) 39 b_now, xI cy ((M 4)) 273 b_minds, xI cy ((M 12)) 40 b_roster]) (mk := [none, some (xI cy ((M 1)) 7 u9.2), none, none, none]) C hw (c_X8_refuse l G cy tt M b_isKept b_size b_at b_from b_sort b_fled b_flights b_firstFlight b_bestHarms b_bestRage b_harmed b_raged (((-2 : Int32))) b_refused _ u9e) zy_X8_refuse zm_X8_90 rfl rfl rfl [0, 1] rfl rfl rfl rfl rfl rfl rfl rfl hl.1 ⟨rfl, rfl⟩ ⟨Nat.le_of_ble_eq_true rfl, Nat.le_of_ble_eq_true rfl⟩ rfl (Nat.le_of_ble_eq_true rfl) ⟨Nat.zero_le _, Nat.zero_le _⟩ dX8_first_21 (fun H locs hw => ?_)
    have hf := Option.some.inj hf
    subst hf
    exact zk_reti (pc := 24) (ww := [xM M b_isKept b_size b_at b_from b_sort b_fled b_flights b_firstFlight b_bestHarms b_bestRage b_harmed b_raged, xI cy ((M 1)) 7 u9.2, xI cy ((M 2)) 39 b_now, xI cy ((M 4)) 273 b_minds, xI cy ((M 12)) 40 b_roster]) C hw hr hQ dX8_first_24
  rw [zf_X8_first] at hf
  refine lv_aload_n (pc := 0) hx hb dX8_first_0 rfl (lv_at hl 0 rfl) ?_
  refine lv_iload_n (pc := 1) hx hb dX8_first_1 rfl (lv_at hl 1 rfl) ?_
  refine lv_i2l (pc := 2) (v := x1.toInt64) hx hb dX8_first_2 rfl ?_
  obtain ⟨u1, u1e, hf⟩ := bd hf
  refine zk_cV (pc := 3) (ci := 8) (q0 := 0) (rest := []) (st1 := [.int (bI u1)]) (w' := [xM M b_isKept b_size b_at b_from b_sort b_fled b_flights b_firstFlight b_bestHarms b_bestRage b_harmed b_raged, xI cy ((M 1)) 7 b_refused, xI cy ((M 2)) 39 b_now, xI cy ((M 4)) 273 b_minds, xI cy ((M 12)) 40 b_roster]) (mk := [none, none, none, none, none]) C hw (c_X8_isOrder l G cy tt M b_isKept b_size b_at b_from b_sort b_fled b_flights b_firstFlight b_bestHarms b_bestRage b_harmed b_raged x1.toInt64 b_now _ u1e) zy_X8_isOrder zm_X8_184 rfl rfl rfl [0, 2] rfl rfl rfl rfl rfl rfl rfl rfl hl.1 ⟨rfl, rfl⟩ ⟨Nat.le_of_ble_eq_true rfl, Nat.le_of_ble_eq_true rfl⟩ rfl (Nat.le_of_ble_eq_true rfl) ⟨Nat.zero_le _, Nat.zero_le _⟩ dX8_first_3 (fun H locs hw => ?_)
  refine zk_ifz (pc := 6) (tgt := 18) hx hb dX8_first_6 (by decide) (fun q2 => ?_) (fun q2 => ?_)
  · replace hf := if_f q2 hf
    exact J18 b_refused b_now b_minds b_fled b_roster b_flights b_firstFlight _ _ _ hf hw (lv_sub hl [0] rfl)
  · replace hf := if_t q2 hf
    refine lv_aload_n (pc := 9) hx hb dX8_first_9 rfl (lv_at hl 0 rfl) ?_
    refine lv_iload_n (pc := 10) hx hb dX8_first_10 rfl (lv_at hl 2 rfl) ?_
    refine lv_i2l (pc := 11) (v := x2.toInt64) hx hb dX8_first_11 rfl ?_
    obtain ⟨u3, u3e, hf⟩ := bd hf
    refine zk_cV (pc := 12) (ci := 8) (q0 := 0) (rest := []) (st1 := [.int (bI u3)]) (w' := [xM M b_isKept b_size b_at b_from b_sort b_fled b_flights b_firstFlight b_bestHarms b_bestRage b_harmed b_raged, xI cy ((M 1)) 7 b_refused, xI cy ((M 2)) 39 b_now, xI cy ((M 4)) 273 b_minds, xI cy ((M 12)) 40 b_roster]) (mk := [none, none, none, none, none]) C hw (c_X8_isOrder l G cy tt M b_isKept b_size b_at b_from b_sort b_fled b_flights b_firstFlight b_bestHarms b_bestRage b_harmed b_raged x2.toInt64 b_now _ u3e) zy_X8_isOrder zm_X8_184 rfl rfl rfl [0, 2] rfl rfl rfl rfl rfl rfl rfl rfl hl.1 ⟨rfl, rfl⟩ ⟨Nat.le_of_ble_eq_true rfl, Nat.le_of_ble_eq_true rfl⟩ rfl (Nat.le_of_ble_eq_true rfl) ⟨Nat.zero_le _, Nat.zero_le _⟩ dX8_first_12 (fun H locs hw => ?_)
    refine zk_ifnz (pc := 15) (tgt := 25) hx hb dX8_first_15 (by decide) (fun q4 => ?_) (fun q4 => ?_)
    · replace hf := if_t q4 hf
      refine lv_aload_n (pc := 25) hx hb dX8_first_25 rfl (lv_at hl 0 rfl) ?_
      refine lv_iload_n (pc := 26) hx hb dX8_first_26 rfl (lv_at hl 1 rfl) ?_
      refine lv_iload_n (pc := 27) hx hb dX8_first_27 rfl (lv_at hl 2 rfl) ?_
      obtain ⟨u5, u5e, hf⟩ := bd hf
      refine zk_cV (pc := 28) (ci := 8) (q0 := 0) (rest := []) (st1 := [.int u5.1]) (w' := [xM M b_isKept b_size b_at b_from b_sort u5.2.2.2.1 u5.2.2.2.2.2.1 u5.2.2.2.2.2.2 b_bestHarms b_bestRage b_harmed b_raged, xI cy ((M 1)) 7 b_refused, xI cy ((M 2)) 39 u5.2.1, xI cy ((M 4)) 273 u5.2.2.1, xI cy ((M 12)) 40 u5.2.2.2.2.1]) (mk := [some (xM M b_isKept b_size b_at b_from b_sort u5.2.2.2.1 u5.2.2.2.2.2.1 u5.2.2.2.2.2.2 b_bestHarms b_bestRage b_harmed b_raged), none, some (xI cy ((M 2)) 39 u5.2.1), some (xI cy ((M 4)) 273 u5.2.2.1), some (xI cy ((M 12)) 40 u5.2.2.2.2.1)]) C hw (c_X8_both l G cy tt M b_isKept b_size b_at b_from b_sort b_bestHarms b_bestRage b_harmed b_raged x1 x2 b_now b_minds b_fled b_roster b_flights b_firstFlight _ u5e) zy_X8_both zm_X8_282 rfl rfl rfl [0, 2, 3, 4] rfl rfl rfl rfl rfl rfl rfl rfl hl.1 ⟨rfl, rfl⟩ ⟨Nat.le_of_ble_eq_true rfl, Nat.le_of_ble_eq_true rfl⟩ rfl (Nat.le_of_ble_eq_true rfl) ⟨Nat.zero_le _, Nat.zero_le _⟩ dX8_first_28 (fun H locs hw => ?_)
      refine lv_istore_n (pc := 31) (lv' := [(3, .int u5.1), (0, .ref ((M 0))), (1, .int x1), (2, .int x2)]) hx hb dX8_first_31 rfl hl (by decide) rfl (fun ls hl => ?_)
      refine lv_aload_n (pc := 32) hx hb dX8_first_32 rfl (lv_at hl 1 rfl) ?_
      refine lv_iload_n (pc := 33) hx hb dX8_first_33 rfl (lv_at hl 3 rfl) ?_
      refine lv_iload_n (pc := 34) hx hb dX8_first_34 rfl (lv_at hl 2 rfl) ?_
      obtain ⟨u6, u6e, hf⟩ := bd hf
      refine zk_cV (pc := 35) (ci := 8) (q0 := 0) (rest := []) (st1 := [.int u6.1]) (w' := [xM M b_isKept b_size b_at b_from b_sort u6.2.2.2.1 u6.2.2.2.2.2.1 u6.2.2.2.2.2.2 b_bestHarms b_bestRage b_harmed b_raged, xI cy ((M 1)) 7 b_refused, xI cy ((M 2)) 39 u6.2.1, xI cy ((M 4)) 273 u6.2.2.1, xI cy ((M 12)) 40 u6.2.2.2.2.1]) (mk := [some (xM M b_isKept b_size b_at b_from b_sort u6.2.2.2.1 u6.2.2.2.2.2.1 u6.2.2.2.2.2.2 b_bestHarms b_bestRage b_harmed b_raged), none, some (xI cy ((M 2)) 39 u6.2.1), some (xI cy ((M 4)) 273 u6.2.2.1), some (xI cy ((M 12)) 40 u6.2.2.2.2.1)]) C hw (c_X8_both l G cy tt M b_isKept b_size b_at b_from b_sort b_bestHarms b_bestRage b_harmed b_raged x2 x1 u5.2.1 u5.2.2.1 u5.2.2.2.1 u5.2.2.2.2.1 u5.2.2.2.2.2.1 u5.2.2.2.2.2.2 _ u6e) zy_X8_both zm_X8_282 rfl rfl rfl [0, 2, 3, 4] rfl rfl rfl rfl rfl rfl rfl rfl hl.1 ⟨rfl, rfl⟩ ⟨Nat.le_of_ble_eq_true rfl, Nat.le_of_ble_eq_true rfl⟩ rfl (Nat.le_of_ble_eq_true rfl) ⟨Nat.zero_le _, Nat.zero_le _⟩ dX8_first_35 (fun H locs hw => ?_)
      refine lv_istore (pc := 38) (lv' := [(4, .int u6.1), (3, .int u5.1), (0, .ref ((M 0))), (1, .int x1), (2, .int x2)]) hx hb dX8_first_38 hl (by decide) rfl (fun ls hl => ?_)
      refine lv_iload_n (pc := 40) hx hb dX8_first_40 rfl (lv_at hl 1 rfl) ?_
      refine lv_iload (pc := 41) hx hb dX8_first_41 (lv_at hl 0 rfl) ?_
      refine lv_icmp_ge (pc := 43) (tgt := 50) hx hb dX8_first_43 (by decide) (fun q7 => ?_) (fun q7 => ?_)
      · replace hf := if_t q7 hf
        refine lv_iload_n (pc := 50) hx hb dX8_first_50 rfl (lv_at hl 1 rfl) ?_
        refine lv_iload (pc := 51) hx hb dX8_first_51 (lv_at hl 0 rfl) ?_
        refine lv_icmp_le (pc := 53) (tgt := 60) hx hb dX8_first_53 (by decide) (fun q8 => ?_) (fun q8 => ?_)
        · replace hf := if_t q8 hf
          refine lv_iconst (pc := 60) (v := 2) hx hb dX8_first_60 (by decide) ?_
          have hf := Option.some.inj hf
          subst hf
          exact zk_reti (pc := 61) (ww := [xM M b_isKept b_size b_at b_from b_sort u6.2.2.2.1 u6.2.2.2.2.2.1 u6.2.2.2.2.2.2 b_bestHarms b_bestRage b_harmed b_raged, xI cy ((M 1)) 7 b_refused, xI cy ((M 2)) 39 u6.2.1, xI cy ((M 4)) 273 u6.2.2.1, xI cy ((M 12)) 40 u6.2.2.2.2.1]) C hw hr hQ dX8_first_61
        · replace hf := if_f q8 hf
          refine lv_iconst (pc := 56) (v := 1) hx hb dX8_first_56 (by decide) ?_
          refine lv_goto (pc := 57) (tgt := 61) hx hb dX8_first_57 (by decide) ?_
          have hf := Option.some.inj hf
          subst hf
          exact zk_reti (pc := 61) (ww := [xM M b_isKept b_size b_at b_from b_sort u6.2.2.2.1 u6.2.2.2.2.2.1 u6.2.2.2.2.2.2 b_bestHarms b_bestRage b_harmed b_raged, xI cy ((M 1)) 7 b_refused, xI cy ((M 2)) 39 u6.2.1, xI cy ((M 4)) 273 u6.2.2.1, xI cy ((M 12)) 40 u6.2.2.2.2.1]) C hw hr hQ dX8_first_61
      · replace hf := if_f q7 hf
        refine lv_iconst (pc := 46) (v := 0) hx hb dX8_first_46 (by decide) ?_
        refine lv_goto (pc := 47) (tgt := 61) hx hb dX8_first_47 (by decide) ?_
        have hf := Option.some.inj hf
        subst hf
        exact zk_reti (pc := 61) (ww := [xM M b_isKept b_size b_at b_from b_sort u6.2.2.2.1 u6.2.2.2.2.2.1 u6.2.2.2.2.2.2 b_bestHarms b_bestRage b_harmed b_raged, xI cy ((M 1)) 7 b_refused, xI cy ((M 2)) 39 u6.2.1, xI cy ((M 4)) 273 u6.2.2.1, xI cy ((M 12)) 40 u6.2.2.2.2.1]) C hw hr hQ dX8_first_61
    · replace hf := if_f q4 hf
      exact J18 b_refused b_now b_minds b_fled b_roster b_flights b_firstFlight _ _ _ hf hw (lv_sub hl [0] rfl)
def zf_X8_turns_57 (t0 : Int32) (b_now : Nat → Int32) (b_minds : Nat → Int32) (b_fled : Bool) : Option (Int32 × (Nat → Int32) × (Nat → Int32) × Bool) := (Option.bind (zf_X8_lay (((0 : Int32))) b_now b_minds) (fun u7 => some (t0, u7, b_minds, b_fled)))
def zf_X8_turns_11 : Nat → Int32 → Int32 → Int32 → Int32 → Int32 → (Nat → Int32) → (Nat → Int32) → Bool → Option (Int32 × (Nat → Int32) × (Nat → Int32) × Bool)
  | 0, _, _, _, _, _, _, _, _ => none
  | n + 1, v1, v2, v3, v4, v5, b_now, b_minds, b_fled => (if v2 ≤ v5 then (if v3 = 0 then zf_X8_turns_57 ((b_now 33)) b_now b_minds b_fled else zf_X8_turns_57 v4 b_now b_minds b_fled) else (Option.bind (zf_X8_many b_now) (fun u4 => (if u4 = 0 then none else (Option.bind (zf_X8_step ((((v1 + v5) - (v1 + v5) / u4 * u4))) b_now b_fled) (fun u6 => zf_X8_turns_11 n v1 v2 v3 ((v4 + u6.1)) ((v5 + 1)) u6.2.1 b_minds u6.2.2))))))
def zf_X8_turns (x1 : Int32) (x2 : Int32) (x3 : Int32) (b_now : Nat → Int32) (b_minds : Nat → Int32) (b_fled : Bool) : Option (Int32 × (Nat → Int32) × (Nat → Int32) × Bool) := (Option.bind (zf_X8_keep (((0 : Int32))) b_now b_minds) (fun u1 => zf_X8_turns_11 FU x1 x2 x3 ((0 : Int32)) ((0 : Int32)) b_now u1 b_fled))
abbrev zr_X8_turns : Room := { frames := 3, cells := 0, slots := 0, locals := 65 }
set_option maxHeartbeats 4000000 in
set_option maxRecDepth 100000 in
theorem c_X8_turns (l : Launch) (G : va_G) (cy : Nat → ClassId) (tt : Nat → Nat) (M : Nat → Nat) (b_isKept : Bool) (b_size : Int32) (b_at : Int32) (b_from : Int32) (b_sort : Int32) (b_flights : Int32) (b_firstFlight : Int32) (b_bestHarms : Int32) (b_bestRage : Int32) (b_harmed : Int64) (b_raged : Int64) (x1 : Int32) (x2 : Int32) (x3 : Int32) (b_now : Nat → Int32) (b_minds : Nat → Int32) (b_fled : Bool) (res : Int32 × (Nat → Int32) × (Nat → Int32) × Bool) (hf : zf_X8_turns x1 x2 x3 b_now b_minds b_fled = some res) : zCT l yX8_turns cX8_turns 6 (some .int) zr_X8_turns G cy tt [.ref ((M 0)), .int x1, .int x2, .int x3] [xM M b_isKept b_size b_at b_from b_sort b_fled b_flights b_firstFlight b_bestHarms b_bestRage b_harmed b_raged, xI cy ((M 2)) 39 b_now, xI cy ((M 4)) 273 b_minds] (some (.int res.1)) [xM M b_isKept b_size b_at b_from b_sort res.2.2.2 b_flights b_firstFlight b_bestHarms b_bestRage b_harmed b_raged, xI cy ((M 2)) 39 res.2.1, xI cy ((M 4)) 273 res.2.2.1] := by
  refine zk_start zn_X8 (Nat.le_of_ble_eq_true rfl) ?_
  intro p e s m args below meth c A ls Q C hr hQ hw hl
  have C : zCx p m c s args meth cX8_turns 6 RX8 G cy tt A := C
  have hx := C.1.1
  have hb := C.1.2.1
  have hl : lv_has ls 6 [(0, .ref ((M 0))), (1, .int x1), (2, .int x2), (3, .int x3)] := hl
  have J57 : ∀ (t0 : Int32) (b_now : Nat → Int32) (b_minds : Nat → Int32) (b_fled : Bool) (H : Heap) (locs : List Loc) (ls : Array Slot), zf_X8_turns_57 t0 b_now b_minds b_fled = some res → zWd G A s.heap H locs [xM M b_isKept b_size b_at b_from b_sort b_fled b_flights b_firstFlight b_bestHarms b_bestRage b_harmed b_raged, xI cy ((M 2)) 39 b_now, xI cy ((M 4)) 273 b_minds] → lv_has ls 6 [(0, .ref ((M 0)))] → W p l e zr_X8_turns s m args below meth c H locs 0 0 Q (F0 m 57 ls [.int t0]) := by
    intro t0 b_now b_minds b_fled H locs ls hf hw hl
    rw [zf_X8_turns_57] at hf
    refine lv_istore (pc := 57) (lv' := [(5, .int t0), (0, .ref ((M 0)))]) hx hb dX8_turns_57 hl (by decide) rfl (fun ls hl => ?_)
    refine lv_aload_n (pc := 59) hx hb dX8_turns_59 rfl (lv_at hl 1 rfl) ?_
    refine lv_iconst (pc := 60) (v := 0) hx hb dX8_turns_60 (by decide) ?_
    obtain ⟨u7, u7e, hf⟩ := bd hf
    refine zk_cV (pc := 61) (ci := 8) (q0 := 0) (rest := []) (st1 := []) (w' := [xM M b_isKept b_size b_at b_from b_sort b_fled b_flights b_firstFlight b_bestHarms b_bestRage b_harmed b_raged, xI cy ((M 2)) 39 u7, xI cy ((M 4)) 273 b_minds]) (mk := [none, some (xI cy ((M 2)) 39 u7), none]) C hw (c_X8_lay l G cy tt M b_isKept b_size b_at b_from b_sort b_fled b_flights b_firstFlight b_bestHarms b_bestRage b_harmed b_raged (((0 : Int32))) b_now b_minds _ u7e) zy_X8_lay zm_X8_150 rfl rfl rfl [0, 1, 2] rfl rfl rfl rfl rfl rfl rfl rfl hl.1 ⟨rfl, rfl⟩ ⟨Nat.le_of_ble_eq_true rfl, Nat.le_of_ble_eq_true rfl⟩ rfl (Nat.le_of_ble_eq_true rfl) ⟨Nat.zero_le _, Nat.zero_le _⟩ dX8_turns_61 (fun H locs hw => ?_)
    refine lv_iload (pc := 64) hx hb dX8_turns_64 (lv_at hl 0 rfl) ?_
    have hf := Option.some.inj hf
    subst hf
    exact zk_reti (pc := 66) (ww := [xM M b_isKept b_size b_at b_from b_sort b_fled b_flights b_firstFlight b_bestHarms b_bestRage b_harmed b_raged, xI cy ((M 2)) 39 u7, xI cy ((M 4)) 273 b_minds]) C hw hr hQ dX8_turns_66
  have J11 : ∀ (n : Nat), ∀ (v1 : Int32) (v2 : Int32) (v3 : Int32) (v4 : Int32) (v5 : Int32) (b_now : Nat → Int32) (b_minds : Nat → Int32) (b_fled : Bool) (H : Heap) (locs : List Loc) (ls : Array Slot), zf_X8_turns_11 n v1 v2 v3 v4 v5 b_now b_minds b_fled = some res → zWd G A s.heap H locs [xM M b_isKept b_size b_at b_from b_sort b_fled b_flights b_firstFlight b_bestHarms b_bestRage b_harmed b_raged, xI cy ((M 2)) 39 b_now, xI cy ((M 4)) 273 b_minds] → lv_has ls 6 [(0, .ref ((M 0))), (1, .int v1), (2, .int v2), (3, .int v3), (4, .int v4), (5, .int v5)] → W p l e zr_X8_turns s m args below meth c H locs 0 0 Q (F0 m 11 ls []) := by
    intro n
    induction n with
    | zero =>
      intro v1 v2 v3 v4 v5 b_now b_minds b_fled H locs ls hf hw hl
      rw [zf_X8_turns_11] at hf
      cases hf
    | succ n ih =>
      intro v1 v2 v3 v4 v5 b_now b_minds b_fled H locs ls hf hw hl
      rw [zf_X8_turns_11] at hf
      refine lv_iload (pc := 11) hx hb dX8_turns_11 (lv_at hl 5 rfl) ?_
      refine lv_iload_n (pc := 13) hx hb dX8_turns_13 rfl (lv_at hl 2 rfl) ?_
      refine lv_icmp_ge (pc := 14) (tgt := 41) hx hb dX8_turns_14 (by decide) (fun q2 => ?_) (fun q2 => ?_)
      · replace hf := if_t q2 hf
        refine lv_iload_n (pc := 41) hx hb dX8_turns_41 rfl (lv_at hl 3 rfl) ?_
        refine lv_if_ne (pc := 42) (tgt := 55) hx hb dX8_turns_42 (by decide) (fun q3 => ?_) (fun q3 => ?_)
        · replace hf := if_f q3 hf
          refine lv_iload (pc := 55) hx hb dX8_turns_55 (lv_at hl 4 rfl) ?_
          exact J57 v4 b_now b_minds b_fled _ _ _ hf hw (lv_sub hl [0] rfl)
        · replace hf := if_t q3 hf
          refine lv_aload_n (pc := 45) hx hb dX8_turns_45 rfl (lv_at hl 0 rfl) ?_
          refine zk_gt (pc := 46) C hw zl_X8_17 0 rfl rfl dX8_turns_46 ?_
          refine lv_bipush (pc := 49) (v := 33) hx hb dX8_turns_49 (by decide) ?_
          refine zk_ialdK (pc := 51) 33 (by decide) C hw 1 rfl (by decide) dX8_turns_51 ?_
          refine lv_goto (pc := 52) (tgt := 57) hx hb dX8_turns_52 (by decide) ?_
          exact J57 ((b_now 33)) b_now b_minds b_fled _ _ _ hf hw (lv_sub hl [0] rfl)
      · replace hf := if_f q2 hf
        refine lv_iload (pc := 17) hx hb dX8_turns_17 (lv_at hl 4 rfl) ?_
        refine lv_aload_n (pc := 19) hx hb dX8_turns_19 rfl (lv_at hl 0 rfl) ?_
        refine lv_iload_n (pc := 20) hx hb dX8_turns_20 rfl (lv_at hl 1 rfl) ?_
        refine lv_iload (pc := 21) hx hb dX8_turns_21 (lv_at hl 5 rfl) ?_
        refine lv_iadd (pc := 23) hx hb dX8_turns_23 ?_
        refine lv_aload_n (pc := 24) hx hb dX8_turns_24 rfl (lv_at hl 0 rfl) ?_
        obtain ⟨u4, u4e, hf⟩ := bd hf
        refine zk_cV (pc := 25) (ci := 8) (q0 := 0) (rest := [.int ((v1 + v5)), .ref ((M 0)), .int v4]) (st1 := [.int u4, .int ((v1 + v5)), .ref ((M 0)), .int v4]) (w' := [xM M b_isKept b_size b_at b_from b_sort b_fled b_flights b_firstFlight b_bestHarms b_bestRage b_harmed b_raged, xI cy ((M 2)) 39 b_now, xI cy ((M 4)) 273 b_minds]) (mk := [none, none, none]) C hw (c_X8_many l G cy tt M b_isKept b_size b_at b_from b_sort b_fled b_flights b_firstFlight b_bestHarms b_bestRage b_harmed b_raged b_now _ u4e) zy_X8_many zm_X8_80 rfl rfl rfl [0, 1] rfl rfl rfl rfl rfl rfl rfl rfl hl.1 ⟨rfl, rfl⟩ ⟨Nat.le_of_ble_eq_true rfl, Nat.le_of_ble_eq_true rfl⟩ rfl (Nat.le_of_ble_eq_true rfl) ⟨Nat.zero_le _, Nat.zero_le _⟩ dX8_turns_25 (fun H locs hw => ?_)
        obtain ⟨q5, hf⟩ := ck0 hf
        refine lv_irem (pc := 28) hx hb dX8_turns_28 q5 ?_
        obtain ⟨u6, u6e, hf⟩ := bd hf
        refine zk_cV (pc := 29) (ci := 8) (q0 := 0) (rest := [.int v4]) (st1 := [.int u6.1, .int v4]) (w' := [xM M b_isKept b_size b_at b_from b_sort u6.2.2 b_flights b_firstFlight b_bestHarms b_bestRage b_harmed b_raged, xI cy ((M 2)) 39 u6.2.1, xI cy ((M 4)) 273 b_minds]) (mk := [some (xM M b_isKept b_size b_at b_from b_sort u6.2.2 b_flights b_firstFlight b_bestHarms b_bestRage b_harmed b_raged), some (xI cy ((M 2)) 39 u6.2.1), none]) C hw (c_X8_step l G cy tt M b_isKept b_size b_at b_from b_sort b_flights b_firstFlight b_bestHarms b_bestRage b_harmed b_raged ((((v1 + v5) - (v1 + v5) / u4 * u4))) b_now b_fled _ u6e) zy_X8_step zm_X8_181 rfl rfl rfl [0, 1] rfl rfl rfl rfl rfl rfl rfl rfl hl.1 ⟨rfl, rfl⟩ ⟨Nat.le_of_ble_eq_true rfl, Nat.le_of_ble_eq_true rfl⟩ rfl (Nat.le_of_ble_eq_true rfl) ⟨Nat.zero_le _, Nat.zero_le _⟩ dX8_turns_29 (fun H locs hw => ?_)
        refine lv_iadd (pc := 32) hx hb dX8_turns_32 ?_
        refine lv_istore (pc := 33) (lv' := [(4, .int ((v4 + u6.1))), (0, .ref ((M 0))), (1, .int v1), (2, .int v2), (3, .int v3), (5, .int v5)]) hx hb dX8_turns_33 hl (by decide) rfl (fun ls hl => ?_)
        refine lv_iinc (pc := 35) (v := (v5 + 1)) (lv' := [(5, .int ((v5 + 1))), (4, .int ((v4 + u6.1))), (0, .ref ((M 0))), (1, .int v1), (2, .int v2), (3, .int v3)]) hx hb dX8_turns_35 hl (k := 5) rfl rfl (by decide) rfl (fun ls hl => ?_)
        refine lv_goto (pc := 38) (tgt := 11) hx hb dX8_turns_38 (by decide) ?_
        exact ih v1 v2 v3 ((v4 + u6.1)) ((v5 + 1)) u6.2.1 b_minds u6.2.2 _ _ _ hf hw (lv_sub hl [2, 3, 4, 5, 1, 0] rfl)
  rw [zf_X8_turns] at hf
  refine lv_aload_n (pc := 0) hx hb dX8_turns_0 rfl (lv_at hl 0 rfl) ?_
  refine lv_iconst (pc := 1) (v := 0) hx hb dX8_turns_1 (by decide) ?_
  obtain ⟨u1, u1e, hf⟩ := bd hf
  refine zk_cV (pc := 2) (ci := 8) (q0 := 0) (rest := []) (st1 := []) (w' := [xM M b_isKept b_size b_at b_from b_sort b_fled b_flights b_firstFlight b_bestHarms b_bestRage b_harmed b_raged, xI cy ((M 2)) 39 b_now, xI cy ((M 4)) 273 u1]) (mk := [none, none, some (xI cy ((M 4)) 273 u1)]) C hw (c_X8_keep l G cy tt M b_isKept b_size b_at b_from b_sort b_fled b_flights b_firstFlight b_bestHarms b_bestRage b_harmed b_raged (((0 : Int32))) b_now b_minds _ u1e) zy_X8_keep zm_X8_142 rfl rfl rfl [0, 1, 2] rfl rfl rfl rfl rfl rfl rfl rfl hl.1 ⟨rfl, rfl⟩ ⟨Nat.le_of_ble_eq_true rfl, Nat.le_of_ble_eq_true rfl⟩ rfl (Nat.le_of_ble_eq_true rfl) ⟨Nat.zero_le _, Nat.zero_le _⟩ dX8_turns_2 (fun H locs hw => ?_)
  refine lv_iconst (pc := 5) (v := 0) hx hb dX8_turns_5 (by decide) ?_
  refine lv_istore (pc := 6) (lv' := [(4, .int ((0 : Int32))), (0, .ref ((M 0))), (1, .int x1), (2, .int x2), (3, .int x3)]) hx hb dX8_turns_6 hl (by decide) rfl (fun ls hl => ?_)
  refine lv_iconst (pc := 8) (v := 0) hx hb dX8_turns_8 (by decide) ?_
  refine lv_istore (pc := 9) (lv' := [(5, .int ((0 : Int32))), (4, .int ((0 : Int32))), (0, .ref ((M 0))), (1, .int x1), (2, .int x2), (3, .int x3)]) hx hb dX8_turns_9 hl (by decide) rfl (fun ls hl => ?_)
  exact J11 FU x1 x2 x3 ((0 : Int32)) ((0 : Int32)) b_now u1 b_fled _ _ _ hf hw (lv_sub hl [2, 3, 4, 5, 1, 0] rfl)
def zf_X8_byTurns_31 (b_refused : Nat → Int32) (b_now : Nat → Int32) (b_minds : Nat → Int32) (b_fled : Bool) : Option (Int32 × (Nat → Int32) × (Nat → Int32) × (Nat → Int32) × Bool) := (Option.bind (zf_X8_refuse (((-2 : Int32))) b_refused) (fun u6 => some (u6.1, u6.2, b_now, b_minds, b_fled)))
def zf_X8_byTurns (x1 : Int32) (x2 : Int32) (b_refused : Nat → Int32) (b_now : Nat → Int32) (b_minds : Nat → Int32) (b_fled : Bool) : Option (Int32 × (Nat → Int32) × (Nat → Int32) × (Nat → Int32) × Bool) := (Option.bind (zf_X8_isKeeper x1.toInt64 b_now) (fun u1 => (if u1 then (Option.bind (zf_X8_isIn x2.toInt64 (((0 : Int64))) (((48 : Int64)))) (fun u3 => (if u3 then (Option.bind (zf_X8_turns x1 x2 (((0 : Int32))) b_now b_minds b_fled) (fun u5 => some (u5.1, b_refused, u5.2.1, u5.2.2.1, u5.2.2.2))) else zf_X8_byTurns_31 b_refused b_now b_minds b_fled))) else zf_X8_byTurns_31 b_refused b_now b_minds b_fled)))
abbrev zr_X8_byTurns : Room := { frames := 4, cells := 0, slots := 0, locals := 90 }
set_option maxHeartbeats 4000000 in
set_option maxRecDepth 100000 in
theorem c_X8_byTurns (l : Launch) (G : va_G) (cy : Nat → ClassId) (tt : Nat → Nat) (M : Nat → Nat) (b_isKept : Bool) (b_size : Int32) (b_at : Int32) (b_from : Int32) (b_sort : Int32) (b_flights : Int32) (b_firstFlight : Int32) (b_bestHarms : Int32) (b_bestRage : Int32) (b_harmed : Int64) (b_raged : Int64) (x1 : Int32) (x2 : Int32) (b_refused : Nat → Int32) (b_now : Nat → Int32) (b_minds : Nat → Int32) (b_fled : Bool) (res : Int32 × (Nat → Int32) × (Nat → Int32) × (Nat → Int32) × Bool) (hf : zf_X8_byTurns x1 x2 b_refused b_now b_minds b_fled = some res) : zCT l yX8_byTurns cX8_byTurns 3 (some .int) zr_X8_byTurns G cy tt [.ref ((M 0)), .int x1, .int x2] [xM M b_isKept b_size b_at b_from b_sort b_fled b_flights b_firstFlight b_bestHarms b_bestRage b_harmed b_raged, xI cy ((M 1)) 7 b_refused, xI cy ((M 2)) 39 b_now, xI cy ((M 4)) 273 b_minds] (some (.int res.1)) [xM M b_isKept b_size b_at b_from b_sort res.2.2.2.2 b_flights b_firstFlight b_bestHarms b_bestRage b_harmed b_raged, xI cy ((M 1)) 7 res.2.1, xI cy ((M 2)) 39 res.2.2.1, xI cy ((M 4)) 273 res.2.2.2.1] := by
  refine zk_start zn_X8 (Nat.le_of_ble_eq_true rfl) ?_
  intro p e s m args below meth c A ls Q C hr hQ hw hl
  have C : zCx p m c s args meth cX8_byTurns 3 RX8 G cy tt A := C
  have hx := C.1.1
  have hb := C.1.2.1
  have hl : lv_has ls 3 [(0, .ref ((M 0))), (1, .int x1), (2, .int x2)] := hl
  have J31 : ∀ (b_refused : Nat → Int32) (b_now : Nat → Int32) (b_minds : Nat → Int32) (b_fled : Bool) (H : Heap) (locs : List Loc) (ls : Array Slot), zf_X8_byTurns_31 b_refused b_now b_minds b_fled = some res → zWd G A s.heap H locs [xM M b_isKept b_size b_at b_from b_sort b_fled b_flights b_firstFlight b_bestHarms b_bestRage b_harmed b_raged, xI cy ((M 1)) 7 b_refused, xI cy ((M 2)) 39 b_now, xI cy ((M 4)) 273 b_minds] → lv_has ls 3 [(0, .ref ((M 0)))] → W p l e zr_X8_byTurns s m args below meth c H locs 0 0 Q (F0 m 31 ls []) := by
    intro b_refused b_now b_minds b_fled H locs ls hf hw hl
    rw [zf_X8_byTurns_31] at hf
    refine lv_aload_n (pc := 31) hx hb dX8_byTurns_31 rfl (lv_at hl 0 rfl) ?_
    refine lv_bipush (pc := 32) (v := -2) hx hb dX8_byTurns_32 (by decide) ?_
    obtain ⟨u6, u6e, hf⟩ := bd hf
    refine zk_cV (pc := 34) (ci := 8) (q0 := 0) (rest := []) (st1 := [.int u6.1]) (w' := [xM M b_isKept b_size b_at b_from b_sort b_fled b_flights b_firstFlight b_bestHarms b_bestRage b_harmed b_raged, xI cy ((M 1)) 7 u6.2, xI cy ((M 2)) 39 b_now, xI cy ((M 4)) 273 b_minds]) (mk := [none, some (xI cy ((M 1)) 7 u6.2), none, none]) C hw (c_X8_refuse l G cy tt M b_isKept b_size b_at b_from b_sort b_fled b_flights b_firstFlight b_bestHarms b_bestRage b_harmed b_raged (((-2 : Int32))) b_refused _ u6e) zy_X8_refuse zm_X8_90 rfl rfl rfl [0, 1] rfl rfl rfl rfl rfl rfl rfl rfl hl.1 ⟨rfl, rfl⟩ ⟨Nat.le_of_ble_eq_true rfl, Nat.le_of_ble_eq_true rfl⟩ rfl (Nat.le_of_ble_eq_true rfl) ⟨Nat.zero_le _, Nat.zero_le _⟩ dX8_byTurns_34 (fun H locs hw => ?_)
    have hf := Option.some.inj hf
    subst hf
    exact zk_reti (pc := 37) (ww := [xM M b_isKept b_size b_at b_from b_sort b_fled b_flights b_firstFlight b_bestHarms b_bestRage b_harmed b_raged, xI cy ((M 1)) 7 u6.2, xI cy ((M 2)) 39 b_now, xI cy ((M 4)) 273 b_minds]) C hw hr hQ dX8_byTurns_37
  rw [zf_X8_byTurns] at hf
  refine lv_aload_n (pc := 0) hx hb dX8_byTurns_0 rfl (lv_at hl 0 rfl) ?_
  refine lv_iload_n (pc := 1) hx hb dX8_byTurns_1 rfl (lv_at hl 1 rfl) ?_
  refine lv_i2l (pc := 2) (v := x1.toInt64) hx hb dX8_byTurns_2 rfl ?_
  obtain ⟨u1, u1e, hf⟩ := bd hf
  refine zk_cV (pc := 3) (ci := 8) (q0 := 0) (rest := []) (st1 := [.int (bI u1)]) (w' := [xM M b_isKept b_size b_at b_from b_sort b_fled b_flights b_firstFlight b_bestHarms b_bestRage b_harmed b_raged, xI cy ((M 1)) 7 b_refused, xI cy ((M 2)) 39 b_now, xI cy ((M 4)) 273 b_minds]) (mk := [none, none, none, none]) C hw (c_X8_isKeeper l G cy tt M b_isKept b_size b_at b_from b_sort b_fled b_flights b_firstFlight b_bestHarms b_bestRage b_harmed b_raged x1.toInt64 b_now _ u1e) zy_X8_isKeeper zm_X8_76 rfl rfl rfl [0, 2] rfl rfl rfl rfl rfl rfl rfl rfl hl.1 ⟨rfl, rfl⟩ ⟨Nat.le_of_ble_eq_true rfl, Nat.le_of_ble_eq_true rfl⟩ rfl (Nat.le_of_ble_eq_true rfl) ⟨Nat.zero_le _, Nat.zero_le _⟩ dX8_byTurns_3 (fun H locs hw => ?_)
  refine zk_ifz (pc := 6) (tgt := 31) hx hb dX8_byTurns_6 (by decide) (fun q2 => ?_) (fun q2 => ?_)
  · replace hf := if_f q2 hf
    exact J31 b_refused b_now b_minds b_fled _ _ _ hf hw (lv_sub hl [0] rfl)
  · replace hf := if_t q2 hf
    refine lv_iload_n (pc := 9) hx hb dX8_byTurns_9 rfl (lv_at hl 2 rfl) ?_
    refine lv_i2l (pc := 10) (v := x2.toInt64) hx hb dX8_byTurns_10 rfl ?_
    refine lv_lconst (pc := 11) (v := 0) hx hb dX8_byTurns_11 (by decide) ?_
    refine lv_ldc2 (pc := 12) (v := 48) hx hb C.1.2.2.2.1 (C.1.2.2.2.2 _ zc_X8_117) dX8_byTurns_12 ?_
    obtain ⟨u3, u3e, hf⟩ := bd hf
    refine zk_cS (pc := 15) (rest := []) (st1 := [.int (bI u3)]) (w' := [xM M b_isKept b_size b_at b_from b_sort b_fled b_flights b_firstFlight b_bestHarms b_bestRage b_harmed b_raged, xI cy ((M 1)) 7 b_refused, xI cy ((M 2)) 39 b_now, xI cy ((M 4)) 273 b_minds]) (mk := [none, none, none, none]) C hw (c_X8_isIn l G cy tt x2.toInt64 (((0 : Int64))) (((48 : Int64))) _ u3e) zy_X8_isIn zm_X8_68 [] rfl rfl rfl rfl rfl rfl rfl rfl hl.1 ⟨rfl, rfl⟩ ⟨Nat.le_of_ble_eq_true rfl, Nat.le_of_ble_eq_true rfl⟩ rfl (Nat.le_of_ble_eq_true rfl) ⟨Nat.zero_le _, Nat.zero_le _⟩ dX8_byTurns_15 (fun H locs hw => ?_)
    refine zk_ifz (pc := 18) (tgt := 31) hx hb dX8_byTurns_18 (by decide) (fun q4 => ?_) (fun q4 => ?_)
    · replace hf := if_f q4 hf
      exact J31 b_refused b_now b_minds b_fled _ _ _ hf hw (lv_sub hl [0] rfl)
    · replace hf := if_t q4 hf
      refine lv_aload_n (pc := 21) hx hb dX8_byTurns_21 rfl (lv_at hl 0 rfl) ?_
      refine lv_iload_n (pc := 22) hx hb dX8_byTurns_22 rfl (lv_at hl 1 rfl) ?_
      refine lv_iload_n (pc := 23) hx hb dX8_byTurns_23 rfl (lv_at hl 2 rfl) ?_
      refine lv_iconst (pc := 24) (v := 0) hx hb dX8_byTurns_24 (by decide) ?_
      obtain ⟨u5, u5e, hf⟩ := bd hf
      refine zk_cV (pc := 25) (ci := 8) (q0 := 0) (rest := []) (st1 := [.int u5.1]) (w' := [xM M b_isKept b_size b_at b_from b_sort u5.2.2.2 b_flights b_firstFlight b_bestHarms b_bestRage b_harmed b_raged, xI cy ((M 1)) 7 b_refused, xI cy ((M 2)) 39 u5.2.1, xI cy ((M 4)) 273 u5.2.2.1]) (mk := [some (xM M b_isKept b_size b_at b_from b_sort u5.2.2.2 b_flights b_firstFlight b_bestHarms b_bestRage b_harmed b_raged), none, some (xI cy ((M 2)) 39 u5.2.1), some (xI cy ((M 4)) 273 u5.2.2.1)]) C hw (c_X8_turns l G cy tt M b_isKept b_size b_at b_from b_sort b_flights b_firstFlight b_bestHarms b_bestRage b_harmed b_raged x1 x2 (((0 : Int32))) b_now b_minds b_fled _ u5e) zy_X8_turns zm_X8_285 rfl rfl rfl [0, 2, 3] rfl rfl rfl rfl rfl rfl rfl rfl hl.1 ⟨rfl, rfl⟩ ⟨Nat.le_of_ble_eq_true rfl, Nat.le_of_ble_eq_true rfl⟩ rfl (Nat.le_of_ble_eq_true rfl) ⟨Nat.zero_le _, Nat.zero_le _⟩ dX8_byTurns_25 (fun H locs hw => ?_)
      refine lv_goto (pc := 28) (tgt := 37) hx hb dX8_byTurns_28 (by decide) ?_
      have hf := Option.some.inj hf
      subst hf
      exact zk_reti (pc := 37) (ww := [xM M b_isKept b_size b_at b_from b_sort u5.2.2.2 b_flights b_firstFlight b_bestHarms b_bestRage b_harmed b_raged, xI cy ((M 1)) 7 b_refused, xI cy ((M 2)) 39 u5.2.1, xI cy ((M 4)) 273 u5.2.2.1]) C hw hr hQ dX8_byTurns_37
def zf_X8_harms_31 (b_refused : Nat → Int32) (b_now : Nat → Int32) (b_minds : Nat → Int32) (b_fled : Bool) : Option (Int32 × (Nat → Int32) × (Nat → Int32) × (Nat → Int32) × Bool) := (Option.bind (zf_X8_refuse (((-2 : Int32))) b_refused) (fun u6 => some (u6.1, u6.2, b_now, b_minds, b_fled)))
def zf_X8_harms (x1 : Int32) (x2 : Int32) (b_refused : Nat → Int32) (b_now : Nat → Int32) (b_minds : Nat → Int32) (b_fled : Bool) : Option (Int32 × (Nat → Int32) × (Nat → Int32) × (Nat → Int32) × Bool) := (Option.bind (zf_X8_isKeeper x1.toInt64 b_now) (fun u1 => (if u1 then (Option.bind (zf_X8_isIn x2.toInt64 (((0 : Int64))) (((48 : Int64)))) (fun u3 => (if u3 then (Option.bind (zf_X8_turns x1 x2 (((1 : Int32))) b_now b_minds b_fled) (fun u5 => some (u5.1, b_refused, u5.2.1, u5.2.2.1, u5.2.2.2))) else zf_X8_harms_31 b_refused b_now b_minds b_fled))) else zf_X8_harms_31 b_refused b_now b_minds b_fled)))
abbrev zr_X8_harms : Room := { frames := 4, cells := 0, slots := 0, locals := 90 }
set_option maxHeartbeats 4000000 in
set_option maxRecDepth 100000 in
theorem c_X8_harms (l : Launch) (G : va_G) (cy : Nat → ClassId) (tt : Nat → Nat) (M : Nat → Nat) (b_isKept : Bool) (b_size : Int32) (b_at : Int32) (b_from : Int32) (b_sort : Int32) (b_flights : Int32) (b_firstFlight : Int32) (b_bestHarms : Int32) (b_bestRage : Int32) (b_harmed : Int64) (b_raged : Int64) (x1 : Int32) (x2 : Int32) (b_refused : Nat → Int32) (b_now : Nat → Int32) (b_minds : Nat → Int32) (b_fled : Bool) (res : Int32 × (Nat → Int32) × (Nat → Int32) × (Nat → Int32) × Bool) (hf : zf_X8_harms x1 x2 b_refused b_now b_minds b_fled = some res) : zCT l yX8_harms cX8_harms 3 (some .int) zr_X8_harms G cy tt [.ref ((M 0)), .int x1, .int x2] [xM M b_isKept b_size b_at b_from b_sort b_fled b_flights b_firstFlight b_bestHarms b_bestRage b_harmed b_raged, xI cy ((M 1)) 7 b_refused, xI cy ((M 2)) 39 b_now, xI cy ((M 4)) 273 b_minds] (some (.int res.1)) [xM M b_isKept b_size b_at b_from b_sort res.2.2.2.2 b_flights b_firstFlight b_bestHarms b_bestRage b_harmed b_raged, xI cy ((M 1)) 7 res.2.1, xI cy ((M 2)) 39 res.2.2.1, xI cy ((M 4)) 273 res.2.2.2.1] := by
  refine zk_start zn_X8 (Nat.le_of_ble_eq_true rfl) ?_
  intro p e s m args below meth c A ls Q C hr hQ hw hl
  have C : zCx p m c s args meth cX8_harms 3 RX8 G cy tt A := C
  have hx := C.1.1
  have hb := C.1.2.1
  have hl : lv_has ls 3 [(0, .ref ((M 0))), (1, .int x1), (2, .int x2)] := hl
  have J31 : ∀ (b_refused : Nat → Int32) (b_now : Nat → Int32) (b_minds : Nat → Int32) (b_fled : Bool) (H : Heap) (locs : List Loc) (ls : Array Slot), zf_X8_harms_31 b_refused b_now b_minds b_fled = some res → zWd G A s.heap H locs [xM M b_isKept b_size b_at b_from b_sort b_fled b_flights b_firstFlight b_bestHarms b_bestRage b_harmed b_raged, xI cy ((M 1)) 7 b_refused, xI cy ((M 2)) 39 b_now, xI cy ((M 4)) 273 b_minds] → lv_has ls 3 [(0, .ref ((M 0)))] → W p l e zr_X8_harms s m args below meth c H locs 0 0 Q (F0 m 31 ls []) := by
    intro b_refused b_now b_minds b_fled H locs ls hf hw hl
    rw [zf_X8_harms_31] at hf
    refine lv_aload_n (pc := 31) hx hb dX8_harms_31 rfl (lv_at hl 0 rfl) ?_
    refine lv_bipush (pc := 32) (v := -2) hx hb dX8_harms_32 (by decide) ?_
    obtain ⟨u6, u6e, hf⟩ := bd hf
    refine zk_cV (pc := 34) (ci := 8) (q0 := 0) (rest := []) (st1 := [.int u6.1]) (w' := [xM M b_isKept b_size b_at b_from b_sort b_fled b_flights b_firstFlight b_bestHarms b_bestRage b_harmed b_raged, xI cy ((M 1)) 7 u6.2, xI cy ((M 2)) 39 b_now, xI cy ((M 4)) 273 b_minds]) (mk := [none, some (xI cy ((M 1)) 7 u6.2), none, none]) C hw (c_X8_refuse l G cy tt M b_isKept b_size b_at b_from b_sort b_fled b_flights b_firstFlight b_bestHarms b_bestRage b_harmed b_raged (((-2 : Int32))) b_refused _ u6e) zy_X8_refuse zm_X8_90 rfl rfl rfl [0, 1] rfl rfl rfl rfl rfl rfl rfl rfl hl.1 ⟨rfl, rfl⟩ ⟨Nat.le_of_ble_eq_true rfl, Nat.le_of_ble_eq_true rfl⟩ rfl (Nat.le_of_ble_eq_true rfl) ⟨Nat.zero_le _, Nat.zero_le _⟩ dX8_harms_34 (fun H locs hw => ?_)
    have hf := Option.some.inj hf
    subst hf
    exact zk_reti (pc := 37) (ww := [xM M b_isKept b_size b_at b_from b_sort b_fled b_flights b_firstFlight b_bestHarms b_bestRage b_harmed b_raged, xI cy ((M 1)) 7 u6.2, xI cy ((M 2)) 39 b_now, xI cy ((M 4)) 273 b_minds]) C hw hr hQ dX8_harms_37
  rw [zf_X8_harms] at hf
  refine lv_aload_n (pc := 0) hx hb dX8_harms_0 rfl (lv_at hl 0 rfl) ?_
  refine lv_iload_n (pc := 1) hx hb dX8_harms_1 rfl (lv_at hl 1 rfl) ?_
  refine lv_i2l (pc := 2) (v := x1.toInt64) hx hb dX8_harms_2 rfl ?_
  obtain ⟨u1, u1e, hf⟩ := bd hf
  refine zk_cV (pc := 3) (ci := 8) (q0 := 0) (rest := []) (st1 := [.int (bI u1)]) (w' := [xM M b_isKept b_size b_at b_from b_sort b_fled b_flights b_firstFlight b_bestHarms b_bestRage b_harmed b_raged, xI cy ((M 1)) 7 b_refused, xI cy ((M 2)) 39 b_now, xI cy ((M 4)) 273 b_minds]) (mk := [none, none, none, none]) C hw (c_X8_isKeeper l G cy tt M b_isKept b_size b_at b_from b_sort b_fled b_flights b_firstFlight b_bestHarms b_bestRage b_harmed b_raged x1.toInt64 b_now _ u1e) zy_X8_isKeeper zm_X8_76 rfl rfl rfl [0, 2] rfl rfl rfl rfl rfl rfl rfl rfl hl.1 ⟨rfl, rfl⟩ ⟨Nat.le_of_ble_eq_true rfl, Nat.le_of_ble_eq_true rfl⟩ rfl (Nat.le_of_ble_eq_true rfl) ⟨Nat.zero_le _, Nat.zero_le _⟩ dX8_harms_3 (fun H locs hw => ?_)
  refine zk_ifz (pc := 6) (tgt := 31) hx hb dX8_harms_6 (by decide) (fun q2 => ?_) (fun q2 => ?_)
  · replace hf := if_f q2 hf
    exact J31 b_refused b_now b_minds b_fled _ _ _ hf hw (lv_sub hl [0] rfl)
  · replace hf := if_t q2 hf
    refine lv_iload_n (pc := 9) hx hb dX8_harms_9 rfl (lv_at hl 2 rfl) ?_
    refine lv_i2l (pc := 10) (v := x2.toInt64) hx hb dX8_harms_10 rfl ?_
    refine lv_lconst (pc := 11) (v := 0) hx hb dX8_harms_11 (by decide) ?_
    refine lv_ldc2 (pc := 12) (v := 48) hx hb C.1.2.2.2.1 (C.1.2.2.2.2 _ zc_X8_117) dX8_harms_12 ?_
    obtain ⟨u3, u3e, hf⟩ := bd hf
    refine zk_cS (pc := 15) (rest := []) (st1 := [.int (bI u3)]) (w' := [xM M b_isKept b_size b_at b_from b_sort b_fled b_flights b_firstFlight b_bestHarms b_bestRage b_harmed b_raged, xI cy ((M 1)) 7 b_refused, xI cy ((M 2)) 39 b_now, xI cy ((M 4)) 273 b_minds]) (mk := [none, none, none, none]) C hw (c_X8_isIn l G cy tt x2.toInt64 (((0 : Int64))) (((48 : Int64))) _ u3e) zy_X8_isIn zm_X8_68 [] rfl rfl rfl rfl rfl rfl rfl rfl hl.1 ⟨rfl, rfl⟩ ⟨Nat.le_of_ble_eq_true rfl, Nat.le_of_ble_eq_true rfl⟩ rfl (Nat.le_of_ble_eq_true rfl) ⟨Nat.zero_le _, Nat.zero_le _⟩ dX8_harms_15 (fun H locs hw => ?_)
    refine zk_ifz (pc := 18) (tgt := 31) hx hb dX8_harms_18 (by decide) (fun q4 => ?_) (fun q4 => ?_)
    · replace hf := if_f q4 hf
      exact J31 b_refused b_now b_minds b_fled _ _ _ hf hw (lv_sub hl [0] rfl)
    · replace hf := if_t q4 hf
      refine lv_aload_n (pc := 21) hx hb dX8_harms_21 rfl (lv_at hl 0 rfl) ?_
      refine lv_iload_n (pc := 22) hx hb dX8_harms_22 rfl (lv_at hl 1 rfl) ?_
      refine lv_iload_n (pc := 23) hx hb dX8_harms_23 rfl (lv_at hl 2 rfl) ?_
      refine lv_iconst (pc := 24) (v := 1) hx hb dX8_harms_24 (by decide) ?_
      obtain ⟨u5, u5e, hf⟩ := bd hf
      refine zk_cV (pc := 25) (ci := 8) (q0 := 0) (rest := []) (st1 := [.int u5.1]) (w' := [xM M b_isKept b_size b_at b_from b_sort u5.2.2.2 b_flights b_firstFlight b_bestHarms b_bestRage b_harmed b_raged, xI cy ((M 1)) 7 b_refused, xI cy ((M 2)) 39 u5.2.1, xI cy ((M 4)) 273 u5.2.2.1]) (mk := [some (xM M b_isKept b_size b_at b_from b_sort u5.2.2.2 b_flights b_firstFlight b_bestHarms b_bestRage b_harmed b_raged), none, some (xI cy ((M 2)) 39 u5.2.1), some (xI cy ((M 4)) 273 u5.2.2.1)]) C hw (c_X8_turns l G cy tt M b_isKept b_size b_at b_from b_sort b_flights b_firstFlight b_bestHarms b_bestRage b_harmed b_raged x1 x2 (((1 : Int32))) b_now b_minds b_fled _ u5e) zy_X8_turns zm_X8_285 rfl rfl rfl [0, 2, 3] rfl rfl rfl rfl rfl rfl rfl rfl hl.1 ⟨rfl, rfl⟩ ⟨Nat.le_of_ble_eq_true rfl, Nat.le_of_ble_eq_true rfl⟩ rfl (Nat.le_of_ble_eq_true rfl) ⟨Nat.zero_le _, Nat.zero_le _⟩ dX8_harms_25 (fun H locs hw => ?_)
      refine lv_goto (pc := 28) (tgt := 37) hx hb dX8_harms_28 (by decide) ?_
      have hf := Option.some.inj hf
      subst hf
      exact zk_reti (pc := 37) (ww := [xM M b_isKept b_size b_at b_from b_sort u5.2.2.2 b_flights b_firstFlight b_bestHarms b_bestRage b_harmed b_raged, xI cy ((M 1)) 7 b_refused, xI cy ((M 2)) 39 u5.2.1, xI cy ((M 4)) 273 u5.2.2.1]) C hw hr hQ dX8_harms_37
def zf_X8_starts_50 (k18 : Int32 → Int32 → (Nat → Int32) → (Nat → Int32) → (Nat → Int32) → Bool → Option (Int32 × (Nat → Int32) × (Nat → Int32) × (Nat → Int32) × Bool)) (v2 : Int32) (t0 : Int32) (b_refused : Nat → Int32) (b_now : Nat → Int32) (b_minds : Nat → Int32) (b_fled : Bool) : Option (Int32 × (Nat → Int32) × (Nat → Int32) × (Nat → Int32) × Bool) := k18 t0 ((v2 + 1)) b_refused b_now b_minds b_fled
def zf_X8_starts_18 : Nat → Int32 → Int32 → (Nat → Int32) → (Nat → Int32) → (Nat → Int32) → Bool → Option (Int32 × (Nat → Int32) × (Nat → Int32) × (Nat → Int32) × Bool)
  | 0, _, _, _, _, _, _ => none
  | n + 1, v1, v2, b_refused, b_now, b_minds, b_fled => (Option.bind (zf_X8_many b_now) (fun u4 => (if u4 ≤ v2 then some (v1, b_refused, b_now, b_minds, b_fled) else (Option.bind (zf_X8_turns v2 (((24 : Int32))) (((1 : Int32))) b_now b_minds b_fled) (fun u6 => (Option.bind (zf_X8_turns v1 (((24 : Int32))) (((1 : Int32))) u6.2.1 u6.2.2.1 u6.2.2.2) (fun u7 => (if u7.1 ≤ u6.1 then zf_X8_starts_50 (zf_X8_starts_18 n) v2 v1 b_refused u7.2.1 u7.2.2.1 u7.2.2.2 else zf_X8_starts_50 (zf_X8_starts_18 n) v2 v2 b_refused u7.2.1 u7.2.2.1 u7.2.2.2))))))))
def zf_X8_starts  (b_refused : Nat → Int32) (b_now : Nat → Int32) (b_minds : Nat → Int32) (b_fled : Bool) : Option (Int32 × (Nat → Int32) × (Nat → Int32) × (Nat → Int32) × Bool) := (Option.bind (zf_X8_many b_now) (fun u1 => (if u1 = 0 then (Option.bind (zf_X8_refuse (((-5 : Int32))) b_refused) (fun u3 => some (u3.1, u3.2, b_now, b_minds, b_fled))) else zf_X8_starts_18 FU ((0 : Int32)) ((1 : Int32)) b_refused b_now b_minds b_fled)))
abbrev zr_X8_starts : Room := { frames := 4, cells := 0, slots := 0, locals := 90 }
set_option maxHeartbeats 4000000 in
set_option maxRecDepth 100000 in
theorem c_X8_starts (l : Launch) (G : va_G) (cy : Nat → ClassId) (tt : Nat → Nat) (M : Nat → Nat) (b_isKept : Bool) (b_size : Int32) (b_at : Int32) (b_from : Int32) (b_sort : Int32) (b_flights : Int32) (b_firstFlight : Int32) (b_bestHarms : Int32) (b_bestRage : Int32) (b_harmed : Int64) (b_raged : Int64)  (b_refused : Nat → Int32) (b_now : Nat → Int32) (b_minds : Nat → Int32) (b_fled : Bool) (res : Int32 × (Nat → Int32) × (Nat → Int32) × (Nat → Int32) × Bool) (hf : zf_X8_starts b_refused b_now b_minds b_fled = some res) : zCT l yX8_starts cX8_starts 3 (some .int) zr_X8_starts G cy tt [.ref ((M 0))] [xM M b_isKept b_size b_at b_from b_sort b_fled b_flights b_firstFlight b_bestHarms b_bestRage b_harmed b_raged, xI cy ((M 1)) 7 b_refused, xI cy ((M 2)) 39 b_now, xI cy ((M 4)) 273 b_minds] (some (.int res.1)) [xM M b_isKept b_size b_at b_from b_sort res.2.2.2.2 b_flights b_firstFlight b_bestHarms b_bestRage b_harmed b_raged, xI cy ((M 1)) 7 res.2.1, xI cy ((M 2)) 39 res.2.2.1, xI cy ((M 4)) 273 res.2.2.2.1] := by
  refine zk_start zn_X8 (Nat.le_of_ble_eq_true rfl) ?_
  intro p e s m args below meth c A ls Q C hr hQ hw hl
  have C : zCx p m c s args meth cX8_starts 3 RX8 G cy tt A := C
  have hx := C.1.1
  have hb := C.1.2.1
  have hl : lv_has ls 3 [(0, .ref ((M 0)))] := hl
  have J50 : ∀ (k18 : Int32 → Int32 → (Nat → Int32) → (Nat → Int32) → (Nat → Int32) → Bool → Option (Int32 × (Nat → Int32) × (Nat → Int32) × (Nat → Int32) × Bool)) (K18 : ∀ (v1 : Int32) (v2 : Int32) (b_refused : Nat → Int32) (b_now : Nat → Int32) (b_minds : Nat → Int32) (b_fled : Bool) (H : Heap) (locs : List Loc) (ls : Array Slot), k18 v1 v2 b_refused b_now b_minds b_fled = some res → zWd G A s.heap H locs [xM M b_isKept b_size b_at b_from b_sort b_fled b_flights b_firstFlight b_bestHarms b_bestRage b_harmed b_raged, xI cy ((M 1)) 7 b_refused, xI cy ((M 2)) 39 b_now, xI cy ((M 4)) 273 b_minds] → lv_has ls 3 [(0, .ref ((M 0))), (1, .int v1), (2, .int v2)] → W p l e zr_X8_starts s m args below meth c H locs 0 0 Q (F0 m 18 ls [])), ∀ (v2 : Int32) (t0 : Int32) (b_refused : Nat → Int32) (b_now : Nat → Int32) (b_minds : Nat → Int32) (b_fled : Bool) (H : Heap) (locs : List Loc) (ls : Array Slot), zf_X8_starts_50 k18 v2 t0 b_refused b_now b_minds b_fled = some res → zWd G A s.heap H locs [xM M b_isKept b_size b_at b_from b_sort b_fled b_flights b_firstFlight b_bestHarms b_bestRage b_harmed b_raged, xI cy ((M 1)) 7 b_refused, xI cy ((M 2)) 39 b_now, xI cy ((M 4)) 273 b_minds] → lv_has ls 3 [(0, .ref ((M 0))), (2, .int v2)] → W p l e zr_X8_starts s m args below meth c H locs 0 0 Q (F0 m 50 ls [.int t0]) := by
    intro k18 K18 v2 t0 b_refused b_now b_minds b_fled H locs ls hf hw hl
    rw [zf_X8_starts_50] at hf
    refine lv_istore_n (pc := 50) (lv' := [(1, .int t0), (0, .ref ((M 0))), (2, .int v2)]) hx hb dX8_starts_50 rfl hl (by decide) rfl (fun ls hl => ?_)
    refine lv_iinc (pc := 51) (v := (v2 + 1)) (lv' := [(2, .int ((v2 + 1))), (1, .int t0), (0, .ref ((M 0)))]) hx hb dX8_starts_51 hl (k := 2) rfl rfl (by decide) rfl (fun ls hl => ?_)
    refine lv_goto (pc := 54) (tgt := 18) hx hb dX8_starts_54 (by decide) ?_
    exact K18 t0 ((v2 + 1)) b_refused b_now b_minds b_fled _ _ _ hf hw (lv_sub hl [2, 1, 0] rfl)
  have J18 : ∀ (n : Nat), ∀ (v1 : Int32) (v2 : Int32) (b_refused : Nat → Int32) (b_now : Nat → Int32) (b_minds : Nat → Int32) (b_fled : Bool) (H : Heap) (locs : List Loc) (ls : Array Slot), zf_X8_starts_18 n v1 v2 b_refused b_now b_minds b_fled = some res → zWd G A s.heap H locs [xM M b_isKept b_size b_at b_from b_sort b_fled b_flights b_firstFlight b_bestHarms b_bestRage b_harmed b_raged, xI cy ((M 1)) 7 b_refused, xI cy ((M 2)) 39 b_now, xI cy ((M 4)) 273 b_minds] → lv_has ls 3 [(0, .ref ((M 0))), (1, .int v1), (2, .int v2)] → W p l e zr_X8_starts s m args below meth c H locs 0 0 Q (F0 m 18 ls []) := by
    intro n
    induction n with
    | zero =>
      intro v1 v2 b_refused b_now b_minds b_fled H locs ls hf hw hl
      rw [zf_X8_starts_18] at hf
      cases hf
    | succ n ih =>
      intro v1 v2 b_refused b_now b_minds b_fled H locs ls hf hw hl
      rw [zf_X8_starts_18] at hf
      refine lv_iload_n (pc := 18) hx hb dX8_starts_18 rfl (lv_at hl 2 rfl) ?_
      refine lv_aload_n (pc := 19) hx hb dX8_starts_19 rfl (lv_at hl 0 rfl) ?_
      obtain ⟨u4, u4e, hf⟩ := bd hf
      refine zk_cV (pc := 20) (ci := 8) (q0 := 0) (rest := [.int v2]) (st1 := [.int u4, .int v2]) (w' := [xM M b_isKept b_size b_at b_from b_sort b_fled b_flights b_firstFlight b_bestHarms b_bestRage b_harmed b_raged, xI cy ((M 1)) 7 b_refused, xI cy ((M 2)) 39 b_now, xI cy ((M 4)) 273 b_minds]) (mk := [none, none, none, none]) C hw (c_X8_many l G cy tt M b_isKept b_size b_at b_from b_sort b_fled b_flights b_firstFlight b_bestHarms b_bestRage b_harmed b_raged b_now _ u4e) zy_X8_many zm_X8_80 rfl rfl rfl [0, 2] rfl rfl rfl rfl rfl rfl rfl rfl hl.1 ⟨rfl, rfl⟩ ⟨Nat.le_of_ble_eq_true rfl, Nat.le_of_ble_eq_true rfl⟩ rfl (Nat.le_of_ble_eq_true rfl) ⟨Nat.zero_le _, Nat.zero_le _⟩ dX8_starts_20 (fun H locs hw => ?_)
      refine lv_icmp_ge (pc := 23) (tgt := 57) hx hb dX8_starts_23 (by decide) (fun q5 => ?_) (fun q5 => ?_)
      · replace hf := if_t q5 hf
        refine lv_iload_n (pc := 57) hx hb dX8_starts_57 rfl (lv_at hl 1 rfl) ?_
        have hf := Option.some.inj hf
        subst hf
        exact zk_reti (pc := 58) (ww := [xM M b_isKept b_size b_at b_from b_sort b_fled b_flights b_firstFlight b_bestHarms b_bestRage b_harmed b_raged, xI cy ((M 1)) 7 b_refused, xI cy ((M 2)) 39 b_now, xI cy ((M 4)) 273 b_minds]) C hw hr hQ dX8_starts_58
      · replace hf := if_f q5 hf
        refine lv_aload_n (pc := 26) hx hb dX8_starts_26 rfl (lv_at hl 0 rfl) ?_
        refine lv_iload_n (pc := 27) hx hb dX8_starts_27 rfl (lv_at hl 2 rfl) ?_
        refine lv_bipush (pc := 28) (v := 24) hx hb dX8_starts_28 (by decide) ?_
        refine lv_iconst (pc := 30) (v := 1) hx hb dX8_starts_30 (by decide) ?_
        obtain ⟨u6, u6e, hf⟩ := bd hf
        refine zk_cV (pc := 31) (ci := 8) (q0 := 0) (rest := []) (st1 := [.int u6.1]) (w' := [xM M b_isKept b_size b_at b_from b_sort u6.2.2.2 b_flights b_firstFlight b_bestHarms b_bestRage b_harmed b_raged, xI cy ((M 1)) 7 b_refused, xI cy ((M 2)) 39 u6.2.1, xI cy ((M 4)) 273 u6.2.2.1]) (mk := [some (xM M b_isKept b_size b_at b_from b_sort u6.2.2.2 b_flights b_firstFlight b_bestHarms b_bestRage b_harmed b_raged), none, some (xI cy ((M 2)) 39 u6.2.1), some (xI cy ((M 4)) 273 u6.2.2.1)]) C hw (c_X8_turns l G cy tt M b_isKept b_size b_at b_from b_sort b_flights b_firstFlight b_bestHarms b_bestRage b_harmed b_raged v2 (((24 : Int32))) (((1 : Int32))) b_now b_minds b_fled _ u6e) zy_X8_turns zm_X8_285 rfl rfl rfl [0, 2, 3] rfl rfl rfl rfl rfl rfl rfl rfl hl.1 ⟨rfl, rfl⟩ ⟨Nat.le_of_ble_eq_true rfl, Nat.le_of_ble_eq_true rfl⟩ rfl (Nat.le_of_ble_eq_true rfl) ⟨Nat.zero_le _, Nat.zero_le _⟩ dX8_starts_31 (fun H locs hw => ?_)
        refine lv_aload_n (pc := 34) hx hb dX8_starts_34 rfl (lv_at hl 0 rfl) ?_
        refine lv_iload_n (pc := 35) hx hb dX8_starts_35 rfl (lv_at hl 1 rfl) ?_
        refine lv_bipush (pc := 36) (v := 24) hx hb dX8_starts_36 (by decide) ?_
        refine lv_iconst (pc := 38) (v := 1) hx hb dX8_starts_38 (by decide) ?_
        obtain ⟨u7, u7e, hf⟩ := bd hf
        refine zk_cV (pc := 39) (ci := 8) (q0 := 0) (rest := [.int u6.1]) (st1 := [.int u7.1, .int u6.1]) (w' := [xM M b_isKept b_size b_at b_from b_sort u7.2.2.2 b_flights b_firstFlight b_bestHarms b_bestRage b_harmed b_raged, xI cy ((M 1)) 7 b_refused, xI cy ((M 2)) 39 u7.2.1, xI cy ((M 4)) 273 u7.2.2.1]) (mk := [some (xM M b_isKept b_size b_at b_from b_sort u7.2.2.2 b_flights b_firstFlight b_bestHarms b_bestRage b_harmed b_raged), none, some (xI cy ((M 2)) 39 u7.2.1), some (xI cy ((M 4)) 273 u7.2.2.1)]) C hw (c_X8_turns l G cy tt M b_isKept b_size b_at b_from b_sort b_flights b_firstFlight b_bestHarms b_bestRage b_harmed b_raged v1 (((24 : Int32))) (((1 : Int32))) u6.2.1 u6.2.2.1 u6.2.2.2 _ u7e) zy_X8_turns zm_X8_285 rfl rfl rfl [0, 2, 3] rfl rfl rfl rfl rfl rfl rfl rfl hl.1 ⟨rfl, rfl⟩ ⟨Nat.le_of_ble_eq_true rfl, Nat.le_of_ble_eq_true rfl⟩ rfl (Nat.le_of_ble_eq_true rfl) ⟨Nat.zero_le _, Nat.zero_le _⟩ dX8_starts_39 (fun H locs hw => ?_)
        refine lv_icmp_ge (pc := 42) (tgt := 49) hx hb dX8_starts_42 (by decide) (fun q8 => ?_) (fun q8 => ?_)
        · replace hf := if_t q8 hf
          refine lv_iload_n (pc := 49) hx hb dX8_starts_49 rfl (lv_at hl 1 rfl) ?_
          exact J50 (zf_X8_starts_18 n) ih v2 v1 b_refused u7.2.1 u7.2.2.1 u7.2.2.2 _ _ _ hf hw (lv_sub hl [0, 2] rfl)
        · replace hf := if_f q8 hf
          refine lv_iload_n (pc := 45) hx hb dX8_starts_45 rfl (lv_at hl 2 rfl) ?_
          refine lv_goto (pc := 46) (tgt := 50) hx hb dX8_starts_46 (by decide) ?_
          exact J50 (zf_X8_starts_18 n) ih v2 v2 b_refused u7.2.1 u7.2.2.1 u7.2.2.2 _ _ _ hf hw (lv_sub hl [0, 2] rfl)
  rw [zf_X8_starts] at hf
  refine lv_aload_n (pc := 0) hx hb dX8_starts_0 rfl (lv_at hl 0 rfl) ?_
  obtain ⟨u1, u1e, hf⟩ := bd hf
  refine zk_cV (pc := 1) (ci := 8) (q0 := 0) (rest := []) (st1 := [.int u1]) (w' := [xM M b_isKept b_size b_at b_from b_sort b_fled b_flights b_firstFlight b_bestHarms b_bestRage b_harmed b_raged, xI cy ((M 1)) 7 b_refused, xI cy ((M 2)) 39 b_now, xI cy ((M 4)) 273 b_minds]) (mk := [none, none, none, none]) C hw (c_X8_many l G cy tt M b_isKept b_size b_at b_from b_sort b_fled b_flights b_firstFlight b_bestHarms b_bestRage b_harmed b_raged b_now _ u1e) zy_X8_many zm_X8_80 rfl rfl rfl [0, 2] rfl rfl rfl rfl rfl rfl rfl rfl hl.1 ⟨rfl, rfl⟩ ⟨Nat.le_of_ble_eq_true rfl, Nat.le_of_ble_eq_true rfl⟩ rfl (Nat.le_of_ble_eq_true rfl) ⟨Nat.zero_le _, Nat.zero_le _⟩ dX8_starts_1 (fun H locs hw => ?_)
  refine lv_if_ne (pc := 4) (tgt := 14) hx hb dX8_starts_4 (by decide) (fun q2 => ?_) (fun q2 => ?_)
  · replace hf := if_f q2 hf
    refine lv_iconst (pc := 14) (v := 0) hx hb dX8_starts_14 (by decide) ?_
    refine lv_istore_n (pc := 15) (lv' := [(1, .int ((0 : Int32))), (0, .ref ((M 0)))]) hx hb dX8_starts_15 rfl hl (by decide) rfl (fun ls hl => ?_)
    refine lv_iconst (pc := 16) (v := 1) hx hb dX8_starts_16 (by decide) ?_
    refine lv_istore_n (pc := 17) (lv' := [(2, .int ((1 : Int32))), (1, .int ((0 : Int32))), (0, .ref ((M 0)))]) hx hb dX8_starts_17 rfl hl (by decide) rfl (fun ls hl => ?_)
    exact J18 FU ((0 : Int32)) ((1 : Int32)) b_refused b_now b_minds b_fled _ _ _ hf hw (lv_sub hl [2, 1, 0] rfl)
  · replace hf := if_t q2 hf
    refine lv_aload_n (pc := 7) hx hb dX8_starts_7 rfl (lv_at hl 0 rfl) ?_
    refine lv_bipush (pc := 8) (v := -5) hx hb dX8_starts_8 (by decide) ?_
    obtain ⟨u3, u3e, hf⟩ := bd hf
    refine zk_cV (pc := 10) (ci := 8) (q0 := 0) (rest := []) (st1 := [.int u3.1]) (w' := [xM M b_isKept b_size b_at b_from b_sort b_fled b_flights b_firstFlight b_bestHarms b_bestRage b_harmed b_raged, xI cy ((M 1)) 7 u3.2, xI cy ((M 2)) 39 b_now, xI cy ((M 4)) 273 b_minds]) (mk := [none, some (xI cy ((M 1)) 7 u3.2), none, none]) C hw (c_X8_refuse l G cy tt M b_isKept b_size b_at b_from b_sort b_fled b_flights b_firstFlight b_bestHarms b_bestRage b_harmed b_raged (((-5 : Int32))) b_refused _ u3e) zy_X8_refuse zm_X8_90 rfl rfl rfl [0, 1] rfl rfl rfl rfl rfl rfl rfl rfl hl.1 ⟨rfl, rfl⟩ ⟨Nat.le_of_ble_eq_true rfl, Nat.le_of_ble_eq_true rfl⟩ rfl (Nat.le_of_ble_eq_true rfl) ⟨Nat.zero_le _, Nat.zero_le _⟩ dX8_starts_10 (fun H locs hw => ?_)
    have hf := Option.some.inj hf
    subst hf
    exact zk_reti (pc := 13) (ww := [xM M b_isKept b_size b_at b_from b_sort b_fled b_flights b_firstFlight b_bestHarms b_bestRage b_harmed b_raged, xI cy ((M 1)) 7 u3.2, xI cy ((M 2)) 39 b_now, xI cy ((M 4)) 273 b_minds]) C hw hr hQ dX8_starts_13
def zf_X8_of_103 (b_now : Nat → Int32) (k37 : Int32 → Int32 → Int32 → (Nat → Int32) → Option (Int32 × (Nat → Int32))) (v1 : Int32) (v3 : Int32) (t0 : Int32) (b_refused : Nat → Int32) : Option (Int32 × (Nat → Int32)) := k37 v1 t0 ((v3 + 1)) b_refused
def zf_X8_of_95 (b_now : Nat → Int32) (k37 : Int32 → Int32 → Int32 → (Nat → Int32) → Option (Int32 × (Nat → Int32))) (v1 : Int32) (v2 : Int32) (v3 : Int32) (t0 : Int32) (b_refused : Nat → Int32) : Option (Int32 × (Nat → Int32)) := (if t0 ≤ 0 then zf_X8_of_103 b_now k37 v1 v3 v2 b_refused else zf_X8_of_103 b_now k37 v1 v3 v3 b_refused)
def zf_X8_of_55 (b_now : Nat → Int32) (k37 : Int32 → Int32 → Int32 → (Nat → Int32) → Option (Int32 × (Nat → Int32))) (v1 : Int32) (v2 : Int32) (v3 : Int32) (t0 : Int32) (b_refused : Nat → Int32) : Option (Int32 × (Nat → Int32)) := (if ix ((((4 : Int32) * v3) + t0)) 39 then (if ix ((((4 : Int32) * v2) + t0)) 39 then (if v1 = (1 : Int32) then zf_X8_of_95 b_now k37 v1 v2 v3 ((-((b_now ((((4 : Int32) * v3) + t0)).toNatClampNeg) - (b_now ((((4 : Int32) * v2) + t0)).toNatClampNeg)))) b_refused else zf_X8_of_95 b_now k37 v1 v2 v3 (((b_now ((((4 : Int32) * v3) + t0)).toNatClampNeg) - (b_now ((((4 : Int32) * v2) + t0)).toNatClampNeg))) b_refused) else none) else none)
def zf_X8_of_37 (b_now : Nat → Int32) : Nat → Int32 → Int32 → Int32 → (Nat → Int32) → Option (Int32 × (Nat → Int32))
  | 0, _, _, _, _ => none
  | n + 1, v1, v2, v3, b_refused => (Option.bind (zf_X8_many b_now) (fun u7 => (if u7 ≤ v3 then some (v2, b_refused) else (if v1 = (2 : Int32) then zf_X8_of_55 b_now (zf_X8_of_37 b_now n) v1 v2 v3 ((3 : Int32)) b_refused else zf_X8_of_55 b_now (zf_X8_of_37 b_now n) v1 v2 v3 ((2 : Int32)) b_refused))))
def zf_X8_of (x1 : Int32) (b_refused : Nat → Int32) (b_now : Nat → Int32) : Option (Int32 × (Nat → Int32)) := (Option.bind (zf_X8_isIn x1.toInt64 (((0 : Int64))) (((2 : Int64)))) (fun u1 => (if u1 then (Option.bind (zf_X8_many b_now) (fun u3 => (if u3 = 0 then (Option.bind (zf_X8_refuse (((-5 : Int32))) b_refused) (fun u5 => some (u5.1, u5.2))) else zf_X8_of_37 b_now FU x1 ((0 : Int32)) ((1 : Int32)) b_refused))) else (Option.bind (zf_X8_refuse (((-2 : Int32))) b_refused) (fun u6 => some (u6.1, u6.2))))))
abbrev zr_X8_of : Room := { frames := 1, cells := 0, slots := 0, locals := 25 }
set_option maxHeartbeats 4000000 in
set_option maxRecDepth 100000 in
theorem c_X8_of (l : Launch) (G : va_G) (cy : Nat → ClassId) (tt : Nat → Nat) (M : Nat → Nat) (b_isKept : Bool) (b_size : Int32) (b_at : Int32) (b_from : Int32) (b_sort : Int32) (b_fled : Bool) (b_flights : Int32) (b_firstFlight : Int32) (b_bestHarms : Int32) (b_bestRage : Int32) (b_harmed : Int64) (b_raged : Int64) (x1 : Int32) (b_refused : Nat → Int32) (b_now : Nat → Int32) (res : Int32 × (Nat → Int32)) (hf : zf_X8_of x1 b_refused b_now = some res) : zCT l yX8_of cX8_of 6 (some .int) zr_X8_of G cy tt [.ref ((M 0)), .int x1] [xM M b_isKept b_size b_at b_from b_sort b_fled b_flights b_firstFlight b_bestHarms b_bestRage b_harmed b_raged, xI cy ((M 1)) 7 b_refused, xI cy ((M 2)) 39 b_now] (some (.int res.1)) [xM M b_isKept b_size b_at b_from b_sort b_fled b_flights b_firstFlight b_bestHarms b_bestRage b_harmed b_raged, xI cy ((M 1)) 7 res.2, xI cy ((M 2)) 39 b_now] := by
  refine zk_start zn_X8 (Nat.le_of_ble_eq_true rfl) ?_
  intro p e s m args below meth c A ls Q C hr hQ hw hl
  have C : zCx p m c s args meth cX8_of 6 RX8 G cy tt A := C
  have hx := C.1.1
  have hb := C.1.2.1
  have hl : lv_has ls 6 [(0, .ref ((M 0))), (1, .int x1)] := hl
  have J103 : ∀ (k37 : Int32 → Int32 → Int32 → (Nat → Int32) → Option (Int32 × (Nat → Int32))) (K37 : ∀ (v1 : Int32) (v2 : Int32) (v3 : Int32) (b_refused : Nat → Int32) (H : Heap) (locs : List Loc) (ls : Array Slot), k37 v1 v2 v3 b_refused = some res → zWd G A s.heap H locs [xM M b_isKept b_size b_at b_from b_sort b_fled b_flights b_firstFlight b_bestHarms b_bestRage b_harmed b_raged, xI cy ((M 1)) 7 b_refused, xI cy ((M 2)) 39 b_now] → lv_has ls 6 [(0, .ref ((M 0))), (1, .int v1), (2, .int v2), (3, .int v3)] → W p l e zr_X8_of s m args below meth c H locs 0 0 Q (F0 m 37 ls [])), ∀ (v1 : Int32) (v3 : Int32) (t0 : Int32) (b_refused : Nat → Int32) (H : Heap) (locs : List Loc) (ls : Array Slot), zf_X8_of_103 b_now k37 v1 v3 t0 b_refused = some res → zWd G A s.heap H locs [xM M b_isKept b_size b_at b_from b_sort b_fled b_flights b_firstFlight b_bestHarms b_bestRage b_harmed b_raged, xI cy ((M 1)) 7 b_refused, xI cy ((M 2)) 39 b_now] → lv_has ls 6 [(0, .ref ((M 0))), (1, .int v1), (3, .int v3)] → W p l e zr_X8_of s m args below meth c H locs 0 0 Q (F0 m 103 ls [.int t0]) := by
    intro k37 K37 v1 v3 t0 b_refused H locs ls hf hw hl
    rw [zf_X8_of_103] at hf
    refine lv_istore_n (pc := 103) (lv' := [(2, .int t0), (0, .ref ((M 0))), (1, .int v1), (3, .int v3)]) hx hb dX8_of_103 rfl hl (by decide) rfl (fun ls hl => ?_)
    refine lv_iinc (pc := 104) (v := (v3 + 1)) (lv' := [(3, .int ((v3 + 1))), (2, .int t0), (0, .ref ((M 0))), (1, .int v1)]) hx hb dX8_of_104 hl (k := 3) rfl rfl (by decide) rfl (fun ls hl => ?_)
    refine lv_goto (pc := 107) (tgt := 37) hx hb dX8_of_107 (by decide) ?_
    exact K37 v1 t0 ((v3 + 1)) b_refused _ _ _ hf hw (lv_sub hl [2, 3, 1, 0] rfl)
  have J95 : ∀ (k37 : Int32 → Int32 → Int32 → (Nat → Int32) → Option (Int32 × (Nat → Int32))) (K37 : ∀ (v1 : Int32) (v2 : Int32) (v3 : Int32) (b_refused : Nat → Int32) (H : Heap) (locs : List Loc) (ls : Array Slot), k37 v1 v2 v3 b_refused = some res → zWd G A s.heap H locs [xM M b_isKept b_size b_at b_from b_sort b_fled b_flights b_firstFlight b_bestHarms b_bestRage b_harmed b_raged, xI cy ((M 1)) 7 b_refused, xI cy ((M 2)) 39 b_now] → lv_has ls 6 [(0, .ref ((M 0))), (1, .int v1), (2, .int v2), (3, .int v3)] → W p l e zr_X8_of s m args below meth c H locs 0 0 Q (F0 m 37 ls [])), ∀ (v1 : Int32) (v2 : Int32) (v3 : Int32) (t0 : Int32) (b_refused : Nat → Int32) (H : Heap) (locs : List Loc) (ls : Array Slot), zf_X8_of_95 b_now k37 v1 v2 v3 t0 b_refused = some res → zWd G A s.heap H locs [xM M b_isKept b_size b_at b_from b_sort b_fled b_flights b_firstFlight b_bestHarms b_bestRage b_harmed b_raged, xI cy ((M 1)) 7 b_refused, xI cy ((M 2)) 39 b_now] → lv_has ls 6 [(0, .ref ((M 0))), (1, .int v1), (2, .int v2), (3, .int v3)] → W p l e zr_X8_of s m args below meth c H locs 0 0 Q (F0 m 95 ls [.int t0]) := by
    intro k37 K37 v1 v2 v3 t0 b_refused H locs ls hf hw hl
    rw [zf_X8_of_95] at hf
    refine lv_if_le (pc := 95) (tgt := 102) hx hb dX8_of_95 (by decide) (fun q13 => ?_) (fun q13 => ?_)
    · replace hf := if_t q13 hf
      refine lv_iload_n (pc := 102) hx hb dX8_of_102 rfl (lv_at hl 2 rfl) ?_
      exact J103 k37 K37 v1 v3 v2 b_refused _ _ _ hf hw (lv_sub hl [0, 1, 3] rfl)
    · replace hf := if_f q13 hf
      refine lv_iload_n (pc := 98) hx hb dX8_of_98 rfl (lv_at hl 3 rfl) ?_
      refine lv_goto (pc := 99) (tgt := 103) hx hb dX8_of_99 (by decide) ?_
      exact J103 k37 K37 v1 v3 v3 b_refused _ _ _ hf hw (lv_sub hl [0, 1, 3] rfl)
  have J55 : ∀ (k37 : Int32 → Int32 → Int32 → (Nat → Int32) → Option (Int32 × (Nat → Int32))) (K37 : ∀ (v1 : Int32) (v2 : Int32) (v3 : Int32) (b_refused : Nat → Int32) (H : Heap) (locs : List Loc) (ls : Array Slot), k37 v1 v2 v3 b_refused = some res → zWd G A s.heap H locs [xM M b_isKept b_size b_at b_from b_sort b_fled b_flights b_firstFlight b_bestHarms b_bestRage b_harmed b_raged, xI cy ((M 1)) 7 b_refused, xI cy ((M 2)) 39 b_now] → lv_has ls 6 [(0, .ref ((M 0))), (1, .int v1), (2, .int v2), (3, .int v3)] → W p l e zr_X8_of s m args below meth c H locs 0 0 Q (F0 m 37 ls [])), ∀ (v1 : Int32) (v2 : Int32) (v3 : Int32) (t0 : Int32) (b_refused : Nat → Int32) (H : Heap) (locs : List Loc) (ls : Array Slot), zf_X8_of_55 b_now k37 v1 v2 v3 t0 b_refused = some res → zWd G A s.heap H locs [xM M b_isKept b_size b_at b_from b_sort b_fled b_flights b_firstFlight b_bestHarms b_bestRage b_harmed b_raged, xI cy ((M 1)) 7 b_refused, xI cy ((M 2)) 39 b_now] → lv_has ls 6 [(0, .ref ((M 0))), (1, .int v1), (2, .int v2), (3, .int v3)] → W p l e zr_X8_of s m args below meth c H locs 0 0 Q (F0 m 55 ls [.int t0]) := by
    intro k37 K37 v1 v2 v3 t0 b_refused H locs ls hf hw hl
    rw [zf_X8_of_55] at hf
    refine lv_istore (pc := 55) (lv' := [(4, .int t0), (0, .ref ((M 0))), (1, .int v1), (2, .int v2), (3, .int v3)]) hx hb dX8_of_55 hl (by decide) rfl (fun ls hl => ?_)
    refine lv_aload_n (pc := 57) hx hb dX8_of_57 rfl (lv_at hl 1 rfl) ?_
    refine zk_gt (pc := 58) C hw zl_X8_17 0 rfl rfl dX8_of_58 ?_
    refine lv_iconst (pc := 61) (v := 4) hx hb dX8_of_61 (by decide) ?_
    refine lv_iload_n (pc := 62) hx hb dX8_of_62 rfl (lv_at hl 4 rfl) ?_
    refine lv_imul (pc := 63) hx hb dX8_of_63 ?_
    refine lv_iload (pc := 64) hx hb dX8_of_64 (lv_at hl 0 rfl) ?_
    refine lv_iadd (pc := 66) hx hb dX8_of_66 ?_
    obtain ⟨q10, hf⟩ := ck hf
    refine zk_iald (pc := 67) C hw 2 rfl q10 dX8_of_67 ?_
    refine lv_aload_n (pc := 68) hx hb dX8_of_68 rfl (lv_at hl 1 rfl) ?_
    refine zk_gt (pc := 69) C hw zl_X8_17 0 rfl rfl dX8_of_69 ?_
    refine lv_iconst (pc := 72) (v := 4) hx hb dX8_of_72 (by decide) ?_
    refine lv_iload_n (pc := 73) hx hb dX8_of_73 rfl (lv_at hl 3 rfl) ?_
    refine lv_imul (pc := 74) hx hb dX8_of_74 ?_
    refine lv_iload (pc := 75) hx hb dX8_of_75 (lv_at hl 0 rfl) ?_
    refine lv_iadd (pc := 77) hx hb dX8_of_77 ?_
    obtain ⟨q11, hf⟩ := ck hf
    refine zk_iald (pc := 78) C hw 2 rfl q11 dX8_of_78 ?_
    refine lv_isub (pc := 79) hx hb dX8_of_79 ?_
    refine lv_istore (pc := 80) (lv' := [(5, .int (((b_now ((((4 : Int32) * v3) + t0)).toNatClampNeg) - (b_now ((((4 : Int32) * v2) + t0)).toNatClampNeg)))), (4, .int t0), (0, .ref ((M 0))), (1, .int v1), (2, .int v2), (3, .int v3)]) hx hb dX8_of_80 hl (by decide) rfl (fun ls hl => ?_)
    refine lv_iload_n (pc := 82) hx hb dX8_of_82 rfl (lv_at hl 3 rfl) ?_
    refine lv_iconst (pc := 83) (v := 1) hx hb dX8_of_83 (by decide) ?_
    refine lv_icmp_ne (pc := 84) (tgt := 93) hx hb dX8_of_84 (by decide) (fun q12 => ?_) (fun q12 => ?_)
    · replace hf := if_f q12 hf
      refine lv_iload (pc := 93) hx hb dX8_of_93 (lv_at hl 0 rfl) ?_
      exact J95 k37 K37 v1 v2 v3 (((b_now ((((4 : Int32) * v3) + t0)).toNatClampNeg) - (b_now ((((4 : Int32) * v2) + t0)).toNatClampNeg))) b_refused _ _ _ hf hw (lv_sub hl [2, 3, 4, 5] rfl)
    · replace hf := if_t q12 hf
      refine lv_iload (pc := 87) hx hb dX8_of_87 (lv_at hl 0 rfl) ?_
      refine lv_ineg (pc := 89) hx hb dX8_of_89 ?_
      refine lv_goto (pc := 90) (tgt := 95) hx hb dX8_of_90 (by decide) ?_
      exact J95 k37 K37 v1 v2 v3 ((-((b_now ((((4 : Int32) * v3) + t0)).toNatClampNeg) - (b_now ((((4 : Int32) * v2) + t0)).toNatClampNeg)))) b_refused _ _ _ hf hw (lv_sub hl [2, 3, 4, 5] rfl)
  have J37 : ∀ (n : Nat), ∀ (v1 : Int32) (v2 : Int32) (v3 : Int32) (b_refused : Nat → Int32) (H : Heap) (locs : List Loc) (ls : Array Slot), zf_X8_of_37 b_now n v1 v2 v3 b_refused = some res → zWd G A s.heap H locs [xM M b_isKept b_size b_at b_from b_sort b_fled b_flights b_firstFlight b_bestHarms b_bestRage b_harmed b_raged, xI cy ((M 1)) 7 b_refused, xI cy ((M 2)) 39 b_now] → lv_has ls 6 [(0, .ref ((M 0))), (1, .int v1), (2, .int v2), (3, .int v3)] → W p l e zr_X8_of s m args below meth c H locs 0 0 Q (F0 m 37 ls []) := by
    intro n
    induction n with
    | zero =>
      intro v1 v2 v3 b_refused H locs ls hf hw hl
      rw [zf_X8_of_37] at hf
      cases hf
    | succ n ih =>
      intro v1 v2 v3 b_refused H locs ls hf hw hl
      rw [zf_X8_of_37] at hf
      refine lv_iload_n (pc := 37) hx hb dX8_of_37 rfl (lv_at hl 3 rfl) ?_
      refine lv_aload_n (pc := 38) hx hb dX8_of_38 rfl (lv_at hl 0 rfl) ?_
      obtain ⟨u7, u7e, hf⟩ := bd hf
      refine zk_cV (pc := 39) (ci := 8) (q0 := 0) (rest := [.int v3]) (st1 := [.int u7, .int v3]) (w' := [xM M b_isKept b_size b_at b_from b_sort b_fled b_flights b_firstFlight b_bestHarms b_bestRage b_harmed b_raged, xI cy ((M 1)) 7 b_refused, xI cy ((M 2)) 39 b_now]) (mk := [none, none, none]) C hw (c_X8_many l G cy tt M b_isKept b_size b_at b_from b_sort b_fled b_flights b_firstFlight b_bestHarms b_bestRage b_harmed b_raged b_now _ u7e) zy_X8_many zm_X8_80 rfl rfl rfl [0, 2] rfl rfl rfl rfl rfl rfl rfl rfl hl.1 ⟨rfl, rfl⟩ ⟨Nat.le_of_ble_eq_true rfl, Nat.le_of_ble_eq_true rfl⟩ rfl (Nat.le_of_ble_eq_true rfl) ⟨Nat.zero_le _, Nat.zero_le _⟩ dX8_of_39 (fun H locs hw => ?_)
      refine lv_icmp_ge (pc := 42) (tgt := 110) hx hb dX8_of_42 (by decide) (fun q8 => ?_) (fun q8 => ?_)
      · replace hf := if_t q8 hf
        refine lv_iload_n (pc := 110) hx hb dX8_of_110 rfl (lv_at hl 2 rfl) ?_
        have hf := Option.some.inj hf
        subst hf
        exact zk_reti (pc := 111) (ww := [xM M b_isKept b_size b_at b_from b_sort b_fled b_flights b_firstFlight b_bestHarms b_bestRage b_harmed b_raged, xI cy ((M 1)) 7 b_refused, xI cy ((M 2)) 39 b_now]) C hw hr hQ dX8_of_111
      · replace hf := if_f q8 hf
        refine lv_iload_n (pc := 45) hx hb dX8_of_45 rfl (lv_at hl 1 rfl) ?_
        refine lv_iconst (pc := 46) (v := 2) hx hb dX8_of_46 (by decide) ?_
        refine lv_icmp_ne (pc := 47) (tgt := 54) hx hb dX8_of_47 (by decide) (fun q9 => ?_) (fun q9 => ?_)
        · replace hf := if_f q9 hf
          refine lv_iconst (pc := 54) (v := 2) hx hb dX8_of_54 (by decide) ?_
          exact J55 (zf_X8_of_37 b_now n) ih v1 v2 v3 ((2 : Int32)) b_refused _ _ _ hf hw (lv_sub hl [0, 1, 2, 3] rfl)
        · replace hf := if_t q9 hf
          refine lv_iconst (pc := 50) (v := 3) hx hb dX8_of_50 (by decide) ?_
          refine lv_goto (pc := 51) (tgt := 55) hx hb dX8_of_51 (by decide) ?_
          exact J55 (zf_X8_of_37 b_now n) ih v1 v2 v3 ((3 : Int32)) b_refused _ _ _ hf hw (lv_sub hl [0, 1, 2, 3] rfl)
  rw [zf_X8_of] at hf
  refine lv_iload_n (pc := 0) hx hb dX8_of_0 rfl (lv_at hl 1 rfl) ?_
  refine lv_i2l (pc := 1) (v := x1.toInt64) hx hb dX8_of_1 rfl ?_
  refine lv_lconst (pc := 2) (v := 0) hx hb dX8_of_2 (by decide) ?_
  refine lv_ldc2 (pc := 3) (v := 2) hx hb C.1.2.2.2.1 (C.1.2.2.2.2 _ zc_X8_190) dX8_of_3 ?_
  obtain ⟨u1, u1e, hf⟩ := bd hf
  refine zk_cS (pc := 6) (rest := []) (st1 := [.int (bI u1)]) (w' := [xM M b_isKept b_size b_at b_from b_sort b_fled b_flights b_firstFlight b_bestHarms b_bestRage b_harmed b_raged, xI cy ((M 1)) 7 b_refused, xI cy ((M 2)) 39 b_now]) (mk := [none, none, none]) C hw (c_X8_isIn l G cy tt x1.toInt64 (((0 : Int64))) (((2 : Int64))) _ u1e) zy_X8_isIn zm_X8_68 [] rfl rfl rfl rfl rfl rfl rfl rfl hl.1 ⟨rfl, rfl⟩ ⟨Nat.le_of_ble_eq_true rfl, Nat.le_of_ble_eq_true rfl⟩ rfl (Nat.le_of_ble_eq_true rfl) ⟨Nat.zero_le _, Nat.zero_le _⟩ dX8_of_6 (fun H locs hw => ?_)
  refine zk_ifnz (pc := 9) (tgt := 19) hx hb dX8_of_9 (by decide) (fun q2 => ?_) (fun q2 => ?_)
  · replace hf := if_t q2 hf
    refine lv_aload_n (pc := 19) hx hb dX8_of_19 rfl (lv_at hl 0 rfl) ?_
    obtain ⟨u3, u3e, hf⟩ := bd hf
    refine zk_cV (pc := 20) (ci := 8) (q0 := 0) (rest := []) (st1 := [.int u3]) (w' := [xM M b_isKept b_size b_at b_from b_sort b_fled b_flights b_firstFlight b_bestHarms b_bestRage b_harmed b_raged, xI cy ((M 1)) 7 b_refused, xI cy ((M 2)) 39 b_now]) (mk := [none, none, none]) C hw (c_X8_many l G cy tt M b_isKept b_size b_at b_from b_sort b_fled b_flights b_firstFlight b_bestHarms b_bestRage b_harmed b_raged b_now _ u3e) zy_X8_many zm_X8_80 rfl rfl rfl [0, 2] rfl rfl rfl rfl rfl rfl rfl rfl hl.1 ⟨rfl, rfl⟩ ⟨Nat.le_of_ble_eq_true rfl, Nat.le_of_ble_eq_true rfl⟩ rfl (Nat.le_of_ble_eq_true rfl) ⟨Nat.zero_le _, Nat.zero_le _⟩ dX8_of_20 (fun H locs hw => ?_)
    refine lv_if_ne (pc := 23) (tgt := 33) hx hb dX8_of_23 (by decide) (fun q4 => ?_) (fun q4 => ?_)
    · replace hf := if_f q4 hf
      refine lv_iconst (pc := 33) (v := 0) hx hb dX8_of_33 (by decide) ?_
      refine lv_istore_n (pc := 34) (lv' := [(2, .int ((0 : Int32))), (0, .ref ((M 0))), (1, .int x1)]) hx hb dX8_of_34 rfl hl (by decide) rfl (fun ls hl => ?_)
      refine lv_iconst (pc := 35) (v := 1) hx hb dX8_of_35 (by decide) ?_
      refine lv_istore_n (pc := 36) (lv' := [(3, .int ((1 : Int32))), (2, .int ((0 : Int32))), (0, .ref ((M 0))), (1, .int x1)]) hx hb dX8_of_36 rfl hl (by decide) rfl (fun ls hl => ?_)
      exact J37 FU x1 ((0 : Int32)) ((1 : Int32)) b_refused _ _ _ hf hw (lv_sub hl [2, 3, 1, 0] rfl)
    · replace hf := if_t q4 hf
      refine lv_aload_n (pc := 26) hx hb dX8_of_26 rfl (lv_at hl 0 rfl) ?_
      refine lv_bipush (pc := 27) (v := -5) hx hb dX8_of_27 (by decide) ?_
      obtain ⟨u5, u5e, hf⟩ := bd hf
      refine zk_cV (pc := 29) (ci := 8) (q0 := 0) (rest := []) (st1 := [.int u5.1]) (w' := [xM M b_isKept b_size b_at b_from b_sort b_fled b_flights b_firstFlight b_bestHarms b_bestRage b_harmed b_raged, xI cy ((M 1)) 7 u5.2, xI cy ((M 2)) 39 b_now]) (mk := [none, some (xI cy ((M 1)) 7 u5.2), none]) C hw (c_X8_refuse l G cy tt M b_isKept b_size b_at b_from b_sort b_fled b_flights b_firstFlight b_bestHarms b_bestRage b_harmed b_raged (((-5 : Int32))) b_refused _ u5e) zy_X8_refuse zm_X8_90 rfl rfl rfl [0, 1] rfl rfl rfl rfl rfl rfl rfl rfl hl.1 ⟨rfl, rfl⟩ ⟨Nat.le_of_ble_eq_true rfl, Nat.le_of_ble_eq_true rfl⟩ rfl (Nat.le_of_ble_eq_true rfl) ⟨Nat.zero_le _, Nat.zero_le _⟩ dX8_of_29 (fun H locs hw => ?_)
      have hf := Option.some.inj hf
      subst hf
      exact zk_reti (pc := 32) (ww := [xM M b_isKept b_size b_at b_from b_sort b_fled b_flights b_firstFlight b_bestHarms b_bestRage b_harmed b_raged, xI cy ((M 1)) 7 u5.2, xI cy ((M 2)) 39 b_now]) C hw hr hQ dX8_of_32
  · replace hf := if_f q2 hf
    refine lv_aload_n (pc := 12) hx hb dX8_of_12 rfl (lv_at hl 0 rfl) ?_
    refine lv_bipush (pc := 13) (v := -2) hx hb dX8_of_13 (by decide) ?_
    obtain ⟨u6, u6e, hf⟩ := bd hf
    refine zk_cV (pc := 15) (ci := 8) (q0 := 0) (rest := []) (st1 := [.int u6.1]) (w' := [xM M b_isKept b_size b_at b_from b_sort b_fled b_flights b_firstFlight b_bestHarms b_bestRage b_harmed b_raged, xI cy ((M 1)) 7 u6.2, xI cy ((M 2)) 39 b_now]) (mk := [none, some (xI cy ((M 1)) 7 u6.2), none]) C hw (c_X8_refuse l G cy tt M b_isKept b_size b_at b_from b_sort b_fled b_flights b_firstFlight b_bestHarms b_bestRage b_harmed b_raged (((-2 : Int32))) b_refused _ u6e) zy_X8_refuse zm_X8_90 rfl rfl rfl [0, 1] rfl rfl rfl rfl rfl rfl rfl rfl hl.1 ⟨rfl, rfl⟩ ⟨Nat.le_of_ble_eq_true rfl, Nat.le_of_ble_eq_true rfl⟩ rfl (Nat.le_of_ble_eq_true rfl) ⟨Nat.zero_le _, Nat.zero_le _⟩ dX8_of_15 (fun H locs hw => ?_)
    have hf := Option.some.inj hf
    subst hf
    exact zk_reti (pc := 18) (ww := [xM M b_isKept b_size b_at b_from b_sort b_fled b_flights b_firstFlight b_bestHarms b_bestRage b_harmed b_raged, xI cy ((M 1)) 7 u6.2, xI cy ((M 2)) 39 b_now]) C hw hr hQ dX8_of_18
def zf_X8_better_18 (b_refused : Nat → Int32) (b_now : Nat → Int32) (b_minds : Nat → Int32) (b_fled : Bool) : Option (Int32 × (Nat → Int32) × (Nat → Int32) × (Nat → Int32) × Bool) := (Option.bind (zf_X8_refuse (((-2 : Int32))) b_refused) (fun u9 => some (u9.1, u9.2, b_now, b_minds, b_fled)))
def zf_X8_better_62 (k30 : Int32 → Int32 → Int32 → Int32 → (Nat → Int32) → (Nat → Int32) → (Nat → Int32) → Bool → Option (Int32 × (Nat → Int32) × (Nat → Int32) × (Nat → Int32) × Bool)) (v1 : Int32) (v2 : Int32) (v4 : Int32) (t0 : Bool) (t1 : Int32) (b_refused : Nat → Int32) (b_now : Nat → Int32) (b_minds : Nat → Int32) (b_fled : Bool) : Option (Int32 × (Nat → Int32) × (Nat → Int32) × (Nat → Int32) × Bool) := k30 v1 v2 ((t1 + (bI t0))) ((v4 + 1)) b_refused b_now b_minds b_fled
def zf_X8_better_30 : Nat → Int32 → Int32 → Int32 → Int32 → (Nat → Int32) → (Nat → Int32) → (Nat → Int32) → Bool → Option (Int32 × (Nat → Int32) × (Nat → Int32) × (Nat → Int32) × Bool)
  | 0, _, _, _, _, _, _, _, _ => none
  | n + 1, v1, v2, v3, v4, b_refused, b_now, b_minds, b_fled => (if (100 : Int32) ≤ v4 then some (v3, b_refused, b_now, b_minds, b_fled) else (Option.bind (zf_X8_then v1 (((0 : Int32))) v4 b_now b_minds b_fled) (fun u6 => (Option.bind (zf_X8_then v2 (((0 : Int32))) v4 u6.2.1 u6.2.2.1 u6.2.2.2) (fun u7 => (if u7.1 ≤ u6.1 then zf_X8_better_62 (zf_X8_better_30 n) v1 v2 v4 false v3 b_refused u7.2.1 u7.2.2.1 u7.2.2.2 else zf_X8_better_62 (zf_X8_better_30 n) v1 v2 v4 true v3 b_refused u7.2.1 u7.2.2.1 u7.2.2.2))))))
def zf_X8_better (x1 : Int32) (x2 : Int32) (b_refused : Nat → Int32) (b_now : Nat → Int32) (b_minds : Nat → Int32) (b_fled : Bool) : Option (Int32 × (Nat → Int32) × (Nat → Int32) × (Nat → Int32) × Bool) := (Option.bind (zf_X8_isOrder x1.toInt64 b_now) (fun u1 => (if u1 then (Option.bind (zf_X8_isOrder x2.toInt64 b_now) (fun u3 => (if u3 then zf_X8_better_30 FU x1 x2 ((0 : Int32)) ((0 : Int32)) b_refused b_now b_minds b_fled else zf_X8_better_18 b_refused b_now b_minds b_fled))) else zf_X8_better_18 b_refused b_now b_minds b_fled)))
abbrev zr_X8_better : Room := { frames := 4, cells := 0, slots := 0, locals := 90 }
set_option maxHeartbeats 4000000 in
set_option maxRecDepth 100000 in
theorem c_X8_better (l : Launch) (G : va_G) (cy : Nat → ClassId) (tt : Nat → Nat) (M : Nat → Nat) (b_isKept : Bool) (b_size : Int32) (b_at : Int32) (b_from : Int32) (b_sort : Int32) (b_flights : Int32) (b_firstFlight : Int32) (b_bestHarms : Int32) (b_bestRage : Int32) (b_harmed : Int64) (b_raged : Int64) (x1 : Int32) (x2 : Int32) (b_refused : Nat → Int32) (b_now : Nat → Int32) (b_minds : Nat → Int32) (b_fled : Bool) (res : Int32 × (Nat → Int32) × (Nat → Int32) × (Nat → Int32) × Bool) (hf : zf_X8_better x1 x2 b_refused b_now b_minds b_fled = some res) : zCT l yX8_better cX8_better 5 (some .int) zr_X8_better G cy tt [.ref ((M 0)), .int x1, .int x2] [xM M b_isKept b_size b_at b_from b_sort b_fled b_flights b_firstFlight b_bestHarms b_bestRage b_harmed b_raged, xI cy ((M 1)) 7 b_refused, xI cy ((M 2)) 39 b_now, xI cy ((M 4)) 273 b_minds] (some (.int res.1)) [xM M b_isKept b_size b_at b_from b_sort res.2.2.2.2 b_flights b_firstFlight b_bestHarms b_bestRage b_harmed b_raged, xI cy ((M 1)) 7 res.2.1, xI cy ((M 2)) 39 res.2.2.1, xI cy ((M 4)) 273 res.2.2.2.1] := by
  refine zk_start zn_X8 (Nat.le_of_ble_eq_true rfl) ?_
  intro p e s m args below meth c A ls Q C hr hQ hw hl
  have C : zCx p m c s args meth cX8_better 5 RX8 G cy tt A := C
  have hx := C.1.1
  have hb := C.1.2.1
  have hl : lv_has ls 5 [(0, .ref ((M 0))), (1, .int x1), (2, .int x2)] := hl
  have J18 : ∀ (b_refused : Nat → Int32) (b_now : Nat → Int32) (b_minds : Nat → Int32) (b_fled : Bool) (H : Heap) (locs : List Loc) (ls : Array Slot), zf_X8_better_18 b_refused b_now b_minds b_fled = some res → zWd G A s.heap H locs [xM M b_isKept b_size b_at b_from b_sort b_fled b_flights b_firstFlight b_bestHarms b_bestRage b_harmed b_raged, xI cy ((M 1)) 7 b_refused, xI cy ((M 2)) 39 b_now, xI cy ((M 4)) 273 b_minds] → lv_has ls 5 [(0, .ref ((M 0)))] → W p l e zr_X8_better s m args below meth c H locs 0 0 Q (F0 m 18 ls []) := by
    intro b_refused b_now b_minds b_fled H locs ls hf hw hl
    rw [zf_X8_better_18] at hf
    refine lv_aload_n (pc := 18) hx hb dX8_better_18 rfl (lv_at hl 0 rfl) ?_
    refine lv_bipush (pc := 19) (v := -2) hx hb dX8_better_19 (by decide) ?_
    obtain ⟨u9, u9e, hf⟩ := bd hf
    refine zk_cV (pc := 21) (ci := 8) (q0 := 0) (rest := []) (st1 := [.int u9.1]) (w' := [xM M b_isKept b_size b_at b_from b_sort b_fled b_flights b_firstFlight b_bestHarms b_bestRage b_harmed b_raged, xI cy ((M 1)) 7 u9.2, xI cy ((M 2)) 39 b_now, xI cy ((M 4)) 273 b_minds]) (mk := [none, some (xI cy ((M 1)) 7 u9.2), none, none]) C hw (c_X8_refuse l G cy tt M b_isKept b_size b_at b_from b_sort b_fled b_flights b_firstFlight b_bestHarms b_bestRage b_harmed b_raged (((-2 : Int32))) b_refused _ u9e) zy_X8_refuse zm_X8_90 rfl rfl rfl [0, 1] rfl rfl rfl rfl rfl rfl rfl rfl hl.1 ⟨rfl, rfl⟩ ⟨Nat.le_of_ble_eq_true rfl, Nat.le_of_ble_eq_true rfl⟩ rfl (Nat.le_of_ble_eq_true rfl) ⟨Nat.zero_le _, Nat.zero_le _⟩ dX8_better_21 (fun H locs hw => ?_)
    have hf := Option.some.inj hf
    subst hf
    exact zk_reti (pc := 24) (ww := [xM M b_isKept b_size b_at b_from b_sort b_fled b_flights b_firstFlight b_bestHarms b_bestRage b_harmed b_raged, xI cy ((M 1)) 7 u9.2, xI cy ((M 2)) 39 b_now, xI cy ((M 4)) 273 b_minds]) C hw hr hQ dX8_better_24
  have J62 : ∀ (k30 : Int32 → Int32 → Int32 → Int32 → (Nat → Int32) → (Nat → Int32) → (Nat → Int32) → Bool → Option (Int32 × (Nat → Int32) × (Nat → Int32) × (Nat → Int32) × Bool)) (K30 : ∀ (v1 : Int32) (v2 : Int32) (v3 : Int32) (v4 : Int32) (b_refused : Nat → Int32) (b_now : Nat → Int32) (b_minds : Nat → Int32) (b_fled : Bool) (H : Heap) (locs : List Loc) (ls : Array Slot), k30 v1 v2 v3 v4 b_refused b_now b_minds b_fled = some res → zWd G A s.heap H locs [xM M b_isKept b_size b_at b_from b_sort b_fled b_flights b_firstFlight b_bestHarms b_bestRage b_harmed b_raged, xI cy ((M 1)) 7 b_refused, xI cy ((M 2)) 39 b_now, xI cy ((M 4)) 273 b_minds] → lv_has ls 5 [(0, .ref ((M 0))), (1, .int v1), (2, .int v2), (3, .int v3), (4, .int v4)] → W p l e zr_X8_better s m args below meth c H locs 0 0 Q (F0 m 30 ls [])), ∀ (v1 : Int32) (v2 : Int32) (v4 : Int32) (t0 : Bool) (t1 : Int32) (b_refused : Nat → Int32) (b_now : Nat → Int32) (b_minds : Nat → Int32) (b_fled : Bool) (H : Heap) (locs : List Loc) (ls : Array Slot), zf_X8_better_62 k30 v1 v2 v4 t0 t1 b_refused b_now b_minds b_fled = some res → zWd G A s.heap H locs [xM M b_isKept b_size b_at b_from b_sort b_fled b_flights b_firstFlight b_bestHarms b_bestRage b_harmed b_raged, xI cy ((M 1)) 7 b_refused, xI cy ((M 2)) 39 b_now, xI cy ((M 4)) 273 b_minds] → lv_has ls 5 [(0, .ref ((M 0))), (1, .int v1), (2, .int v2), (4, .int v4)] → W p l e zr_X8_better s m args below meth c H locs 0 0 Q (F0 m 62 ls [.int (bI t0), .int t1]) := by
    intro k30 K30 v1 v2 v4 t0 t1 b_refused b_now b_minds b_fled H locs ls hf hw hl
    rw [zf_X8_better_62] at hf
    refine lv_iadd (pc := 62) hx hb dX8_better_62 ?_
    refine lv_istore_n (pc := 63) (lv' := [(3, .int ((t1 + (bI t0)))), (0, .ref ((M 0))), (1, .int v1), (2, .int v2), (4, .int v4)]) hx hb dX8_better_63 rfl hl (by decide) rfl (fun ls hl => ?_)
    refine lv_iinc (pc := 64) (v := (v4 + 1)) (lv' := [(4, .int ((v4 + 1))), (3, .int ((t1 + (bI t0)))), (0, .ref ((M 0))), (1, .int v1), (2, .int v2)]) hx hb dX8_better_64 hl (k := 4) rfl rfl (by decide) rfl (fun ls hl => ?_)
    refine lv_goto (pc := 67) (tgt := 30) hx hb dX8_better_67 (by decide) ?_
    exact K30 v1 v2 ((t1 + (bI t0))) ((v4 + 1)) b_refused b_now b_minds b_fled _ _ _ hf hw (lv_sub hl [2, 3, 4, 1, 0] rfl)
  have J30 : ∀ (n : Nat), ∀ (v1 : Int32) (v2 : Int32) (v3 : Int32) (v4 : Int32) (b_refused : Nat → Int32) (b_now : Nat → Int32) (b_minds : Nat → Int32) (b_fled : Bool) (H : Heap) (locs : List Loc) (ls : Array Slot), zf_X8_better_30 n v1 v2 v3 v4 b_refused b_now b_minds b_fled = some res → zWd G A s.heap H locs [xM M b_isKept b_size b_at b_from b_sort b_fled b_flights b_firstFlight b_bestHarms b_bestRage b_harmed b_raged, xI cy ((M 1)) 7 b_refused, xI cy ((M 2)) 39 b_now, xI cy ((M 4)) 273 b_minds] → lv_has ls 5 [(0, .ref ((M 0))), (1, .int v1), (2, .int v2), (3, .int v3), (4, .int v4)] → W p l e zr_X8_better s m args below meth c H locs 0 0 Q (F0 m 30 ls []) := by
    intro n
    induction n with
    | zero =>
      intro v1 v2 v3 v4 b_refused b_now b_minds b_fled H locs ls hf hw hl
      rw [zf_X8_better_30] at hf
      cases hf
    | succ n ih =>
      intro v1 v2 v3 v4 b_refused b_now b_minds b_fled H locs ls hf hw hl
      rw [zf_X8_better_30] at hf
      refine lv_iload (pc := 30) hx hb dX8_better_30 (lv_at hl 4 rfl) ?_
      refine lv_bipush (pc := 32) (v := 100) hx hb dX8_better_32 (by decide) ?_
      refine lv_icmp_ge (pc := 34) (tgt := 70) hx hb dX8_better_34 (by decide) (fun q5 => ?_) (fun q5 => ?_)
      · replace hf := if_t q5 hf
        refine lv_iload_n (pc := 70) hx hb dX8_better_70 rfl (lv_at hl 3 rfl) ?_
        have hf := Option.some.inj hf
        subst hf
        exact zk_reti (pc := 71) (ww := [xM M b_isKept b_size b_at b_from b_sort b_fled b_flights b_firstFlight b_bestHarms b_bestRage b_harmed b_raged, xI cy ((M 1)) 7 b_refused, xI cy ((M 2)) 39 b_now, xI cy ((M 4)) 273 b_minds]) C hw hr hQ dX8_better_71
      · replace hf := if_f q5 hf
        refine lv_iload_n (pc := 37) hx hb dX8_better_37 rfl (lv_at hl 3 rfl) ?_
        refine lv_aload_n (pc := 38) hx hb dX8_better_38 rfl (lv_at hl 0 rfl) ?_
        refine lv_iload_n (pc := 39) hx hb dX8_better_39 rfl (lv_at hl 1 rfl) ?_
        refine lv_iconst (pc := 40) (v := 0) hx hb dX8_better_40 (by decide) ?_
        refine lv_iload (pc := 41) hx hb dX8_better_41 (lv_at hl 4 rfl) ?_
        obtain ⟨u6, u6e, hf⟩ := bd hf
        refine zk_cV (pc := 43) (ci := 8) (q0 := 0) (rest := [.int v3]) (st1 := [.int u6.1, .int v3]) (w' := [xM M b_isKept b_size b_at b_from b_sort u6.2.2.2 b_flights b_firstFlight b_bestHarms b_bestRage b_harmed b_raged, xI cy ((M 1)) 7 b_refused, xI cy ((M 2)) 39 u6.2.1, xI cy ((M 4)) 273 u6.2.2.1]) (mk := [some (xM M b_isKept b_size b_at b_from b_sort u6.2.2.2 b_flights b_firstFlight b_bestHarms b_bestRage b_harmed b_raged), none, some (xI cy ((M 2)) 39 u6.2.1), some (xI cy ((M 4)) 273 u6.2.2.1)]) C hw (c_X8_then l G cy tt M b_isKept b_size b_at b_from b_sort b_flights b_firstFlight b_bestHarms b_bestRage b_harmed b_raged v1 (((0 : Int32))) v4 b_now b_minds b_fled _ u6e) zy_X8_then zm_X8_187 rfl rfl rfl [0, 2, 3] rfl rfl rfl rfl rfl rfl rfl rfl hl.1 ⟨rfl, rfl⟩ ⟨Nat.le_of_ble_eq_true rfl, Nat.le_of_ble_eq_true rfl⟩ rfl (Nat.le_of_ble_eq_true rfl) ⟨Nat.zero_le _, Nat.zero_le _⟩ dX8_better_43 (fun H locs hw => ?_)
        refine lv_aload_n (pc := 46) hx hb dX8_better_46 rfl (lv_at hl 0 rfl) ?_
        refine lv_iload_n (pc := 47) hx hb dX8_better_47 rfl (lv_at hl 2 rfl) ?_
        refine lv_iconst (pc := 48) (v := 0) hx hb dX8_better_48 (by decide) ?_
        refine lv_iload (pc := 49) hx hb dX8_better_49 (lv_at hl 4 rfl) ?_
        obtain ⟨u7, u7e, hf⟩ := bd hf
        refine zk_cV (pc := 51) (ci := 8) (q0 := 0) (rest := [.int u6.1, .int v3]) (st1 := [.int u7.1, .int u6.1, .int v3]) (w' := [xM M b_isKept b_size b_at b_from b_sort u7.2.2.2 b_flights b_firstFlight b_bestHarms b_bestRage b_harmed b_raged, xI cy ((M 1)) 7 b_refused, xI cy ((M 2)) 39 u7.2.1, xI cy ((M 4)) 273 u7.2.2.1]) (mk := [some (xM M b_isKept b_size b_at b_from b_sort u7.2.2.2 b_flights b_firstFlight b_bestHarms b_bestRage b_harmed b_raged), none, some (xI cy ((M 2)) 39 u7.2.1), some (xI cy ((M 4)) 273 u7.2.2.1)]) C hw (c_X8_then l G cy tt M b_isKept b_size b_at b_from b_sort b_flights b_firstFlight b_bestHarms b_bestRage b_harmed b_raged v2 (((0 : Int32))) v4 u6.2.1 u6.2.2.1 u6.2.2.2 _ u7e) zy_X8_then zm_X8_187 rfl rfl rfl [0, 2, 3] rfl rfl rfl rfl rfl rfl rfl rfl hl.1 ⟨rfl, rfl⟩ ⟨Nat.le_of_ble_eq_true rfl, Nat.le_of_ble_eq_true rfl⟩ rfl (Nat.le_of_ble_eq_true rfl) ⟨Nat.zero_le _, Nat.zero_le _⟩ dX8_better_51 (fun H locs hw => ?_)
        refine lv_icmp_ge (pc := 54) (tgt := 61) hx hb dX8_better_54 (by decide) (fun q8 => ?_) (fun q8 => ?_)
        · replace hf := if_t q8 hf
          refine lv_iconst (pc := 61) (v := 0) hx hb dX8_better_61 (by decide) ?_
          exact J62 (zf_X8_better_30 n) ih v1 v2 v4 false v3 b_refused u7.2.1 u7.2.2.1 u7.2.2.2 _ _ _ hf hw (lv_sub hl [0, 1, 2, 4] rfl)
        · replace hf := if_f q8 hf
          refine lv_iconst (pc := 57) (v := 1) hx hb dX8_better_57 (by decide) ?_
          refine lv_goto (pc := 58) (tgt := 62) hx hb dX8_better_58 (by decide) ?_
          exact J62 (zf_X8_better_30 n) ih v1 v2 v4 true v3 b_refused u7.2.1 u7.2.2.1 u7.2.2.2 _ _ _ hf hw (lv_sub hl [0, 1, 2, 4] rfl)
  rw [zf_X8_better] at hf
  refine lv_aload_n (pc := 0) hx hb dX8_better_0 rfl (lv_at hl 0 rfl) ?_
  refine lv_iload_n (pc := 1) hx hb dX8_better_1 rfl (lv_at hl 1 rfl) ?_
  refine lv_i2l (pc := 2) (v := x1.toInt64) hx hb dX8_better_2 rfl ?_
  obtain ⟨u1, u1e, hf⟩ := bd hf
  refine zk_cV (pc := 3) (ci := 8) (q0 := 0) (rest := []) (st1 := [.int (bI u1)]) (w' := [xM M b_isKept b_size b_at b_from b_sort b_fled b_flights b_firstFlight b_bestHarms b_bestRage b_harmed b_raged, xI cy ((M 1)) 7 b_refused, xI cy ((M 2)) 39 b_now, xI cy ((M 4)) 273 b_minds]) (mk := [none, none, none, none]) C hw (c_X8_isOrder l G cy tt M b_isKept b_size b_at b_from b_sort b_fled b_flights b_firstFlight b_bestHarms b_bestRage b_harmed b_raged x1.toInt64 b_now _ u1e) zy_X8_isOrder zm_X8_184 rfl rfl rfl [0, 2] rfl rfl rfl rfl rfl rfl rfl rfl hl.1 ⟨rfl, rfl⟩ ⟨Nat.le_of_ble_eq_true rfl, Nat.le_of_ble_eq_true rfl⟩ rfl (Nat.le_of_ble_eq_true rfl) ⟨Nat.zero_le _, Nat.zero_le _⟩ dX8_better_3 (fun H locs hw => ?_)
  refine zk_ifz (pc := 6) (tgt := 18) hx hb dX8_better_6 (by decide) (fun q2 => ?_) (fun q2 => ?_)
  · replace hf := if_f q2 hf
    exact J18 b_refused b_now b_minds b_fled _ _ _ hf hw (lv_sub hl [0] rfl)
  · replace hf := if_t q2 hf
    refine lv_aload_n (pc := 9) hx hb dX8_better_9 rfl (lv_at hl 0 rfl) ?_
    refine lv_iload_n (pc := 10) hx hb dX8_better_10 rfl (lv_at hl 2 rfl) ?_
    refine lv_i2l (pc := 11) (v := x2.toInt64) hx hb dX8_better_11 rfl ?_
    obtain ⟨u3, u3e, hf⟩ := bd hf
    refine zk_cV (pc := 12) (ci := 8) (q0 := 0) (rest := []) (st1 := [.int (bI u3)]) (w' := [xM M b_isKept b_size b_at b_from b_sort b_fled b_flights b_firstFlight b_bestHarms b_bestRage b_harmed b_raged, xI cy ((M 1)) 7 b_refused, xI cy ((M 2)) 39 b_now, xI cy ((M 4)) 273 b_minds]) (mk := [none, none, none, none]) C hw (c_X8_isOrder l G cy tt M b_isKept b_size b_at b_from b_sort b_fled b_flights b_firstFlight b_bestHarms b_bestRage b_harmed b_raged x2.toInt64 b_now _ u3e) zy_X8_isOrder zm_X8_184 rfl rfl rfl [0, 2] rfl rfl rfl rfl rfl rfl rfl rfl hl.1 ⟨rfl, rfl⟩ ⟨Nat.le_of_ble_eq_true rfl, Nat.le_of_ble_eq_true rfl⟩ rfl (Nat.le_of_ble_eq_true rfl) ⟨Nat.zero_le _, Nat.zero_le _⟩ dX8_better_12 (fun H locs hw => ?_)
    refine zk_ifnz (pc := 15) (tgt := 25) hx hb dX8_better_15 (by decide) (fun q4 => ?_) (fun q4 => ?_)
    · replace hf := if_t q4 hf
      refine lv_iconst (pc := 25) (v := 0) hx hb dX8_better_25 (by decide) ?_
      refine lv_istore_n (pc := 26) (lv' := [(3, .int ((0 : Int32))), (0, .ref ((M 0))), (1, .int x1), (2, .int x2)]) hx hb dX8_better_26 rfl hl (by decide) rfl (fun ls hl => ?_)
      refine lv_iconst (pc := 27) (v := 0) hx hb dX8_better_27 (by decide) ?_
      refine lv_istore (pc := 28) (lv' := [(4, .int ((0 : Int32))), (3, .int ((0 : Int32))), (0, .ref ((M 0))), (1, .int x1), (2, .int x2)]) hx hb dX8_better_28 hl (by decide) rfl (fun ls hl => ?_)
      exact J30 FU x1 x2 ((0 : Int32)) ((0 : Int32)) b_refused b_now b_minds b_fled _ _ _ hf hw (lv_sub hl [2, 3, 4, 1, 0] rfl)
    · replace hf := if_f q4 hf
      exact J18 b_refused b_now b_minds b_fled _ _ _ hf hw (lv_sub hl [0] rfl)
def zf_X8_still_18 : Nat → Int32 → Int32 → (Nat → Int32) → (Nat → Int32) → (Nat → Int32) → Bool → Option (Int32 × (Nat → Int32) × (Nat → Int32) × (Nat → Int32) × Bool)
  | 0, _, _, _, _, _, _ => none
  | n + 1, v1, v2, b_refused, b_now, b_minds, b_fled => (if (100 : Int32) ≤ v2 then some ((-1 : Int32), b_refused, b_now, b_minds, b_fled) else (Option.bind (zf_X8_then v1 (((0 : Int32))) v2 b_now b_minds b_fled) (fun u5 => (if u5.1 = v2 then some (v2, b_refused, u5.2.1, u5.2.2.1, u5.2.2.2) else zf_X8_still_18 n v1 ((v2 + 1)) b_refused u5.2.1 u5.2.2.1 u5.2.2.2))))
def zf_X8_still (x1 : Int32) (b_refused : Nat → Int32) (b_now : Nat → Int32) (b_minds : Nat → Int32) (b_fled : Bool) : Option (Int32 × (Nat → Int32) × (Nat → Int32) × (Nat → Int32) × Bool) := (Option.bind (zf_X8_isOrder x1.toInt64 b_now) (fun u1 => (if u1 then zf_X8_still_18 FU x1 ((0 : Int32)) b_refused b_now b_minds b_fled else (Option.bind (zf_X8_refuse (((-2 : Int32))) b_refused) (fun u3 => some (u3.1, u3.2, b_now, b_minds, b_fled))))))
abbrev zr_X8_still : Room := { frames := 4, cells := 0, slots := 0, locals := 90 }
set_option maxHeartbeats 4000000 in
set_option maxRecDepth 100000 in
theorem c_X8_still (l : Launch) (G : va_G) (cy : Nat → ClassId) (tt : Nat → Nat) (M : Nat → Nat) (b_isKept : Bool) (b_size : Int32) (b_at : Int32) (b_from : Int32) (b_sort : Int32) (b_flights : Int32) (b_firstFlight : Int32) (b_bestHarms : Int32) (b_bestRage : Int32) (b_harmed : Int64) (b_raged : Int64) (x1 : Int32) (b_refused : Nat → Int32) (b_now : Nat → Int32) (b_minds : Nat → Int32) (b_fled : Bool) (res : Int32 × (Nat → Int32) × (Nat → Int32) × (Nat → Int32) × Bool) (hf : zf_X8_still x1 b_refused b_now b_minds b_fled = some res) : zCT l yX8_still cX8_still 3 (some .int) zr_X8_still G cy tt [.ref ((M 0)), .int x1] [xM M b_isKept b_size b_at b_from b_sort b_fled b_flights b_firstFlight b_bestHarms b_bestRage b_harmed b_raged, xI cy ((M 1)) 7 b_refused, xI cy ((M 2)) 39 b_now, xI cy ((M 4)) 273 b_minds] (some (.int res.1)) [xM M b_isKept b_size b_at b_from b_sort res.2.2.2.2 b_flights b_firstFlight b_bestHarms b_bestRage b_harmed b_raged, xI cy ((M 1)) 7 res.2.1, xI cy ((M 2)) 39 res.2.2.1, xI cy ((M 4)) 273 res.2.2.2.1] := by
  refine zk_start zn_X8 (Nat.le_of_ble_eq_true rfl) ?_
  intro p e s m args below meth c A ls Q C hr hQ hw hl
  have C : zCx p m c s args meth cX8_still 3 RX8 G cy tt A := C
  have hx := C.1.1
  have hb := C.1.2.1
  have hl : lv_has ls 3 [(0, .ref ((M 0))), (1, .int x1)] := hl
  have J18 : ∀ (n : Nat), ∀ (v1 : Int32) (v2 : Int32) (b_refused : Nat → Int32) (b_now : Nat → Int32) (b_minds : Nat → Int32) (b_fled : Bool) (H : Heap) (locs : List Loc) (ls : Array Slot), zf_X8_still_18 n v1 v2 b_refused b_now b_minds b_fled = some res → zWd G A s.heap H locs [xM M b_isKept b_size b_at b_from b_sort b_fled b_flights b_firstFlight b_bestHarms b_bestRage b_harmed b_raged, xI cy ((M 1)) 7 b_refused, xI cy ((M 2)) 39 b_now, xI cy ((M 4)) 273 b_minds] → lv_has ls 3 [(0, .ref ((M 0))), (1, .int v1), (2, .int v2)] → W p l e zr_X8_still s m args below meth c H locs 0 0 Q (F0 m 18 ls []) := by
    intro n
    induction n with
    | zero =>
      intro v1 v2 b_refused b_now b_minds b_fled H locs ls hf hw hl
      rw [zf_X8_still_18] at hf
      cases hf
    | succ n ih =>
      intro v1 v2 b_refused b_now b_minds b_fled H locs ls hf hw hl
      rw [zf_X8_still_18] at hf
      refine lv_iload_n (pc := 18) hx hb dX8_still_18 rfl (lv_at hl 2 rfl) ?_
      refine lv_bipush (pc := 19) (v := 100) hx hb dX8_still_19 (by decide) ?_
      refine lv_icmp_ge (pc := 21) (tgt := 43) hx hb dX8_still_21 (by decide) (fun q4 => ?_) (fun q4 => ?_)
      · replace hf := if_t q4 hf
        refine lv_iconst (pc := 43) (v := -1) hx hb dX8_still_43 (by decide) ?_
        have hf := Option.some.inj hf
        subst hf
        exact zk_reti (pc := 44) (ww := [xM M b_isKept b_size b_at b_from b_sort b_fled b_flights b_firstFlight b_bestHarms b_bestRage b_harmed b_raged, xI cy ((M 1)) 7 b_refused, xI cy ((M 2)) 39 b_now, xI cy ((M 4)) 273 b_minds]) C hw hr hQ dX8_still_44
      · replace hf := if_f q4 hf
        refine lv_aload_n (pc := 24) hx hb dX8_still_24 rfl (lv_at hl 0 rfl) ?_
        refine lv_iload_n (pc := 25) hx hb dX8_still_25 rfl (lv_at hl 1 rfl) ?_
        refine lv_iconst (pc := 26) (v := 0) hx hb dX8_still_26 (by decide) ?_
        refine lv_iload_n (pc := 27) hx hb dX8_still_27 rfl (lv_at hl 2 rfl) ?_
        obtain ⟨u5, u5e, hf⟩ := bd hf
        refine zk_cV (pc := 28) (ci := 8) (q0 := 0) (rest := []) (st1 := [.int u5.1]) (w' := [xM M b_isKept b_size b_at b_from b_sort u5.2.2.2 b_flights b_firstFlight b_bestHarms b_bestRage b_harmed b_raged, xI cy ((M 1)) 7 b_refused, xI cy ((M 2)) 39 u5.2.1, xI cy ((M 4)) 273 u5.2.2.1]) (mk := [some (xM M b_isKept b_size b_at b_from b_sort u5.2.2.2 b_flights b_firstFlight b_bestHarms b_bestRage b_harmed b_raged), none, some (xI cy ((M 2)) 39 u5.2.1), some (xI cy ((M 4)) 273 u5.2.2.1)]) C hw (c_X8_then l G cy tt M b_isKept b_size b_at b_from b_sort b_flights b_firstFlight b_bestHarms b_bestRage b_harmed b_raged v1 (((0 : Int32))) v2 b_now b_minds b_fled _ u5e) zy_X8_then zm_X8_187 rfl rfl rfl [0, 2, 3] rfl rfl rfl rfl rfl rfl rfl rfl hl.1 ⟨rfl, rfl⟩ ⟨Nat.le_of_ble_eq_true rfl, Nat.le_of_ble_eq_true rfl⟩ rfl (Nat.le_of_ble_eq_true rfl) ⟨Nat.zero_le _, Nat.zero_le _⟩ dX8_still_28 (fun H locs hw => ?_)
        refine lv_iload_n (pc := 31) hx hb dX8_still_31 rfl (lv_at hl 2 rfl) ?_
        refine lv_icmp_ne (pc := 32) (tgt := 37) hx hb dX8_still_32 (by decide) (fun q6 => ?_) (fun q6 => ?_)
        · replace hf := if_f q6 hf
          refine lv_iinc (pc := 37) (v := (v2 + 1)) (lv' := [(2, .int ((v2 + 1))), (0, .ref ((M 0))), (1, .int v1)]) hx hb dX8_still_37 hl (k := 2) rfl rfl (by decide) rfl (fun ls hl => ?_)
          refine lv_goto (pc := 40) (tgt := 18) hx hb dX8_still_40 (by decide) ?_
          exact ih v1 ((v2 + 1)) b_refused u5.2.1 u5.2.2.1 u5.2.2.2 _ _ _ hf hw (lv_sub hl [1, 2, 0] rfl)
        · replace hf := if_t q6 hf
          refine lv_iload_n (pc := 35) hx hb dX8_still_35 rfl (lv_at hl 2 rfl) ?_
          have hf := Option.some.inj hf
          subst hf
          exact zk_reti (pc := 36) (ww := [xM M b_isKept b_size b_at b_from b_sort u5.2.2.2 b_flights b_firstFlight b_bestHarms b_bestRage b_harmed b_raged, xI cy ((M 1)) 7 b_refused, xI cy ((M 2)) 39 u5.2.1, xI cy ((M 4)) 273 u5.2.2.1]) C hw hr hQ dX8_still_36
  rw [zf_X8_still] at hf
  refine lv_aload_n (pc := 0) hx hb dX8_still_0 rfl (lv_at hl 0 rfl) ?_
  refine lv_iload_n (pc := 1) hx hb dX8_still_1 rfl (lv_at hl 1 rfl) ?_
  refine lv_i2l (pc := 2) (v := x1.toInt64) hx hb dX8_still_2 rfl ?_
  obtain ⟨u1, u1e, hf⟩ := bd hf
  refine zk_cV (pc := 3) (ci := 8) (q0 := 0) (rest := []) (st1 := [.int (bI u1)]) (w' := [xM M b_isKept b_size b_at b_from b_sort b_fled b_flights b_firstFlight b_bestHarms b_bestRage b_harmed b_raged, xI cy ((M 1)) 7 b_refused, xI cy ((M 2)) 39 b_now, xI cy ((M 4)) 273 b_minds]) (mk := [none, none, none, none]) C hw (c_X8_isOrder l G cy tt M b_isKept b_size b_at b_from b_sort b_fled b_flights b_firstFlight b_bestHarms b_bestRage b_harmed b_raged x1.toInt64 b_now _ u1e) zy_X8_isOrder zm_X8_184 rfl rfl rfl [0, 2] rfl rfl rfl rfl rfl rfl rfl rfl hl.1 ⟨rfl, rfl⟩ ⟨Nat.le_of_ble_eq_true rfl, Nat.le_of_ble_eq_true rfl⟩ rfl (Nat.le_of_ble_eq_true rfl) ⟨Nat.zero_le _, Nat.zero_le _⟩ dX8_still_3 (fun H locs hw => ?_)
  refine zk_ifnz (pc := 6) (tgt := 16) hx hb dX8_still_6 (by decide) (fun q2 => ?_) (fun q2 => ?_)
  · replace hf := if_t q2 hf
    refine lv_iconst (pc := 16) (v := 0) hx hb dX8_still_16 (by decide) ?_
    refine lv_istore_n (pc := 17) (lv' := [(2, .int ((0 : Int32))), (0, .ref ((M 0))), (1, .int x1)]) hx hb dX8_still_17 rfl hl (by decide) rfl (fun ls hl => ?_)
    exact J18 FU x1 ((0 : Int32)) b_refused b_now b_minds b_fled _ _ _ hf hw (lv_sub hl [1, 2, 0] rfl)
  · replace hf := if_f q2 hf
    refine lv_aload_n (pc := 9) hx hb dX8_still_9 rfl (lv_at hl 0 rfl) ?_
    refine lv_bipush (pc := 10) (v := -2) hx hb dX8_still_10 (by decide) ?_
    obtain ⟨u3, u3e, hf⟩ := bd hf
    refine zk_cV (pc := 12) (ci := 8) (q0 := 0) (rest := []) (st1 := [.int u3.1]) (w' := [xM M b_isKept b_size b_at b_from b_sort b_fled b_flights b_firstFlight b_bestHarms b_bestRage b_harmed b_raged, xI cy ((M 1)) 7 u3.2, xI cy ((M 2)) 39 b_now, xI cy ((M 4)) 273 b_minds]) (mk := [none, some (xI cy ((M 1)) 7 u3.2), none, none]) C hw (c_X8_refuse l G cy tt M b_isKept b_size b_at b_from b_sort b_fled b_flights b_firstFlight b_bestHarms b_bestRage b_harmed b_raged (((-2 : Int32))) b_refused _ u3e) zy_X8_refuse zm_X8_90 rfl rfl rfl [0, 1] rfl rfl rfl rfl rfl rfl rfl rfl hl.1 ⟨rfl, rfl⟩ ⟨Nat.le_of_ble_eq_true rfl, Nat.le_of_ble_eq_true rfl⟩ rfl (Nat.le_of_ble_eq_true rfl) ⟨Nat.zero_le _, Nat.zero_le _⟩ dX8_still_12 (fun H locs hw => ?_)
    have hf := Option.some.inj hf
    subst hf
    exact zk_reti (pc := 15) (ww := [xM M b_isKept b_size b_at b_from b_sort b_fled b_flights b_firstFlight b_bestHarms b_bestRage b_harmed b_raged, xI cy ((M 1)) 7 u3.2, xI cy ((M 2)) 39 b_now, xI cy ((M 4)) 273 b_minds]) C hw hr hQ dX8_still_15
def zf_X8_calmFor_71 (k33 : Int32 → Int32 → Int32 → Int32 → (Nat → Int32) → (Nat → Int32) → (Nat → Int32) → Bool → Option (Int32 × (Nat → Int32) × (Nat → Int32) × (Nat → Int32) × Bool)) (v1 : Int32) (v2 : Int32) (v4 : Int32) (t0 : Int32) (b_refused : Nat → Int32) (b_now : Nat → Int32) (b_minds : Nat → Int32) (b_fled : Bool) : Option (Int32 × (Nat → Int32) × (Nat → Int32) × (Nat → Int32) × Bool) := k33 v1 v2 t0 ((v4 + (-1))) b_refused b_now b_minds b_fled
def zf_X8_calmFor_33 : Nat → Int32 → Int32 → Int32 → Int32 → (Nat → Int32) → (Nat → Int32) → (Nat → Int32) → Bool → Option (Int32 × (Nat → Int32) × (Nat → Int32) × (Nat → Int32) × Bool)
  | 0, _, _, _, _, _, _, _, _ => none
  | n + 1, v1, v2, v3, v4, b_refused, b_now, b_minds, b_fled => (if v4 < 0 then some (v3, b_refused, (upd b_now 34 v2), b_minds, b_fled) else (Option.bind (zf_X8_then (((10 : Int32))) (((0 : Int32))) (((((upd b_now 34 v4)) 33))) ((upd b_now 34 v4)) b_minds b_fled) (fun u5 => (if v1 < u5.1 then zf_X8_calmFor_71 (zf_X8_calmFor_33 n) v1 v2 v4 v3 b_refused u5.2.1 u5.2.2.1 u5.2.2.2 else zf_X8_calmFor_71 (zf_X8_calmFor_33 n) v1 v2 v4 v4 b_refused u5.2.1 u5.2.2.1 u5.2.2.2))))
def zf_X8_calmFor (x1 : Int32) (b_refused : Nat → Int32) (b_now : Nat → Int32) (b_minds : Nat → Int32) (b_fled : Bool) : Option (Int32 × (Nat → Int32) × (Nat → Int32) × (Nat → Int32) × Bool) := (Option.bind (zf_X8_isIn x1.toInt64 (((0 : Int64))) (((99 : Int64)))) (fun u1 => (if u1 then zf_X8_calmFor_33 FU x1 ((b_now 34)) ((-1 : Int32)) ((99 : Int32)) b_refused b_now b_minds b_fled else (Option.bind (zf_X8_refuse (((-2 : Int32))) b_refused) (fun u3 => some (u3.1, u3.2, b_now, b_minds, b_fled))))))
abbrev zr_X8_calmFor : Room := { frames := 4, cells := 0, slots := 0, locals := 90 }
set_option maxHeartbeats 4000000 in
set_option maxRecDepth 100000 in
theorem c_X8_calmFor (l : Launch) (G : va_G) (cy : Nat → ClassId) (tt : Nat → Nat) (M : Nat → Nat) (b_isKept : Bool) (b_size : Int32) (b_at : Int32) (b_from : Int32) (b_sort : Int32) (b_flights : Int32) (b_firstFlight : Int32) (b_bestHarms : Int32) (b_bestRage : Int32) (b_harmed : Int64) (b_raged : Int64) (x1 : Int32) (b_refused : Nat → Int32) (b_now : Nat → Int32) (b_minds : Nat → Int32) (b_fled : Bool) (res : Int32 × (Nat → Int32) × (Nat → Int32) × (Nat → Int32) × Bool) (hf : zf_X8_calmFor x1 b_refused b_now b_minds b_fled = some res) : zCT l yX8_calmFor cX8_calmFor 5 (some .int) zr_X8_calmFor G cy tt [.ref ((M 0)), .int x1] [xM M b_isKept b_size b_at b_from b_sort b_fled b_flights b_firstFlight b_bestHarms b_bestRage b_harmed b_raged, xI cy ((M 1)) 7 b_refused, xI cy ((M 2)) 39 b_now, xI cy ((M 4)) 273 b_minds] (some (.int res.1)) [xM M b_isKept b_size b_at b_from b_sort res.2.2.2.2 b_flights b_firstFlight b_bestHarms b_bestRage b_harmed b_raged, xI cy ((M 1)) 7 res.2.1, xI cy ((M 2)) 39 res.2.2.1, xI cy ((M 4)) 273 res.2.2.2.1] := by
  refine zk_start zn_X8 (Nat.le_of_ble_eq_true rfl) ?_
  intro p e s m args below meth c A ls Q C hr hQ hw hl
  have C : zCx p m c s args meth cX8_calmFor 5 RX8 G cy tt A := C
  have hx := C.1.1
  have hb := C.1.2.1
  have hl : lv_has ls 5 [(0, .ref ((M 0))), (1, .int x1)] := hl
  have J71 : ∀ (k33 : Int32 → Int32 → Int32 → Int32 → (Nat → Int32) → (Nat → Int32) → (Nat → Int32) → Bool → Option (Int32 × (Nat → Int32) × (Nat → Int32) × (Nat → Int32) × Bool)) (K33 : ∀ (v1 : Int32) (v2 : Int32) (v3 : Int32) (v4 : Int32) (b_refused : Nat → Int32) (b_now : Nat → Int32) (b_minds : Nat → Int32) (b_fled : Bool) (H : Heap) (locs : List Loc) (ls : Array Slot), k33 v1 v2 v3 v4 b_refused b_now b_minds b_fled = some res → zWd G A s.heap H locs [xM M b_isKept b_size b_at b_from b_sort b_fled b_flights b_firstFlight b_bestHarms b_bestRage b_harmed b_raged, xI cy ((M 1)) 7 b_refused, xI cy ((M 2)) 39 b_now, xI cy ((M 4)) 273 b_minds] → lv_has ls 5 [(0, .ref ((M 0))), (1, .int v1), (2, .int v2), (3, .int v3), (4, .int v4)] → W p l e zr_X8_calmFor s m args below meth c H locs 0 0 Q (F0 m 33 ls [])), ∀ (v1 : Int32) (v2 : Int32) (v4 : Int32) (t0 : Int32) (b_refused : Nat → Int32) (b_now : Nat → Int32) (b_minds : Nat → Int32) (b_fled : Bool) (H : Heap) (locs : List Loc) (ls : Array Slot), zf_X8_calmFor_71 k33 v1 v2 v4 t0 b_refused b_now b_minds b_fled = some res → zWd G A s.heap H locs [xM M b_isKept b_size b_at b_from b_sort b_fled b_flights b_firstFlight b_bestHarms b_bestRage b_harmed b_raged, xI cy ((M 1)) 7 b_refused, xI cy ((M 2)) 39 b_now, xI cy ((M 4)) 273 b_minds] → lv_has ls 5 [(0, .ref ((M 0))), (1, .int v1), (2, .int v2), (4, .int v4)] → W p l e zr_X8_calmFor s m args below meth c H locs 0 0 Q (F0 m 71 ls [.int t0]) := by
    intro k33 K33 v1 v2 v4 t0 b_refused b_now b_minds b_fled H locs ls hf hw hl
    rw [zf_X8_calmFor_71] at hf
    refine lv_istore_n (pc := 71) (lv' := [(3, .int t0), (0, .ref ((M 0))), (1, .int v1), (2, .int v2), (4, .int v4)]) hx hb dX8_calmFor_71 rfl hl (by decide) rfl (fun ls hl => ?_)
    refine lv_iinc (pc := 72) (v := (v4 + (-1))) (lv' := [(4, .int ((v4 + (-1)))), (3, .int t0), (0, .ref ((M 0))), (1, .int v1), (2, .int v2)]) hx hb dX8_calmFor_72 hl (k := 4) rfl rfl (by decide) rfl (fun ls hl => ?_)
    refine lv_goto (pc := 75) (tgt := 33) hx hb dX8_calmFor_75 (by decide) ?_
    exact K33 v1 v2 t0 ((v4 + (-1))) b_refused b_now b_minds b_fled _ _ _ hf hw (lv_sub hl [2, 3, 4, 1, 0] rfl)
  have J33 : ∀ (n : Nat), ∀ (v1 : Int32) (v2 : Int32) (v3 : Int32) (v4 : Int32) (b_refused : Nat → Int32) (b_now : Nat → Int32) (b_minds : Nat → Int32) (b_fled : Bool) (H : Heap) (locs : List Loc) (ls : Array Slot), zf_X8_calmFor_33 n v1 v2 v3 v4 b_refused b_now b_minds b_fled = some res → zWd G A s.heap H locs [xM M b_isKept b_size b_at b_from b_sort b_fled b_flights b_firstFlight b_bestHarms b_bestRage b_harmed b_raged, xI cy ((M 1)) 7 b_refused, xI cy ((M 2)) 39 b_now, xI cy ((M 4)) 273 b_minds] → lv_has ls 5 [(0, .ref ((M 0))), (1, .int v1), (2, .int v2), (3, .int v3), (4, .int v4)] → W p l e zr_X8_calmFor s m args below meth c H locs 0 0 Q (F0 m 33 ls []) := by
    intro n
    induction n with
    | zero =>
      intro v1 v2 v3 v4 b_refused b_now b_minds b_fled H locs ls hf hw hl
      rw [zf_X8_calmFor_33] at hf
      cases hf
    | succ n ih =>
      intro v1 v2 v3 v4 b_refused b_now b_minds b_fled H locs ls hf hw hl
      rw [zf_X8_calmFor_33] at hf
      refine lv_iload (pc := 33) hx hb dX8_calmFor_33 (lv_at hl 4 rfl) ?_
      refine lv_if_lt (pc := 35) (tgt := 78) hx hb dX8_calmFor_35 (by decide) (fun q4 => ?_) (fun q4 => ?_)
      · replace hf := if_t q4 hf
        refine lv_aload_n (pc := 78) hx hb dX8_calmFor_78 rfl (lv_at hl 0 rfl) ?_
        refine zk_gt (pc := 79) C hw zl_X8_17 0 rfl rfl dX8_calmFor_79 ?_
        refine lv_bipush (pc := 82) (v := 34) hx hb dX8_calmFor_82 (by decide) ?_
        refine lv_iload_n (pc := 84) hx hb dX8_calmFor_84 rfl (lv_at hl 2 rfl) ?_
        refine zk_iastK (pc := 85) (w' := [xM M b_isKept b_size b_at b_from b_sort b_fled b_flights b_firstFlight b_bestHarms b_bestRage b_harmed b_raged, xI cy ((M 1)) 7 b_refused, xI cy ((M 2)) 39 ((upd b_now 34 v2)), xI cy ((M 4)) 273 b_minds]) 34 (by decide) C hw 2 rfl (by decide) rfl dX8_calmFor_85 (fun H locs hw => ?_)
        refine lv_iload_n (pc := 86) hx hb dX8_calmFor_86 rfl (lv_at hl 3 rfl) ?_
        have hf := Option.some.inj hf
        subst hf
        exact zk_reti (pc := 87) (ww := [xM M b_isKept b_size b_at b_from b_sort b_fled b_flights b_firstFlight b_bestHarms b_bestRage b_harmed b_raged, xI cy ((M 1)) 7 b_refused, xI cy ((M 2)) 39 ((upd b_now 34 v2)), xI cy ((M 4)) 273 b_minds]) C hw hr hQ dX8_calmFor_87
      · replace hf := if_f q4 hf
        refine lv_aload_n (pc := 38) hx hb dX8_calmFor_38 rfl (lv_at hl 0 rfl) ?_
        refine zk_gt (pc := 39) C hw zl_X8_17 0 rfl rfl dX8_calmFor_39 ?_
        refine lv_bipush (pc := 42) (v := 34) hx hb dX8_calmFor_42 (by decide) ?_
        refine lv_iload (pc := 44) hx hb dX8_calmFor_44 (lv_at hl 4 rfl) ?_
        refine zk_iastK (pc := 46) (w' := [xM M b_isKept b_size b_at b_from b_sort b_fled b_flights b_firstFlight b_bestHarms b_bestRage b_harmed b_raged, xI cy ((M 1)) 7 b_refused, xI cy ((M 2)) 39 ((upd b_now 34 v4)), xI cy ((M 4)) 273 b_minds]) 34 (by decide) C hw 2 rfl (by decide) rfl dX8_calmFor_46 (fun H locs hw => ?_)
        refine lv_aload_n (pc := 47) hx hb dX8_calmFor_47 rfl (lv_at hl 0 rfl) ?_
        refine lv_bipush (pc := 48) (v := 10) hx hb dX8_calmFor_48 (by decide) ?_
        refine lv_iconst (pc := 50) (v := 0) hx hb dX8_calmFor_50 (by decide) ?_
        refine lv_aload_n (pc := 51) hx hb dX8_calmFor_51 rfl (lv_at hl 0 rfl) ?_
        refine zk_gt (pc := 52) C hw zl_X8_17 0 rfl rfl dX8_calmFor_52 ?_
        refine lv_bipush (pc := 55) (v := 33) hx hb dX8_calmFor_55 (by decide) ?_
        refine zk_ialdK (pc := 57) 33 (by decide) C hw 2 rfl (by decide) dX8_calmFor_57 ?_
        obtain ⟨u5, u5e, hf⟩ := bd hf
        refine zk_cV (pc := 58) (ci := 8) (q0 := 0) (rest := []) (st1 := [.int u5.1]) (w' := [xM M b_isKept b_size b_at b_from b_sort u5.2.2.2 b_flights b_firstFlight b_bestHarms b_bestRage b_harmed b_raged, xI cy ((M 1)) 7 b_refused, xI cy ((M 2)) 39 u5.2.1, xI cy ((M 4)) 273 u5.2.2.1]) (mk := [some (xM M b_isKept b_size b_at b_from b_sort u5.2.2.2 b_flights b_firstFlight b_bestHarms b_bestRage b_harmed b_raged), none, some (xI cy ((M 2)) 39 u5.2.1), some (xI cy ((M 4)) 273 u5.2.2.1)]) C hw (c_X8_then l G cy tt M b_isKept b_size b_at b_from b_sort b_flights b_firstFlight b_bestHarms b_bestRage b_harmed b_raged (((10 : Int32))) (((0 : Int32))) (((((upd b_now 34 v4)) 33))) ((upd b_now 34 v4)) b_minds b_fled _ u5e) zy_X8_then zm_X8_187 rfl rfl rfl [0, 2, 3] rfl rfl rfl rfl rfl rfl rfl rfl hl.1 ⟨rfl, rfl⟩ ⟨Nat.le_of_ble_eq_true rfl, Nat.le_of_ble_eq_true rfl⟩ rfl (Nat.le_of_ble_eq_true rfl) ⟨Nat.zero_le _, Nat.zero_le _⟩ dX8_calmFor_58 (fun H locs hw => ?_)
        refine lv_iload_n (pc := 61) hx hb dX8_calmFor_61 rfl (lv_at hl 1 rfl) ?_
        refine lv_icmp_gt (pc := 62) (tgt := 70) hx hb dX8_calmFor_62 (by decide) (fun q6 => ?_) (fun q6 => ?_)
        · replace hf := if_t q6 hf
          refine lv_iload_n (pc := 70) hx hb dX8_calmFor_70 rfl (lv_at hl 3 rfl) ?_
          exact J71 (zf_X8_calmFor_33 n) ih v1 v2 v4 v3 b_refused u5.2.1 u5.2.2.1 u5.2.2.2 _ _ _ hf hw (lv_sub hl [0, 1, 2, 4] rfl)
        · replace hf := if_f q6 hf
          refine lv_iload (pc := 65) hx hb dX8_calmFor_65 (lv_at hl 4 rfl) ?_
          refine lv_goto (pc := 67) (tgt := 71) hx hb dX8_calmFor_67 (by decide) ?_
          exact J71 (zf_X8_calmFor_33 n) ih v1 v2 v4 v4 b_refused u5.2.1 u5.2.2.1 u5.2.2.2 _ _ _ hf hw (lv_sub hl [0, 1, 2, 4] rfl)
  rw [zf_X8_calmFor] at hf
  refine lv_iload_n (pc := 0) hx hb dX8_calmFor_0 rfl (lv_at hl 1 rfl) ?_
  refine lv_i2l (pc := 1) (v := x1.toInt64) hx hb dX8_calmFor_1 rfl ?_
  refine lv_lconst (pc := 2) (v := 0) hx hb dX8_calmFor_2 (by decide) ?_
  refine lv_ldc2 (pc := 3) (v := 99) hx hb C.1.2.2.2.1 (C.1.2.2.2.2 _ zc_X8_105) dX8_calmFor_3 ?_
  obtain ⟨u1, u1e, hf⟩ := bd hf
  refine zk_cS (pc := 6) (rest := []) (st1 := [.int (bI u1)]) (w' := [xM M b_isKept b_size b_at b_from b_sort b_fled b_flights b_firstFlight b_bestHarms b_bestRage b_harmed b_raged, xI cy ((M 1)) 7 b_refused, xI cy ((M 2)) 39 b_now, xI cy ((M 4)) 273 b_minds]) (mk := [none, none, none, none]) C hw (c_X8_isIn l G cy tt x1.toInt64 (((0 : Int64))) (((99 : Int64))) _ u1e) zy_X8_isIn zm_X8_68 [] rfl rfl rfl rfl rfl rfl rfl rfl hl.1 ⟨rfl, rfl⟩ ⟨Nat.le_of_ble_eq_true rfl, Nat.le_of_ble_eq_true rfl⟩ rfl (Nat.le_of_ble_eq_true rfl) ⟨Nat.zero_le _, Nat.zero_le _⟩ dX8_calmFor_6 (fun H locs hw => ?_)
  refine zk_ifnz (pc := 9) (tgt := 19) hx hb dX8_calmFor_9 (by decide) (fun q2 => ?_) (fun q2 => ?_)
  · replace hf := if_t q2 hf
    refine lv_aload_n (pc := 19) hx hb dX8_calmFor_19 rfl (lv_at hl 0 rfl) ?_
    refine zk_gt (pc := 20) C hw zl_X8_17 0 rfl rfl dX8_calmFor_20 ?_
    refine lv_bipush (pc := 23) (v := 34) hx hb dX8_calmFor_23 (by decide) ?_
    refine zk_ialdK (pc := 25) 34 (by decide) C hw 2 rfl (by decide) dX8_calmFor_25 ?_
    refine lv_istore_n (pc := 26) (lv' := [(2, .int ((b_now 34))), (0, .ref ((M 0))), (1, .int x1)]) hx hb dX8_calmFor_26 rfl hl (by decide) rfl (fun ls hl => ?_)
    refine lv_iconst (pc := 27) (v := -1) hx hb dX8_calmFor_27 (by decide) ?_
    refine lv_istore_n (pc := 28) (lv' := [(3, .int ((-1 : Int32))), (2, .int ((b_now 34))), (0, .ref ((M 0))), (1, .int x1)]) hx hb dX8_calmFor_28 rfl hl (by decide) rfl (fun ls hl => ?_)
    refine lv_bipush (pc := 29) (v := 99) hx hb dX8_calmFor_29 (by decide) ?_
    refine lv_istore (pc := 31) (lv' := [(4, .int ((99 : Int32))), (3, .int ((-1 : Int32))), (2, .int ((b_now 34))), (0, .ref ((M 0))), (1, .int x1)]) hx hb dX8_calmFor_31 hl (by decide) rfl (fun ls hl => ?_)
    exact J33 FU x1 ((b_now 34)) ((-1 : Int32)) ((99 : Int32)) b_refused b_now b_minds b_fled _ _ _ hf hw (lv_sub hl [3, 4, 2, 1, 0] rfl)
  · replace hf := if_f q2 hf
    refine lv_aload_n (pc := 12) hx hb dX8_calmFor_12 rfl (lv_at hl 0 rfl) ?_
    refine lv_bipush (pc := 13) (v := -2) hx hb dX8_calmFor_13 (by decide) ?_
    obtain ⟨u3, u3e, hf⟩ := bd hf
    refine zk_cV (pc := 15) (ci := 8) (q0 := 0) (rest := []) (st1 := [.int u3.1]) (w' := [xM M b_isKept b_size b_at b_from b_sort b_fled b_flights b_firstFlight b_bestHarms b_bestRage b_harmed b_raged, xI cy ((M 1)) 7 u3.2, xI cy ((M 2)) 39 b_now, xI cy ((M 4)) 273 b_minds]) (mk := [none, some (xI cy ((M 1)) 7 u3.2), none, none]) C hw (c_X8_refuse l G cy tt M b_isKept b_size b_at b_from b_sort b_fled b_flights b_firstFlight b_bestHarms b_bestRage b_harmed b_raged (((-2 : Int32))) b_refused _ u3e) zy_X8_refuse zm_X8_90 rfl rfl rfl [0, 1] rfl rfl rfl rfl rfl rfl rfl rfl hl.1 ⟨rfl, rfl⟩ ⟨Nat.le_of_ble_eq_true rfl, Nat.le_of_ble_eq_true rfl⟩ rfl (Nat.le_of_ble_eq_true rfl) ⟨Nat.zero_le _, Nat.zero_le _⟩ dX8_calmFor_15 (fun H locs hw => ?_)
    have hf := Option.some.inj hf
    subst hf
    exact zk_reti (pc := 18) (ww := [xM M b_isKept b_size b_at b_from b_sort b_fled b_flights b_firstFlight b_bestHarms b_bestRage b_harmed b_raged, xI cy ((M 1)) 7 u3.2, xI cy ((M 2)) 39 b_now, xI cy ((M 4)) 273 b_minds]) C hw hr hQ dX8_calmFor_18
def zf_X8_brave (x1 : Int32) (b_refused : Nat → Int32) (b_now : Nat → Int32) : Option (Int32 × (Nat → Int32) × (Nat → Int32)) := (Option.bind (zf_X8_isIn x1.toInt64 (((0 : Int64))) (((99 : Int64)))) (fun u1 => (if u1 then (Option.bind (zf_X8_staying ((upd b_now 33 x1))) (fun u3 => some (u3, b_refused, (upd ((upd b_now 33 x1)) 33 ((b_now 33)))))) else (Option.bind (zf_X8_refuse (((-2 : Int32))) b_refused) (fun u4 => some (u4.1, u4.2, b_now))))))
abbrev zr_X8_brave : Room := { frames := 3, cells := 0, slots := 0, locals := 65 }
set_option maxHeartbeats 4000000 in
set_option maxRecDepth 100000 in
theorem c_X8_brave (l : Launch) (G : va_G) (cy : Nat → ClassId) (tt : Nat → Nat) (M : Nat → Nat) (b_isKept : Bool) (b_size : Int32) (b_at : Int32) (b_from : Int32) (b_sort : Int32) (b_fled : Bool) (b_flights : Int32) (b_firstFlight : Int32) (b_bestHarms : Int32) (b_bestRage : Int32) (b_harmed : Int64) (b_raged : Int64) (x1 : Int32) (b_refused : Nat → Int32) (b_now : Nat → Int32) (res : Int32 × (Nat → Int32) × (Nat → Int32)) (hf : zf_X8_brave x1 b_refused b_now = some res) : zCT l yX8_brave cX8_brave 4 (some .int) zr_X8_brave G cy tt [.ref ((M 0)), .int x1] [xM M b_isKept b_size b_at b_from b_sort b_fled b_flights b_firstFlight b_bestHarms b_bestRage b_harmed b_raged, xI cy ((M 1)) 7 b_refused, xI cy ((M 2)) 39 b_now] (some (.int res.1)) [xM M b_isKept b_size b_at b_from b_sort b_fled b_flights b_firstFlight b_bestHarms b_bestRage b_harmed b_raged, xI cy ((M 1)) 7 res.2.1, xI cy ((M 2)) 39 res.2.2] := by
  refine zk_start zn_X8 (Nat.le_of_ble_eq_true rfl) ?_
  intro p e s m args below meth c A ls Q C hr hQ hw hl
  have C : zCx p m c s args meth cX8_brave 4 RX8 G cy tt A := C
  have hx := C.1.1
  have hb := C.1.2.1
  have hl : lv_has ls 4 [(0, .ref ((M 0))), (1, .int x1)] := hl
  rw [zf_X8_brave] at hf
  refine lv_iload_n (pc := 0) hx hb dX8_brave_0 rfl (lv_at hl 1 rfl) ?_
  refine lv_i2l (pc := 1) (v := x1.toInt64) hx hb dX8_brave_1 rfl ?_
  refine lv_lconst (pc := 2) (v := 0) hx hb dX8_brave_2 (by decide) ?_
  refine lv_ldc2 (pc := 3) (v := 99) hx hb C.1.2.2.2.1 (C.1.2.2.2.2 _ zc_X8_105) dX8_brave_3 ?_
  obtain ⟨u1, u1e, hf⟩ := bd hf
  refine zk_cS (pc := 6) (rest := []) (st1 := [.int (bI u1)]) (w' := [xM M b_isKept b_size b_at b_from b_sort b_fled b_flights b_firstFlight b_bestHarms b_bestRage b_harmed b_raged, xI cy ((M 1)) 7 b_refused, xI cy ((M 2)) 39 b_now]) (mk := [none, none, none]) C hw (c_X8_isIn l G cy tt x1.toInt64 (((0 : Int64))) (((99 : Int64))) _ u1e) zy_X8_isIn zm_X8_68 [] rfl rfl rfl rfl rfl rfl rfl rfl hl.1 ⟨rfl, rfl⟩ ⟨Nat.le_of_ble_eq_true rfl, Nat.le_of_ble_eq_true rfl⟩ rfl (Nat.le_of_ble_eq_true rfl) ⟨Nat.zero_le _, Nat.zero_le _⟩ dX8_brave_6 (fun H locs hw => ?_)
  refine zk_ifnz (pc := 9) (tgt := 19) hx hb dX8_brave_9 (by decide) (fun q2 => ?_) (fun q2 => ?_)
  · replace hf := if_t q2 hf
    refine lv_aload_n (pc := 19) hx hb dX8_brave_19 rfl (lv_at hl 0 rfl) ?_
    refine zk_gt (pc := 20) C hw zl_X8_17 0 rfl rfl dX8_brave_20 ?_
    refine lv_bipush (pc := 23) (v := 33) hx hb dX8_brave_23 (by decide) ?_
    refine zk_ialdK (pc := 25) 33 (by decide) C hw 2 rfl (by decide) dX8_brave_25 ?_
    refine lv_istore_n (pc := 26) (lv' := [(2, .int ((b_now 33))), (0, .ref ((M 0))), (1, .int x1)]) hx hb dX8_brave_26 rfl hl (by decide) rfl (fun ls hl => ?_)
    refine lv_aload_n (pc := 27) hx hb dX8_brave_27 rfl (lv_at hl 1 rfl) ?_
    refine zk_gt (pc := 28) C hw zl_X8_17 0 rfl rfl dX8_brave_28 ?_
    refine lv_bipush (pc := 31) (v := 33) hx hb dX8_brave_31 (by decide) ?_
    refine lv_iload_n (pc := 33) hx hb dX8_brave_33 rfl (lv_at hl 2 rfl) ?_
    refine zk_iastK (pc := 34) (w' := [xM M b_isKept b_size b_at b_from b_sort b_fled b_flights b_firstFlight b_bestHarms b_bestRage b_harmed b_raged, xI cy ((M 1)) 7 b_refused, xI cy ((M 2)) 39 ((upd b_now 33 x1))]) 33 (by decide) C hw 2 rfl (by decide) rfl dX8_brave_34 (fun H locs hw => ?_)
    refine lv_aload_n (pc := 35) hx hb dX8_brave_35 rfl (lv_at hl 1 rfl) ?_
    obtain ⟨u3, u3e, hf⟩ := bd hf
    refine zk_cV (pc := 36) (ci := 8) (q0 := 0) (rest := []) (st1 := [.int u3]) (w' := [xM M b_isKept b_size b_at b_from b_sort b_fled b_flights b_firstFlight b_bestHarms b_bestRage b_harmed b_raged, xI cy ((M 1)) 7 b_refused, xI cy ((M 2)) 39 ((upd b_now 33 x1))]) (mk := [none, none, none]) C hw (c_X8_staying l G cy tt M b_isKept b_size b_at b_from b_sort b_fled b_flights b_firstFlight b_bestHarms b_bestRage b_harmed b_raged ((upd b_now 33 x1)) _ u3e) zy_X8_staying zm_X8_288 rfl rfl rfl [0, 2] rfl rfl rfl rfl rfl rfl rfl rfl hl.1 ⟨rfl, rfl⟩ ⟨Nat.le_of_ble_eq_true rfl, Nat.le_of_ble_eq_true rfl⟩ rfl (Nat.le_of_ble_eq_true rfl) ⟨Nat.zero_le _, Nat.zero_le _⟩ dX8_brave_36 (fun H locs hw => ?_)
    refine lv_istore_n (pc := 39) (lv' := [(3, .int u3), (2, .int ((b_now 33))), (0, .ref ((M 0))), (1, .int x1)]) hx hb dX8_brave_39 rfl hl (by decide) rfl (fun ls hl => ?_)
    refine lv_aload_n (pc := 40) hx hb dX8_brave_40 rfl (lv_at hl 2 rfl) ?_
    refine zk_gt (pc := 41) C hw zl_X8_17 0 rfl rfl dX8_brave_41 ?_
    refine lv_bipush (pc := 44) (v := 33) hx hb dX8_brave_44 (by decide) ?_
    refine lv_iload_n (pc := 46) hx hb dX8_brave_46 rfl (lv_at hl 1 rfl) ?_
    refine zk_iastK (pc := 47) (w' := [xM M b_isKept b_size b_at b_from b_sort b_fled b_flights b_firstFlight b_bestHarms b_bestRage b_harmed b_raged, xI cy ((M 1)) 7 b_refused, xI cy ((M 2)) 39 ((upd ((upd b_now 33 x1)) 33 ((b_now 33))))]) 33 (by decide) C hw 2 rfl (by decide) rfl dX8_brave_47 (fun H locs hw => ?_)
    refine lv_iload_n (pc := 48) hx hb dX8_brave_48 rfl (lv_at hl 0 rfl) ?_
    have hf := Option.some.inj hf
    subst hf
    exact zk_reti (pc := 49) (ww := [xM M b_isKept b_size b_at b_from b_sort b_fled b_flights b_firstFlight b_bestHarms b_bestRage b_harmed b_raged, xI cy ((M 1)) 7 b_refused, xI cy ((M 2)) 39 ((upd ((upd b_now 33 x1)) 33 ((b_now 33))))]) C hw hr hQ dX8_brave_49
  · replace hf := if_f q2 hf
    refine lv_aload_n (pc := 12) hx hb dX8_brave_12 rfl (lv_at hl 0 rfl) ?_
    refine lv_bipush (pc := 13) (v := -2) hx hb dX8_brave_13 (by decide) ?_
    obtain ⟨u4, u4e, hf⟩ := bd hf
    refine zk_cV (pc := 15) (ci := 8) (q0 := 0) (rest := []) (st1 := [.int u4.1]) (w' := [xM M b_isKept b_size b_at b_from b_sort b_fled b_flights b_firstFlight b_bestHarms b_bestRage b_harmed b_raged, xI cy ((M 1)) 7 u4.2, xI cy ((M 2)) 39 b_now]) (mk := [none, some (xI cy ((M 1)) 7 u4.2), none]) C hw (c_X8_refuse l G cy tt M b_isKept b_size b_at b_from b_sort b_fled b_flights b_firstFlight b_bestHarms b_bestRage b_harmed b_raged (((-2 : Int32))) b_refused _ u4e) zy_X8_refuse zm_X8_90 rfl rfl rfl [0, 1] rfl rfl rfl rfl rfl rfl rfl rfl hl.1 ⟨rfl, rfl⟩ ⟨Nat.le_of_ble_eq_true rfl, Nat.le_of_ble_eq_true rfl⟩ rfl (Nat.le_of_ble_eq_true rfl) ⟨Nat.zero_le _, Nat.zero_le _⟩ dX8_brave_15 (fun H locs hw => ?_)
    have hf := Option.some.inj hf
    subst hf
    exact zk_reti (pc := 18) (ww := [xM M b_isKept b_size b_at b_from b_sort b_fled b_flights b_firstFlight b_bestHarms b_bestRage b_harmed b_raged, xI cy ((M 1)) 7 u4.2, xI cy ((M 2)) 39 b_now]) C hw hr hQ dX8_brave_18
