def zf_X8_ofKind_46 (b_now : Nat → Int32) (k23 : Int32 → Int32 → Int32 → (Nat → Int32) → Option (Int32 × (Nat → Int32))) (v1 : Int32) (v3 : Int32) (t0 : Bool) (t1 : Int32) (b_refused : Nat → Int32) : Option (Int32 × (Nat → Int32)) := k23 v1 ((t1 + (bI t0))) ((v3 + 1)) b_refused
def zf_X8_ofKind_23 (b_now : Nat → Int32) : Nat → Int32 → Int32 → Int32 → (Nat → Int32) → Option (Int32 × (Nat → Int32))
  | 0, _, _, _, _ => none
  | n + 1, v1, v2, v3, b_refused => (Option.bind (zf_X8_many b_now) (fun u4 => (if u4 ≤ v3 then some (v2, b_refused) else (Option.bind (zf_X8_kind v3 b_now) (fun u6 => (if u6 = v1 then zf_X8_ofKind_46 b_now (zf_X8_ofKind_23 b_now n) v1 v3 true v2 b_refused else zf_X8_ofKind_46 b_now (zf_X8_ofKind_23 b_now n) v1 v3 false v2 b_refused))))))
def zf_X8_ofKind (x1 : Int32) (b_refused : Nat → Int32) (b_now : Nat → Int32) : Option (Int32 × (Nat → Int32)) := (Option.bind (zf_X8_isIn x1.toInt64 (((0 : Int64))) (((5 : Int64)))) (fun u1 => (if u1 then zf_X8_ofKind_23 b_now FU x1 ((0 : Int32)) ((0 : Int32)) b_refused else (Option.bind (zf_X8_refuse (((-2 : Int32))) b_refused) (fun u3 => some (u3.1, u3.2))))))
abbrev zr_X8_ofKind : Room := { frames := 1, cells := 0, slots := 0, locals := 25 }
set_option maxHeartbeats 4000000 in
set_option maxRecDepth 100000 in
theorem c_X8_ofKind (l : Launch) (G : va_G) (cy : Nat → ClassId) (tt : Nat → Nat) (M : Nat → Nat) (b_isKept : Bool) (b_size : Int32) (b_at : Int32) (b_from : Int32) (b_sort : Int32) (b_fled : Bool) (b_flights : Int32) (b_firstFlight : Int32) (b_bestHarms : Int32) (b_bestRage : Int32) (b_harmed : Int64) (b_raged : Int64) (x1 : Int32) (b_refused : Nat → Int32) (b_now : Nat → Int32) (res : Int32 × (Nat → Int32)) (hf : zf_X8_ofKind x1 b_refused b_now = some res) : zCT l yX8_ofKind cX8_ofKind 4 (some .int) zr_X8_ofKind G cy tt [.ref ((M 0)), .int x1] [xM M b_isKept b_size b_at b_from b_sort b_fled b_flights b_firstFlight b_bestHarms b_bestRage b_harmed b_raged, xI cy ((M 1)) 7 b_refused, xI cy ((M 2)) 39 b_now] (some (.int res.1)) [xM M b_isKept b_size b_at b_from b_sort b_fled b_flights b_firstFlight b_bestHarms b_bestRage b_harmed b_raged, xI cy ((M 1)) 7 res.2, xI cy ((M 2)) 39 b_now] := by
  refine zk_start zn_X8 (Nat.le_of_ble_eq_true rfl) ?_
  intro p e s m args below meth c A ls Q C hr hQ hw hl
  have C : zCx p m c s args meth cX8_ofKind 4 RX8 G cy tt A := C
  have hx := C.1.1
  have hb := C.1.2.1
  have hl : lv_has ls 4 [(0, .ref ((M 0))), (1, .int x1)] := hl
  have J46 : ∀ (k23 : Int32 → Int32 → Int32 → (Nat → Int32) → Option (Int32 × (Nat → Int32))) (K23 : ∀ (v1 : Int32) (v2 : Int32) (v3 : Int32) (b_refused : Nat → Int32) (H : Heap) (locs : List Loc) (ls : Array Slot), k23 v1 v2 v3 b_refused = some res → zWd G A s.heap H locs [xM M b_isKept b_size b_at b_from b_sort b_fled b_flights b_firstFlight b_bestHarms b_bestRage b_harmed b_raged, xI cy ((M 1)) 7 b_refused, xI cy ((M 2)) 39 b_now] → lv_has ls 4 [(0, .ref ((M 0))), (1, .int v1), (2, .int v2), (3, .int v3)] → W p l e zr_X8_ofKind s m args below meth c H locs 0 0 Q (F0 m 23 ls [])), ∀ (v1 : Int32) (v3 : Int32) (t0 : Bool) (t1 : Int32) (b_refused : Nat → Int32) (H : Heap) (locs : List Loc) (ls : Array Slot), zf_X8_ofKind_46 b_now k23 v1 v3 t0 t1 b_refused = some res → zWd G A s.heap H locs [xM M b_isKept b_size b_at b_from b_sort b_fled b_flights b_firstFlight b_bestHarms b_bestRage b_harmed b_raged, xI cy ((M 1)) 7 b_refused, xI cy ((M 2)) 39 b_now] → lv_has ls 4 [(0, .ref ((M 0))), (1, .int v1), (3, .int v3)] → W p l e zr_X8_ofKind s m args below meth c H locs 0 0 Q (F0 m 46 ls [.int (bI t0), .int t1]) := by
    intro k23 K23 v1 v3 t0 t1 b_refused H locs ls hf hw hl
    rw [zf_X8_ofKind_46] at hf
    refine lv_iadd (pc := 46) hx hb dX8_ofKind_46 ?_
    refine lv_istore_n (pc := 47) (lv' := [(2, .int ((t1 + (bI t0)))), (0, .ref ((M 0))), (1, .int v1), (3, .int v3)]) hx hb dX8_ofKind_47 rfl hl (by decide) rfl (fun ls hl => ?_)
    refine lv_iinc (pc := 48) (v := (v3 + 1)) (lv' := [(3, .int ((v3 + 1))), (2, .int ((t1 + (bI t0)))), (0, .ref ((M 0))), (1, .int v1)]) hx hb dX8_ofKind_48 hl (k := 3) rfl rfl (by decide) rfl (fun ls hl => ?_)
    refine lv_goto (pc := 51) (tgt := 23) hx hb dX8_ofKind_51 (by decide) ?_
    exact K23 v1 ((t1 + (bI t0))) ((v3 + 1)) b_refused _ _ _ hf hw (lv_sub hl [2, 3, 1, 0] rfl)
  have J23 : ∀ (n : Nat), ∀ (v1 : Int32) (v2 : Int32) (v3 : Int32) (b_refused : Nat → Int32) (H : Heap) (locs : List Loc) (ls : Array Slot), zf_X8_ofKind_23 b_now n v1 v2 v3 b_refused = some res → zWd G A s.heap H locs [xM M b_isKept b_size b_at b_from b_sort b_fled b_flights b_firstFlight b_bestHarms b_bestRage b_harmed b_raged, xI cy ((M 1)) 7 b_refused, xI cy ((M 2)) 39 b_now] → lv_has ls 4 [(0, .ref ((M 0))), (1, .int v1), (2, .int v2), (3, .int v3)] → W p l e zr_X8_ofKind s m args below meth c H locs 0 0 Q (F0 m 23 ls []) := by
    intro n
    induction n with
    | zero =>
      intro v1 v2 v3 b_refused H locs ls hf hw hl
      rw [zf_X8_ofKind_23] at hf
      cases hf
    | succ n ih =>
      intro v1 v2 v3 b_refused H locs ls hf hw hl
      rw [zf_X8_ofKind_23] at hf
      refine lv_iload_n (pc := 23) hx hb dX8_ofKind_23 rfl (lv_at hl 3 rfl) ?_
      refine lv_aload_n (pc := 24) hx hb dX8_ofKind_24 rfl (lv_at hl 0 rfl) ?_
      obtain ⟨u4, u4e, hf⟩ := bd hf
      refine zk_cV (pc := 25) (ci := 8) (q0 := 0) (rest := [.int v3]) (st1 := [.int u4, .int v3]) (w' := [xM M b_isKept b_size b_at b_from b_sort b_fled b_flights b_firstFlight b_bestHarms b_bestRage b_harmed b_raged, xI cy ((M 1)) 7 b_refused, xI cy ((M 2)) 39 b_now]) (mk := [none, none, none]) C hw (c_X8_many l G cy tt M b_isKept b_size b_at b_from b_sort b_fled b_flights b_firstFlight b_bestHarms b_bestRage b_harmed b_raged b_now _ u4e) zy_X8_many zm_X8_80 rfl rfl rfl [0, 2] rfl rfl rfl rfl rfl rfl rfl rfl hl.1 ⟨rfl, rfl⟩ ⟨Nat.le_of_ble_eq_true rfl, Nat.le_of_ble_eq_true rfl⟩ rfl (Nat.le_of_ble_eq_true rfl) ⟨Nat.zero_le _, Nat.zero_le _⟩ dX8_ofKind_25 (fun H locs hw => ?_)
      refine lv_icmp_ge (pc := 28) (tgt := 54) hx hb dX8_ofKind_28 (by decide) (fun q5 => ?_) (fun q5 => ?_)
      · replace hf := if_t q5 hf
        refine lv_iload_n (pc := 54) hx hb dX8_ofKind_54 rfl (lv_at hl 2 rfl) ?_
        have hf := Option.some.inj hf
        subst hf
        exact zk_reti (pc := 55) (ww := [xM M b_isKept b_size b_at b_from b_sort b_fled b_flights b_firstFlight b_bestHarms b_bestRage b_harmed b_raged, xI cy ((M 1)) 7 b_refused, xI cy ((M 2)) 39 b_now]) C hw hr hQ dX8_ofKind_55
      · replace hf := if_f q5 hf
        refine lv_iload_n (pc := 31) hx hb dX8_ofKind_31 rfl (lv_at hl 2 rfl) ?_
        refine lv_aload_n (pc := 32) hx hb dX8_ofKind_32 rfl (lv_at hl 0 rfl) ?_
        refine lv_iload_n (pc := 33) hx hb dX8_ofKind_33 rfl (lv_at hl 3 rfl) ?_
        obtain ⟨u6, u6e, hf⟩ := bd hf
        refine zk_cV (pc := 34) (ci := 8) (q0 := 0) (rest := [.int v2]) (st1 := [.int u6, .int v2]) (w' := [xM M b_isKept b_size b_at b_from b_sort b_fled b_flights b_firstFlight b_bestHarms b_bestRage b_harmed b_raged, xI cy ((M 1)) 7 b_refused, xI cy ((M 2)) 39 b_now]) (mk := [none, none, none]) C hw (c_X8_kind l G cy tt M b_isKept b_size b_at b_from b_sort b_fled b_flights b_firstFlight b_bestHarms b_bestRage b_harmed b_raged v3 b_now _ u6e) zy_X8_kind zm_X8_153 rfl rfl rfl [0, 2] rfl rfl rfl rfl rfl rfl rfl rfl hl.1 ⟨rfl, rfl⟩ ⟨Nat.le_of_ble_eq_true rfl, Nat.le_of_ble_eq_true rfl⟩ rfl (Nat.le_of_ble_eq_true rfl) ⟨Nat.zero_le _, Nat.zero_le _⟩ dX8_ofKind_34 (fun H locs hw => ?_)
        refine lv_iload_n (pc := 37) hx hb dX8_ofKind_37 rfl (lv_at hl 1 rfl) ?_
        refine lv_icmp_ne (pc := 38) (tgt := 45) hx hb dX8_ofKind_38 (by decide) (fun q7 => ?_) (fun q7 => ?_)
        · replace hf := if_f q7 hf
          refine lv_iconst (pc := 45) (v := 0) hx hb dX8_ofKind_45 (by decide) ?_
          exact J46 (zf_X8_ofKind_23 b_now n) ih v1 v3 false v2 b_refused _ _ _ hf hw (lv_sub hl [0, 1, 3] rfl)
        · replace hf := if_t q7 hf
          refine lv_iconst (pc := 41) (v := 1) hx hb dX8_ofKind_41 (by decide) ?_
          refine lv_goto (pc := 42) (tgt := 46) hx hb dX8_ofKind_42 (by decide) ?_
          exact J46 (zf_X8_ofKind_23 b_now n) ih v1 v3 true v2 b_refused _ _ _ hf hw (lv_sub hl [0, 1, 3] rfl)
  rw [zf_X8_ofKind] at hf
  refine lv_iload_n (pc := 0) hx hb dX8_ofKind_0 rfl (lv_at hl 1 rfl) ?_
  refine lv_i2l (pc := 1) (v := x1.toInt64) hx hb dX8_ofKind_1 rfl ?_
  refine lv_lconst (pc := 2) (v := 0) hx hb dX8_ofKind_2 (by decide) ?_
  refine lv_ldc2 (pc := 3) (v := 5) hx hb C.1.2.2.2.1 (C.1.2.2.2.2 _ zc_X8_84) dX8_ofKind_3 ?_
  obtain ⟨u1, u1e, hf⟩ := bd hf
  refine zk_cS (pc := 6) (rest := []) (st1 := [.int (bI u1)]) (w' := [xM M b_isKept b_size b_at b_from b_sort b_fled b_flights b_firstFlight b_bestHarms b_bestRage b_harmed b_raged, xI cy ((M 1)) 7 b_refused, xI cy ((M 2)) 39 b_now]) (mk := [none, none, none]) C hw (c_X8_isIn l G cy tt x1.toInt64 (((0 : Int64))) (((5 : Int64))) _ u1e) zy_X8_isIn zm_X8_68 [] rfl rfl rfl rfl rfl rfl rfl rfl hl.1 ⟨rfl, rfl⟩ ⟨Nat.le_of_ble_eq_true rfl, Nat.le_of_ble_eq_true rfl⟩ rfl (Nat.le_of_ble_eq_true rfl) ⟨Nat.zero_le _, Nat.zero_le _⟩ dX8_ofKind_6 (fun H locs hw => ?_)
  refine zk_ifnz (pc := 9) (tgt := 19) hx hb dX8_ofKind_9 (by decide) (fun q2 => ?_) (fun q2 => ?_)
  · replace hf := if_t q2 hf
    refine lv_iconst (pc := 19) (v := 0) hx hb dX8_ofKind_19 (by decide) ?_
    refine lv_istore_n (pc := 20) (lv' := [(2, .int ((0 : Int32))), (0, .ref ((M 0))), (1, .int x1)]) hx hb dX8_ofKind_20 rfl hl (by decide) rfl (fun ls hl => ?_)
    refine lv_iconst (pc := 21) (v := 0) hx hb dX8_ofKind_21 (by decide) ?_
    refine lv_istore_n (pc := 22) (lv' := [(3, .int ((0 : Int32))), (2, .int ((0 : Int32))), (0, .ref ((M 0))), (1, .int x1)]) hx hb dX8_ofKind_22 rfl hl (by decide) rfl (fun ls hl => ?_)
    exact J23 FU x1 ((0 : Int32)) ((0 : Int32)) b_refused _ _ _ hf hw (lv_sub hl [2, 3, 1, 0] rfl)
  · replace hf := if_f q2 hf
    refine lv_aload_n (pc := 12) hx hb dX8_ofKind_12 rfl (lv_at hl 0 rfl) ?_
    refine lv_bipush (pc := 13) (v := -2) hx hb dX8_ofKind_13 (by decide) ?_
    obtain ⟨u3, u3e, hf⟩ := bd hf
    refine zk_cV (pc := 15) (ci := 8) (q0 := 0) (rest := []) (st1 := [.int u3.1]) (w' := [xM M b_isKept b_size b_at b_from b_sort b_fled b_flights b_firstFlight b_bestHarms b_bestRage b_harmed b_raged, xI cy ((M 1)) 7 u3.2, xI cy ((M 2)) 39 b_now]) (mk := [none, some (xI cy ((M 1)) 7 u3.2), none]) C hw (c_X8_refuse l G cy tt M b_isKept b_size b_at b_from b_sort b_fled b_flights b_firstFlight b_bestHarms b_bestRage b_harmed b_raged (((-2 : Int32))) b_refused _ u3e) zy_X8_refuse zm_X8_90 rfl rfl rfl [0, 1] rfl rfl rfl rfl rfl rfl rfl rfl hl.1 ⟨rfl, rfl⟩ ⟨Nat.le_of_ble_eq_true rfl, Nat.le_of_ble_eq_true rfl⟩ rfl (Nat.le_of_ble_eq_true rfl) ⟨Nat.zero_le _, Nat.zero_le _⟩ dX8_ofKind_15 (fun H locs hw => ?_)
    have hf := Option.some.inj hf
    subst hf
    exact zk_reti (pc := 18) (ww := [xM M b_isKept b_size b_at b_from b_sort b_fled b_flights b_firstFlight b_bestHarms b_bestRage b_harmed b_raged, xI cy ((M 1)) 7 u3.2, xI cy ((M 2)) 39 b_now]) C hw hr hQ dX8_ofKind_18
def zf_X8_order (x1 : Int32) (b_refused : Nat → Int32) (b_now : Nat → Int32) (b_fled : Bool) : Option (Int32 × (Nat → Int32) × (Nat → Int32) × Bool) := (Option.bind (zf_X8_isOrder x1.toInt64 b_now) (fun u1 => (if u1 then (Option.bind (zf_X8_step x1 b_now b_fled) (fun u3 => some ((u3.2.1 33), b_refused, u3.2.1, u3.2.2))) else (Option.bind (zf_X8_refuse (((-2 : Int32))) b_refused) (fun u4 => some (u4.1, u4.2, b_now, b_fled))))))
abbrev zr_X8_order : Room := { frames := 3, cells := 0, slots := 0, locals := 69 }
set_option maxHeartbeats 4000000 in
set_option maxRecDepth 100000 in
theorem c_X8_order (l : Launch) (G : va_G) (cy : Nat → ClassId) (tt : Nat → Nat) (M : Nat → Nat) (b_isKept : Bool) (b_size : Int32) (b_at : Int32) (b_from : Int32) (b_sort : Int32) (b_flights : Int32) (b_firstFlight : Int32) (b_bestHarms : Int32) (b_bestRage : Int32) (b_harmed : Int64) (b_raged : Int64) (x1 : Int32) (b_refused : Nat → Int32) (b_now : Nat → Int32) (b_fled : Bool) (res : Int32 × (Nat → Int32) × (Nat → Int32) × Bool) (hf : zf_X8_order x1 b_refused b_now b_fled = some res) : zCT l yX8_order cX8_order 2 (some .int) zr_X8_order G cy tt [.ref ((M 0)), .int x1] [xM M b_isKept b_size b_at b_from b_sort b_fled b_flights b_firstFlight b_bestHarms b_bestRage b_harmed b_raged, xI cy ((M 1)) 7 b_refused, xI cy ((M 2)) 39 b_now] (some (.int res.1)) [xM M b_isKept b_size b_at b_from b_sort res.2.2.2 b_flights b_firstFlight b_bestHarms b_bestRage b_harmed b_raged, xI cy ((M 1)) 7 res.2.1, xI cy ((M 2)) 39 res.2.2.1] := by
  refine zk_start zn_X8 (Nat.le_of_ble_eq_true rfl) ?_
  intro p e s m args below meth c A ls Q C hr hQ hw hl
  have C : zCx p m c s args meth cX8_order 2 RX8 G cy tt A := C
  have hx := C.1.1
  have hb := C.1.2.1
  have hl : lv_has ls 2 [(0, .ref ((M 0))), (1, .int x1)] := hl
  rw [zf_X8_order] at hf
  refine lv_aload_n (pc := 0) hx hb dX8_order_0 rfl (lv_at hl 0 rfl) ?_
  refine lv_iload_n (pc := 1) hx hb dX8_order_1 rfl (lv_at hl 1 rfl) ?_
  refine lv_i2l (pc := 2) (v := x1.toInt64) hx hb dX8_order_2 rfl ?_
  obtain ⟨u1, u1e, hf⟩ := bd hf
  refine zk_cV (pc := 3) (ci := 8) (q0 := 0) (rest := []) (st1 := [.int (bI u1)]) (w' := [xM M b_isKept b_size b_at b_from b_sort b_fled b_flights b_firstFlight b_bestHarms b_bestRage b_harmed b_raged, xI cy ((M 1)) 7 b_refused, xI cy ((M 2)) 39 b_now]) (mk := [none, none, none]) C hw (c_X8_isOrder l G cy tt M b_isKept b_size b_at b_from b_sort b_fled b_flights b_firstFlight b_bestHarms b_bestRage b_harmed b_raged x1.toInt64 b_now _ u1e) zy_X8_isOrder zm_X8_184 rfl rfl rfl [0, 2] rfl rfl rfl rfl rfl rfl rfl rfl hl.1 ⟨rfl, rfl⟩ ⟨Nat.le_of_ble_eq_true rfl, Nat.le_of_ble_eq_true rfl⟩ rfl (Nat.le_of_ble_eq_true rfl) ⟨Nat.zero_le _, Nat.zero_le _⟩ dX8_order_3 (fun H locs hw => ?_)
  refine zk_ifnz (pc := 6) (tgt := 16) hx hb dX8_order_6 (by decide) (fun q2 => ?_) (fun q2 => ?_)
  · replace hf := if_t q2 hf
    refine lv_aload_n (pc := 16) hx hb dX8_order_16 rfl (lv_at hl 0 rfl) ?_
    refine lv_iload_n (pc := 17) hx hb dX8_order_17 rfl (lv_at hl 1 rfl) ?_
    obtain ⟨u3, u3e, hf⟩ := bd hf
    refine zk_cV (pc := 18) (ci := 8) (q0 := 0) (rest := []) (st1 := [.int u3.1]) (w' := [xM M b_isKept b_size b_at b_from b_sort u3.2.2 b_flights b_firstFlight b_bestHarms b_bestRage b_harmed b_raged, xI cy ((M 1)) 7 b_refused, xI cy ((M 2)) 39 u3.2.1]) (mk := [some (xM M b_isKept b_size b_at b_from b_sort u3.2.2 b_flights b_firstFlight b_bestHarms b_bestRage b_harmed b_raged), none, some (xI cy ((M 2)) 39 u3.2.1)]) C hw (c_X8_step l G cy tt M b_isKept b_size b_at b_from b_sort b_flights b_firstFlight b_bestHarms b_bestRage b_harmed b_raged x1 b_now b_fled _ u3e) zy_X8_step zm_X8_181 rfl rfl rfl [0, 2] rfl rfl rfl rfl rfl rfl rfl rfl hl.1 ⟨rfl, rfl⟩ ⟨Nat.le_of_ble_eq_true rfl, Nat.le_of_ble_eq_true rfl⟩ rfl (Nat.le_of_ble_eq_true rfl) ⟨Nat.zero_le _, Nat.zero_le _⟩ dX8_order_18 (fun H locs hw => ?_)
    refine lv_pop (pc := 21) hx hb dX8_order_21 rfl ?_
    refine lv_aload_n (pc := 22) hx hb dX8_order_22 rfl (lv_at hl 0 rfl) ?_
    refine zk_gt (pc := 23) C hw zl_X8_17 0 rfl rfl dX8_order_23 ?_
    refine lv_bipush (pc := 26) (v := 33) hx hb dX8_order_26 (by decide) ?_
    refine zk_ialdK (pc := 28) 33 (by decide) C hw 2 rfl (by decide) dX8_order_28 ?_
    have hf := Option.some.inj hf
    subst hf
    exact zk_reti (pc := 29) (ww := [xM M b_isKept b_size b_at b_from b_sort u3.2.2 b_flights b_firstFlight b_bestHarms b_bestRage b_harmed b_raged, xI cy ((M 1)) 7 b_refused, xI cy ((M 2)) 39 u3.2.1]) C hw hr hQ dX8_order_29
  · replace hf := if_f q2 hf
    refine lv_aload_n (pc := 9) hx hb dX8_order_9 rfl (lv_at hl 0 rfl) ?_
    refine lv_bipush (pc := 10) (v := -2) hx hb dX8_order_10 (by decide) ?_
    obtain ⟨u4, u4e, hf⟩ := bd hf
    refine zk_cV (pc := 12) (ci := 8) (q0 := 0) (rest := []) (st1 := [.int u4.1]) (w' := [xM M b_isKept b_size b_at b_from b_sort b_fled b_flights b_firstFlight b_bestHarms b_bestRage b_harmed b_raged, xI cy ((M 1)) 7 u4.2, xI cy ((M 2)) 39 b_now]) (mk := [none, some (xI cy ((M 1)) 7 u4.2), none]) C hw (c_X8_refuse l G cy tt M b_isKept b_size b_at b_from b_sort b_fled b_flights b_firstFlight b_bestHarms b_bestRage b_harmed b_raged (((-2 : Int32))) b_refused _ u4e) zy_X8_refuse zm_X8_90 rfl rfl rfl [0, 1] rfl rfl rfl rfl rfl rfl rfl rfl hl.1 ⟨rfl, rfl⟩ ⟨Nat.le_of_ble_eq_true rfl, Nat.le_of_ble_eq_true rfl⟩ rfl (Nat.le_of_ble_eq_true rfl) ⟨Nat.zero_le _, Nat.zero_le _⟩ dX8_order_12 (fun H locs hw => ?_)
    have hf := Option.some.inj hf
    subst hf
    exact zk_reti (pc := 15) (ww := [xM M b_isKept b_size b_at b_from b_sort b_fled b_flights b_firstFlight b_bestHarms b_bestRage b_harmed b_raged, xI cy ((M 1)) 7 u4.2, xI cy ((M 2)) 39 b_now]) C hw hr hQ dX8_order_15
def zf_X8_done (x1 : Int32) (x2 : Int32) (b_refused : Nat → Int32) (b_now : Nat → Int32) (b_fled : Bool) (b_holds : Nat → Int32) (b_sizes : Nat → Int32) (b_elements : Nat → Int64) (b_roster : Nat → Int32) (b_flights : Int32) (b_firstFlight : Int32) : Option (Int32 × (Nat → Int32) × (Nat → Int32) × Bool × (Nat → Int32) × Int32 × Int32) := (Option.bind (zf_X8_load true x1 x2 b_now b_holds b_sizes b_elements b_roster) (fun u1 => (if 0 ≤ u1.1 then (Option.bind (zf_X8_go x2 b_now b_fled u1.2 b_flights b_firstFlight) (fun u3 => some (u3.1, b_refused, u3.2.1, u3.2.2.1, u1.2, u3.2.2.2.1, u3.2.2.2.2))) else (Option.bind (zf_X8_refuse u1.1 b_refused) (fun u4 => some (u4.1, u4.2, b_now, b_fled, u1.2, b_flights, b_firstFlight))))))
abbrev zr_X8_done : Room := { frames := 5, cells := 0, slots := 0, locals := 116 }
set_option maxHeartbeats 4000000 in
set_option maxRecDepth 100000 in
theorem c_X8_done (l : Launch) (G : va_G) (cy : Nat → ClassId) (tt : Nat → Nat) (M : Nat → Nat) (b_isKept : Bool) (b_size : Int32) (b_at : Int32) (b_from : Int32) (b_sort : Int32) (b_bestHarms : Int32) (b_bestRage : Int32) (b_harmed : Int64) (b_raged : Int64) (x1 : Int32) (x2 : Int32) (b_refused : Nat → Int32) (b_now : Nat → Int32) (b_fled : Bool) (b_holds : Nat → Int32) (b_sizes : Nat → Int32) (b_elements : Nat → Int64) (b_roster : Nat → Int32) (b_flights : Int32) (b_firstFlight : Int32) (res : Int32 × (Nat → Int32) × (Nat → Int32) × Bool × (Nat → Int32) × Int32 × Int32) (hf : zf_X8_done x1 x2 b_refused b_now b_fled b_holds b_sizes b_elements b_roster b_flights b_firstFlight = some res) : zCT l yX8_done cX8_done 4 (some .int) zr_X8_done G cy tt [.ref ((M 0)), .int x1, .int x2] [xM M b_isKept b_size b_at b_from b_sort b_fled b_flights b_firstFlight b_bestHarms b_bestRage b_harmed b_raged, xI cy ((M 1)) 7 b_refused, xI cy ((M 2)) 39 b_now, xI cy ((M 7)) 8 b_holds, xI cy ((M 8)) 8 b_sizes, xJ cy ((M 9)) 320 b_elements, xI cy ((M 12)) 40 b_roster] (some (.int res.1)) [xM M b_isKept b_size b_at b_from b_sort res.2.2.2.1 res.2.2.2.2.2.1 res.2.2.2.2.2.2 b_bestHarms b_bestRage b_harmed b_raged, xI cy ((M 1)) 7 res.2.1, xI cy ((M 2)) 39 res.2.2.1, xI cy ((M 7)) 8 b_holds, xI cy ((M 8)) 8 b_sizes, xJ cy ((M 9)) 320 b_elements, xI cy ((M 12)) 40 res.2.2.2.2.1] := by
  refine zk_start zn_X8 (Nat.le_of_ble_eq_true rfl) ?_
  intro p e s m args below meth c A ls Q C hr hQ hw hl
  have C : zCx p m c s args meth cX8_done 4 RX8 G cy tt A := C
  have hx := C.1.1
  have hb := C.1.2.1
  have hl : lv_has ls 4 [(0, .ref ((M 0))), (1, .int x1), (2, .int x2)] := hl
  rw [zf_X8_done] at hf
  refine lv_aload_n (pc := 0) hx hb dX8_done_0 rfl (lv_at hl 0 rfl) ?_
  refine lv_iconst (pc := 1) (v := 1) hx hb dX8_done_1 (by decide) ?_
  refine lv_iload_n (pc := 2) hx hb dX8_done_2 rfl (lv_at hl 1 rfl) ?_
  refine lv_iload_n (pc := 3) hx hb dX8_done_3 rfl (lv_at hl 2 rfl) ?_
  obtain ⟨u1, u1e, hf⟩ := bd hf
  refine zk_cV (pc := 4) (ci := 8) (q0 := 0) (rest := []) (st1 := [.int u1.1]) (w' := [xM M b_isKept b_size b_at b_from b_sort b_fled b_flights b_firstFlight b_bestHarms b_bestRage b_harmed b_raged, xI cy ((M 1)) 7 b_refused, xI cy ((M 2)) 39 b_now, xI cy ((M 7)) 8 b_holds, xI cy ((M 8)) 8 b_sizes, xJ cy ((M 9)) 320 b_elements, xI cy ((M 12)) 40 u1.2]) (mk := [none, none, none, none, none, none, some (xI cy ((M 12)) 40 u1.2)]) C hw (c_X8_load l G cy tt M b_isKept b_size b_at b_from b_sort b_fled b_flights b_firstFlight b_bestHarms b_bestRage b_harmed b_raged true x1 x2 b_now b_holds b_sizes b_elements b_roster _ u1e) zy_X8_load zm_X8_223 rfl rfl rfl [0, 2, 3, 4, 5, 6] rfl rfl rfl rfl rfl rfl rfl rfl hl.1 ⟨rfl, rfl⟩ ⟨Nat.le_of_ble_eq_true rfl, Nat.le_of_ble_eq_true rfl⟩ rfl (Nat.le_of_ble_eq_true rfl) ⟨Nat.zero_le _, Nat.zero_le _⟩ dX8_done_4 (fun H locs hw => ?_)
  refine lv_istore_n (pc := 7) (lv' := [(3, .int u1.1), (0, .ref ((M 0))), (1, .int x1), (2, .int x2)]) hx hb dX8_done_7 rfl hl (by decide) rfl (fun ls hl => ?_)
  refine lv_iload_n (pc := 8) hx hb dX8_done_8 rfl (lv_at hl 0 rfl) ?_
  refine lv_if_ge (pc := 9) (tgt := 20) hx hb dX8_done_9 (by decide) (fun q2 => ?_) (fun q2 => ?_)
  · replace hf := if_t q2 hf
    refine lv_aload_n (pc := 20) hx hb dX8_done_20 rfl (lv_at hl 1 rfl) ?_
    refine lv_iload_n (pc := 21) hx hb dX8_done_21 rfl (lv_at hl 3 rfl) ?_
    obtain ⟨u3, u3e, hf⟩ := bd hf
    refine zk_cV (pc := 22) (ci := 8) (q0 := 0) (rest := []) (st1 := [.int u3.1]) (w' := [xM M b_isKept b_size b_at b_from b_sort u3.2.2.1 u3.2.2.2.1 u3.2.2.2.2 b_bestHarms b_bestRage b_harmed b_raged, xI cy ((M 1)) 7 b_refused, xI cy ((M 2)) 39 u3.2.1, xI cy ((M 7)) 8 b_holds, xI cy ((M 8)) 8 b_sizes, xJ cy ((M 9)) 320 b_elements, xI cy ((M 12)) 40 u1.2]) (mk := [some (xM M b_isKept b_size b_at b_from b_sort u3.2.2.1 u3.2.2.2.1 u3.2.2.2.2 b_bestHarms b_bestRage b_harmed b_raged), none, some (xI cy ((M 2)) 39 u3.2.1), none, none, none, none]) C hw (c_X8_go l G cy tt M b_isKept b_size b_at b_from b_sort b_bestHarms b_bestRage b_harmed b_raged x2 b_now b_fled u1.2 b_flights b_firstFlight _ u3e) zy_X8_go zm_X8_226 rfl rfl rfl [0, 2, 6] rfl rfl rfl rfl rfl rfl rfl rfl hl.1 ⟨rfl, rfl⟩ ⟨Nat.le_of_ble_eq_true rfl, Nat.le_of_ble_eq_true rfl⟩ rfl (Nat.le_of_ble_eq_true rfl) ⟨Nat.zero_le _, Nat.zero_le _⟩ dX8_done_22 (fun H locs hw => ?_)
    have hf := Option.some.inj hf
    subst hf
    exact zk_reti (pc := 25) (ww := [xM M b_isKept b_size b_at b_from b_sort u3.2.2.1 u3.2.2.2.1 u3.2.2.2.2 b_bestHarms b_bestRage b_harmed b_raged, xI cy ((M 1)) 7 b_refused, xI cy ((M 2)) 39 u3.2.1, xI cy ((M 7)) 8 b_holds, xI cy ((M 8)) 8 b_sizes, xJ cy ((M 9)) 320 b_elements, xI cy ((M 12)) 40 u1.2]) C hw hr hQ dX8_done_25
  · replace hf := if_f q2 hf
    refine lv_aload_n (pc := 12) hx hb dX8_done_12 rfl (lv_at hl 1 rfl) ?_
    refine lv_iload_n (pc := 13) hx hb dX8_done_13 rfl (lv_at hl 0 rfl) ?_
    obtain ⟨u4, u4e, hf⟩ := bd hf
    refine zk_cV (pc := 14) (ci := 8) (q0 := 0) (rest := []) (st1 := [.int u4.1]) (w' := [xM M b_isKept b_size b_at b_from b_sort b_fled b_flights b_firstFlight b_bestHarms b_bestRage b_harmed b_raged, xI cy ((M 1)) 7 u4.2, xI cy ((M 2)) 39 b_now, xI cy ((M 7)) 8 b_holds, xI cy ((M 8)) 8 b_sizes, xJ cy ((M 9)) 320 b_elements, xI cy ((M 12)) 40 u1.2]) (mk := [none, some (xI cy ((M 1)) 7 u4.2), none, none, none, none, none]) C hw (c_X8_refuse l G cy tt M b_isKept b_size b_at b_from b_sort b_fled b_flights b_firstFlight b_bestHarms b_bestRage b_harmed b_raged u1.1 b_refused _ u4e) zy_X8_refuse zm_X8_90 rfl rfl rfl [0, 1] rfl rfl rfl rfl rfl rfl rfl rfl hl.1 ⟨rfl, rfl⟩ ⟨Nat.le_of_ble_eq_true rfl, Nat.le_of_ble_eq_true rfl⟩ rfl (Nat.le_of_ble_eq_true rfl) ⟨Nat.zero_le _, Nat.zero_le _⟩ dX8_done_14 (fun H locs hw => ?_)
    refine lv_goto (pc := 17) (tgt := 25) hx hb dX8_done_17 (by decide) ?_
    have hf := Option.some.inj hf
    subst hf
    exact zk_reti (pc := 25) (ww := [xM M b_isKept b_size b_at b_from b_sort b_fled b_flights b_firstFlight b_bestHarms b_bestRage b_harmed b_raged, xI cy ((M 1)) 7 u4.2, xI cy ((M 2)) 39 b_now, xI cy ((M 7)) 8 b_holds, xI cy ((M 8)) 8 b_sizes, xJ cy ((M 9)) 320 b_elements, xI cy ((M 12)) 40 u1.2]) C hw hr hQ dX8_done_25
def zf_X8_draw (x1 : Int32) (b_now : Nat → Int32) : Option (Int32 × (Nat → Int32)) := (if x1 = 0 then none else some (((((((upd b_now 38 ((((b_now 38) * (1103515245 : Int32)) + (12345 : Int32))))) 38)).toUInt32 >>> (((16 : Int32)).toUInt32 &&& Int32.toUInt32 31)).toInt32 - (((((upd b_now 38 ((((b_now 38) * (1103515245 : Int32)) + (12345 : Int32))))) 38)).toUInt32 >>> (((16 : Int32)).toUInt32 &&& Int32.toUInt32 31)).toInt32 / x1 * x1), (upd b_now 38 ((((b_now 38) * (1103515245 : Int32)) + (12345 : Int32))))))
abbrev zr_X8_draw : Room := { frames := 0, cells := 0, slots := 0, locals := 0 }
set_option maxHeartbeats 4000000 in
set_option maxRecDepth 100000 in
theorem c_X8_draw (l : Launch) (G : va_G) (cy : Nat → ClassId) (tt : Nat → Nat) (M : Nat → Nat) (b_isKept : Bool) (b_size : Int32) (b_at : Int32) (b_from : Int32) (b_sort : Int32) (b_fled : Bool) (b_flights : Int32) (b_firstFlight : Int32) (b_bestHarms : Int32) (b_bestRage : Int32) (b_harmed : Int64) (b_raged : Int64) (x1 : Int32) (b_now : Nat → Int32) (res : Int32 × (Nat → Int32)) (hf : zf_X8_draw x1 b_now = some res) : zCT l yX8_draw cX8_draw 2 (some .int) zr_X8_draw G cy tt [.ref ((M 0)), .int x1] [xM M b_isKept b_size b_at b_from b_sort b_fled b_flights b_firstFlight b_bestHarms b_bestRage b_harmed b_raged, xI cy ((M 2)) 39 b_now] (some (.int res.1)) [xM M b_isKept b_size b_at b_from b_sort b_fled b_flights b_firstFlight b_bestHarms b_bestRage b_harmed b_raged, xI cy ((M 2)) 39 res.2] := by
  refine zk_start zn_X8 (Nat.le_of_ble_eq_true rfl) ?_
  intro p e s m args below meth c A ls Q C hr hQ hw hl
  have C : zCx p m c s args meth cX8_draw 2 RX8 G cy tt A := C
  have hx := C.1.1
  have hb := C.1.2.1
  have hl : lv_has ls 2 [(0, .ref ((M 0))), (1, .int x1)] := hl
  rw [zf_X8_draw] at hf
  refine lv_aload_n (pc := 0) hx hb dX8_draw_0 rfl (lv_at hl 0 rfl) ?_
  refine zk_gt (pc := 1) C hw zl_X8_17 0 rfl rfl dX8_draw_1 ?_
  refine lv_bipush (pc := 4) (v := 38) hx hb dX8_draw_4 (by decide) ?_
  refine lv_aload_n (pc := 6) hx hb dX8_draw_6 rfl (lv_at hl 0 rfl) ?_
  refine zk_gt (pc := 7) C hw zl_X8_17 0 rfl rfl dX8_draw_7 ?_
  refine lv_bipush (pc := 10) (v := 38) hx hb dX8_draw_10 (by decide) ?_
  refine zk_ialdK (pc := 12) 38 (by decide) C hw 1 rfl (by decide) dX8_draw_12 ?_
  refine lv_ldcw (pc := 13) (v := 1103515245) hx hb C.1.2.2.2.1 (C.1.2.2.2.2 _ zc_X8_291) dX8_draw_13 ?_
  refine lv_imul (pc := 16) hx hb dX8_draw_16 ?_
  refine lv_sipush (pc := 17) (v := 12345) hx hb dX8_draw_17 (by decide) ?_
  refine lv_iadd (pc := 20) hx hb dX8_draw_20 ?_
  refine zk_iastK (pc := 21) (w' := [xM M b_isKept b_size b_at b_from b_sort b_fled b_flights b_firstFlight b_bestHarms b_bestRage b_harmed b_raged, xI cy ((M 2)) 39 ((upd b_now 38 ((((b_now 38) * (1103515245 : Int32)) + (12345 : Int32)))))]) 38 (by decide) C hw 1 rfl (by decide) rfl dX8_draw_21 (fun H locs hw => ?_)
  refine lv_aload_n (pc := 22) hx hb dX8_draw_22 rfl (lv_at hl 0 rfl) ?_
  refine zk_gt (pc := 23) C hw zl_X8_17 0 rfl rfl dX8_draw_23 ?_
  refine lv_bipush (pc := 26) (v := 38) hx hb dX8_draw_26 (by decide) ?_
  refine zk_ialdK (pc := 28) 38 (by decide) C hw 1 rfl (by decide) dX8_draw_28 ?_
  refine lv_bipush (pc := 29) (v := 16) hx hb dX8_draw_29 (by decide) ?_
  refine lv_iushr (pc := 31) (v := (((((upd b_now 38 ((((b_now 38) * (1103515245 : Int32)) + (12345 : Int32))))) 38)).toUInt32 >>> (((16 : Int32)).toUInt32 &&& Int32.toUInt32 31)).toInt32) hx hb dX8_draw_31 rfl ?_
  refine lv_iload_n (pc := 32) hx hb dX8_draw_32 rfl (lv_at hl 1 rfl) ?_
  obtain ⟨q1, hf⟩ := ck0 hf
  refine lv_irem (pc := 33) hx hb dX8_draw_33 q1 ?_
  have hf := Option.some.inj hf
  subst hf
  exact zk_reti (pc := 34) (ww := [xM M b_isKept b_size b_at b_from b_sort b_fled b_flights b_firstFlight b_bestHarms b_bestRage b_harmed b_raged, xI cy ((M 2)) 39 ((upd b_now 38 ((((b_now 38) * (1103515245 : Int32)) + (12345 : Int32)))))]) C hw hr hQ dX8_draw_34
def zf_X8_drawn_71 (k23 : Int32 → Int32 → Int32 → (Nat → Int32) → (Nat → Int32) → Bool → Option (Int32 × (Nat → Int32) × (Nat → Int32) × Bool)) (v1 : Int32) (v3 : Int32) (t0 : Int32) (t2 : Int32) (b_refused : Nat → Int32) (b_now : Nat → Int32) (b_fled : Bool) : Option (Int32 × (Nat → Int32) × (Nat → Int32) × Bool) := (Option.bind (zf_X8_step t0 b_now b_fled) (fun u11 => k23 v1 ((t2 + u11.1)) ((v3 + 1)) b_refused u11.2.1 u11.2.2))
def zf_X8_drawn_23 : Nat → Int32 → Int32 → Int32 → (Nat → Int32) → (Nat → Int32) → Bool → Option (Int32 × (Nat → Int32) × (Nat → Int32) × Bool)
  | 0, _, _, _, _, _, _ => none
  | n + 1, v1, v2, v3, b_refused, b_now, b_fled => (if v1 ≤ v3 then some (v2, b_refused, b_now, b_fled) else (Option.bind (zf_X8_many b_now) (fun u5 => (Option.bind (zf_X8_draw (((u5 + (2 : Int32)))) b_now) (fun u6 => (Option.bind (zf_X8_many u6.2) (fun u7 => (if u7 ≤ u6.1 then (Option.bind (zf_X8_many u6.2) (fun u9 => (if u6.1 = u9 then zf_X8_drawn_71 (zf_X8_drawn_23 n) v1 v3 ((-1 : Int32)) v2 b_refused u6.2 b_fled else zf_X8_drawn_71 (zf_X8_drawn_23 n) v1 v3 ((10 : Int32)) v2 b_refused u6.2 b_fled))) else zf_X8_drawn_71 (zf_X8_drawn_23 n) v1 v3 u6.1 v2 b_refused u6.2 b_fled))))))))
def zf_X8_drawn (x1 : Int32) (b_refused : Nat → Int32) (b_now : Nat → Int32) (b_fled : Bool) : Option (Int32 × (Nat → Int32) × (Nat → Int32) × Bool) := (Option.bind (zf_X8_isIn x1.toInt64 (((1 : Int64))) (((60 : Int64)))) (fun u1 => (if u1 then zf_X8_drawn_23 FU x1 ((0 : Int32)) ((0 : Int32)) b_refused b_now b_fled else (Option.bind (zf_X8_refuse (((-2 : Int32))) b_refused) (fun u3 => some (u3.1, u3.2, b_now, b_fled))))))
abbrev zr_X8_drawn : Room := { frames := 3, cells := 0, slots := 0, locals := 65 }
set_option maxHeartbeats 4000000 in
set_option maxRecDepth 100000 in
theorem c_X8_drawn (l : Launch) (G : va_G) (cy : Nat → ClassId) (tt : Nat → Nat) (M : Nat → Nat) (b_isKept : Bool) (b_size : Int32) (b_at : Int32) (b_from : Int32) (b_sort : Int32) (b_flights : Int32) (b_firstFlight : Int32) (b_bestHarms : Int32) (b_bestRage : Int32) (b_harmed : Int64) (b_raged : Int64) (x1 : Int32) (b_refused : Nat → Int32) (b_now : Nat → Int32) (b_fled : Bool) (res : Int32 × (Nat → Int32) × (Nat → Int32) × Bool) (hf : zf_X8_drawn x1 b_refused b_now b_fled = some res) : zCT l yX8_drawn cX8_drawn 5 (some .int) zr_X8_drawn G cy tt [.ref ((M 0)), .int x1] [xM M b_isKept b_size b_at b_from b_sort b_fled b_flights b_firstFlight b_bestHarms b_bestRage b_harmed b_raged, xI cy ((M 1)) 7 b_refused, xI cy ((M 2)) 39 b_now] (some (.int res.1)) [xM M b_isKept b_size b_at b_from b_sort res.2.2.2 b_flights b_firstFlight b_bestHarms b_bestRage b_harmed b_raged, xI cy ((M 1)) 7 res.2.1, xI cy ((M 2)) 39 res.2.2.1] := by
  refine zk_start zn_X8 (Nat.le_of_ble_eq_true rfl) ?_
  intro p e s m args below meth c A ls Q C hr hQ hw hl
  have C : zCx p m c s args meth cX8_drawn 5 RX8 G cy tt A := C
  have hx := C.1.1
  have hb := C.1.2.1
  have hl : lv_has ls 5 [(0, .ref ((M 0))), (1, .int x1)] := hl
  have J71 : ∀ (k23 : Int32 → Int32 → Int32 → (Nat → Int32) → (Nat → Int32) → Bool → Option (Int32 × (Nat → Int32) × (Nat → Int32) × Bool)) (K23 : ∀ (v1 : Int32) (v2 : Int32) (v3 : Int32) (b_refused : Nat → Int32) (b_now : Nat → Int32) (b_fled : Bool) (H : Heap) (locs : List Loc) (ls : Array Slot), k23 v1 v2 v3 b_refused b_now b_fled = some res → zWd G A s.heap H locs [xM M b_isKept b_size b_at b_from b_sort b_fled b_flights b_firstFlight b_bestHarms b_bestRage b_harmed b_raged, xI cy ((M 1)) 7 b_refused, xI cy ((M 2)) 39 b_now] → lv_has ls 5 [(0, .ref ((M 0))), (1, .int v1), (2, .int v2), (3, .int v3)] → W p l e zr_X8_drawn s m args below meth c H locs 0 0 Q (F0 m 23 ls [])), ∀ (v1 : Int32) (v3 : Int32) (t0 : Int32) (t2 : Int32) (b_refused : Nat → Int32) (b_now : Nat → Int32) (b_fled : Bool) (H : Heap) (locs : List Loc) (ls : Array Slot), zf_X8_drawn_71 k23 v1 v3 t0 t2 b_refused b_now b_fled = some res → zWd G A s.heap H locs [xM M b_isKept b_size b_at b_from b_sort b_fled b_flights b_firstFlight b_bestHarms b_bestRage b_harmed b_raged, xI cy ((M 1)) 7 b_refused, xI cy ((M 2)) 39 b_now] → lv_has ls 5 [(0, .ref ((M 0))), (1, .int v1), (3, .int v3)] → W p l e zr_X8_drawn s m args below meth c H locs 0 0 Q (F0 m 71 ls [.int t0, .ref ((M 0)), .int t2]) := by
    intro k23 K23 v1 v3 t0 t2 b_refused b_now b_fled H locs ls hf hw hl
    rw [zf_X8_drawn_71] at hf
    obtain ⟨u11, u11e, hf⟩ := bd hf
    refine zk_cV (pc := 71) (ci := 8) (q0 := 0) (rest := [.int t2]) (st1 := [.int u11.1, .int t2]) (w' := [xM M b_isKept b_size b_at b_from b_sort u11.2.2 b_flights b_firstFlight b_bestHarms b_bestRage b_harmed b_raged, xI cy ((M 1)) 7 b_refused, xI cy ((M 2)) 39 u11.2.1]) (mk := [some (xM M b_isKept b_size b_at b_from b_sort u11.2.2 b_flights b_firstFlight b_bestHarms b_bestRage b_harmed b_raged), none, some (xI cy ((M 2)) 39 u11.2.1)]) C hw (c_X8_step l G cy tt M b_isKept b_size b_at b_from b_sort b_flights b_firstFlight b_bestHarms b_bestRage b_harmed b_raged t0 b_now b_fled _ u11e) zy_X8_step zm_X8_181 rfl rfl rfl [0, 2] rfl rfl rfl rfl rfl rfl rfl rfl hl.1 ⟨rfl, rfl⟩ ⟨Nat.le_of_ble_eq_true rfl, Nat.le_of_ble_eq_true rfl⟩ rfl (Nat.le_of_ble_eq_true rfl) ⟨Nat.zero_le _, Nat.zero_le _⟩ dX8_drawn_71 (fun H locs hw => ?_)
    refine lv_iadd (pc := 74) hx hb dX8_drawn_74 ?_
    refine lv_istore_n (pc := 75) (lv' := [(2, .int ((t2 + u11.1))), (0, .ref ((M 0))), (1, .int v1), (3, .int v3)]) hx hb dX8_drawn_75 rfl hl (by decide) rfl (fun ls hl => ?_)
    refine lv_iinc (pc := 76) (v := (v3 + 1)) (lv' := [(3, .int ((v3 + 1))), (2, .int ((t2 + u11.1))), (0, .ref ((M 0))), (1, .int v1)]) hx hb dX8_drawn_76 hl (k := 3) rfl rfl (by decide) rfl (fun ls hl => ?_)
    refine lv_goto (pc := 79) (tgt := 23) hx hb dX8_drawn_79 (by decide) ?_
    exact K23 v1 ((t2 + u11.1)) ((v3 + 1)) b_refused u11.2.1 u11.2.2 _ _ _ hf hw (lv_sub hl [2, 3, 1, 0] rfl)
  have J23 : ∀ (n : Nat), ∀ (v1 : Int32) (v2 : Int32) (v3 : Int32) (b_refused : Nat → Int32) (b_now : Nat → Int32) (b_fled : Bool) (H : Heap) (locs : List Loc) (ls : Array Slot), zf_X8_drawn_23 n v1 v2 v3 b_refused b_now b_fled = some res → zWd G A s.heap H locs [xM M b_isKept b_size b_at b_from b_sort b_fled b_flights b_firstFlight b_bestHarms b_bestRage b_harmed b_raged, xI cy ((M 1)) 7 b_refused, xI cy ((M 2)) 39 b_now] → lv_has ls 5 [(0, .ref ((M 0))), (1, .int v1), (2, .int v2), (3, .int v3)] → W p l e zr_X8_drawn s m args below meth c H locs 0 0 Q (F0 m 23 ls []) := by
    intro n
    induction n with
    | zero =>
      intro v1 v2 v3 b_refused b_now b_fled H locs ls hf hw hl
      rw [zf_X8_drawn_23] at hf
      cases hf
    | succ n ih =>
      intro v1 v2 v3 b_refused b_now b_fled H locs ls hf hw hl
      rw [zf_X8_drawn_23] at hf
      refine lv_iload_n (pc := 23) hx hb dX8_drawn_23 rfl (lv_at hl 3 rfl) ?_
      refine lv_iload_n (pc := 24) hx hb dX8_drawn_24 rfl (lv_at hl 1 rfl) ?_
      refine lv_icmp_ge (pc := 25) (tgt := 82) hx hb dX8_drawn_25 (by decide) (fun q4 => ?_) (fun q4 => ?_)
      · replace hf := if_t q4 hf
        refine lv_iload_n (pc := 82) hx hb dX8_drawn_82 rfl (lv_at hl 2 rfl) ?_
        have hf := Option.some.inj hf
        subst hf
        exact zk_reti (pc := 83) (ww := [xM M b_isKept b_size b_at b_from b_sort b_fled b_flights b_firstFlight b_bestHarms b_bestRage b_harmed b_raged, xI cy ((M 1)) 7 b_refused, xI cy ((M 2)) 39 b_now]) C hw hr hQ dX8_drawn_83
      · replace hf := if_f q4 hf
        refine lv_aload_n (pc := 28) hx hb dX8_drawn_28 rfl (lv_at hl 0 rfl) ?_
        refine lv_aload_n (pc := 29) hx hb dX8_drawn_29 rfl (lv_at hl 0 rfl) ?_
        obtain ⟨u5, u5e, hf⟩ := bd hf
        refine zk_cV (pc := 30) (ci := 8) (q0 := 0) (rest := [.ref ((M 0))]) (st1 := [.int u5, .ref ((M 0))]) (w' := [xM M b_isKept b_size b_at b_from b_sort b_fled b_flights b_firstFlight b_bestHarms b_bestRage b_harmed b_raged, xI cy ((M 1)) 7 b_refused, xI cy ((M 2)) 39 b_now]) (mk := [none, none, none]) C hw (c_X8_many l G cy tt M b_isKept b_size b_at b_from b_sort b_fled b_flights b_firstFlight b_bestHarms b_bestRage b_harmed b_raged b_now _ u5e) zy_X8_many zm_X8_80 rfl rfl rfl [0, 2] rfl rfl rfl rfl rfl rfl rfl rfl hl.1 ⟨rfl, rfl⟩ ⟨Nat.le_of_ble_eq_true rfl, Nat.le_of_ble_eq_true rfl⟩ rfl (Nat.le_of_ble_eq_true rfl) ⟨Nat.zero_le _, Nat.zero_le _⟩ dX8_drawn_30 (fun H locs hw => ?_)
        refine lv_iconst (pc := 33) (v := 2) hx hb dX8_drawn_33 (by decide) ?_
        refine lv_iadd (pc := 34) hx hb dX8_drawn_34 ?_
        obtain ⟨u6, u6e, hf⟩ := bd hf
        refine zk_cV (pc := 35) (ci := 8) (q0 := 0) (rest := []) (st1 := [.int u6.1]) (w' := [xM M b_isKept b_size b_at b_from b_sort b_fled b_flights b_firstFlight b_bestHarms b_bestRage b_harmed b_raged, xI cy ((M 1)) 7 b_refused, xI cy ((M 2)) 39 u6.2]) (mk := [none, none, some (xI cy ((M 2)) 39 u6.2)]) C hw (c_X8_draw l G cy tt M b_isKept b_size b_at b_from b_sort b_fled b_flights b_firstFlight b_bestHarms b_bestRage b_harmed b_raged (((u5 + (2 : Int32)))) b_now _ u6e) zy_X8_draw zm_X8_294 rfl rfl rfl [0, 2] rfl rfl rfl rfl rfl rfl rfl rfl hl.1 ⟨rfl, rfl⟩ ⟨Nat.le_of_ble_eq_true rfl, Nat.le_of_ble_eq_true rfl⟩ rfl (Nat.le_of_ble_eq_true rfl) ⟨Nat.zero_le _, Nat.zero_le _⟩ dX8_drawn_35 (fun H locs hw => ?_)
        refine lv_istore (pc := 38) (lv' := [(4, .int u6.1), (0, .ref ((M 0))), (1, .int v1), (2, .int v2), (3, .int v3)]) hx hb dX8_drawn_38 hl (by decide) rfl (fun ls hl => ?_)
        refine lv_iload_n (pc := 40) hx hb dX8_drawn_40 rfl (lv_at hl 3 rfl) ?_
        refine lv_aload_n (pc := 41) hx hb dX8_drawn_41 rfl (lv_at hl 1 rfl) ?_
        refine lv_iload (pc := 42) hx hb dX8_drawn_42 (lv_at hl 0 rfl) ?_
        refine lv_aload_n (pc := 44) hx hb dX8_drawn_44 rfl (lv_at hl 1 rfl) ?_
        obtain ⟨u7, u7e, hf⟩ := bd hf
        refine zk_cV (pc := 45) (ci := 8) (q0 := 0) (rest := [.int u6.1, .ref ((M 0)), .int v2]) (st1 := [.int u7, .int u6.1, .ref ((M 0)), .int v2]) (w' := [xM M b_isKept b_size b_at b_from b_sort b_fled b_flights b_firstFlight b_bestHarms b_bestRage b_harmed b_raged, xI cy ((M 1)) 7 b_refused, xI cy ((M 2)) 39 u6.2]) (mk := [none, none, none]) C hw (c_X8_many l G cy tt M b_isKept b_size b_at b_from b_sort b_fled b_flights b_firstFlight b_bestHarms b_bestRage b_harmed b_raged u6.2 _ u7e) zy_X8_many zm_X8_80 rfl rfl rfl [0, 2] rfl rfl rfl rfl rfl rfl rfl rfl hl.1 ⟨rfl, rfl⟩ ⟨Nat.le_of_ble_eq_true rfl, Nat.le_of_ble_eq_true rfl⟩ rfl (Nat.le_of_ble_eq_true rfl) ⟨Nat.zero_le _, Nat.zero_le _⟩ dX8_drawn_45 (fun H locs hw => ?_)
        refine lv_icmp_ge (pc := 48) (tgt := 56) hx hb dX8_drawn_48 (by decide) (fun q8 => ?_) (fun q8 => ?_)
        · replace hf := if_t q8 hf
          refine lv_iload (pc := 56) hx hb dX8_drawn_56 (lv_at hl 0 rfl) ?_
          refine lv_aload_n (pc := 58) hx hb dX8_drawn_58 rfl (lv_at hl 1 rfl) ?_
          obtain ⟨u9, u9e, hf⟩ := bd hf
          refine zk_cV (pc := 59) (ci := 8) (q0 := 0) (rest := [.int u6.1, .ref ((M 0)), .int v2]) (st1 := [.int u9, .int u6.1, .ref ((M 0)), .int v2]) (w' := [xM M b_isKept b_size b_at b_from b_sort b_fled b_flights b_firstFlight b_bestHarms b_bestRage b_harmed b_raged, xI cy ((M 1)) 7 b_refused, xI cy ((M 2)) 39 u6.2]) (mk := [none, none, none]) C hw (c_X8_many l G cy tt M b_isKept b_size b_at b_from b_sort b_fled b_flights b_firstFlight b_bestHarms b_bestRage b_harmed b_raged u6.2 _ u9e) zy_X8_many zm_X8_80 rfl rfl rfl [0, 2] rfl rfl rfl rfl rfl rfl rfl rfl hl.1 ⟨rfl, rfl⟩ ⟨Nat.le_of_ble_eq_true rfl, Nat.le_of_ble_eq_true rfl⟩ rfl (Nat.le_of_ble_eq_true rfl) ⟨Nat.zero_le _, Nat.zero_le _⟩ dX8_drawn_59 (fun H locs hw => ?_)
          refine lv_icmp_ne (pc := 62) (tgt := 69) hx hb dX8_drawn_62 (by decide) (fun q10 => ?_) (fun q10 => ?_)
          · replace hf := if_f q10 hf
            refine lv_bipush (pc := 69) (v := 10) hx hb dX8_drawn_69 (by decide) ?_
            exact J71 (zf_X8_drawn_23 n) ih v1 v3 ((10 : Int32)) v2 b_refused u6.2 b_fled _ _ _ hf hw (lv_sub hl [1, 2, 4] rfl)
          · replace hf := if_t q10 hf
            refine lv_iconst (pc := 65) (v := -1) hx hb dX8_drawn_65 (by decide) ?_
            refine lv_goto (pc := 66) (tgt := 71) hx hb dX8_drawn_66 (by decide) ?_
            exact J71 (zf_X8_drawn_23 n) ih v1 v3 ((-1 : Int32)) v2 b_refused u6.2 b_fled _ _ _ hf hw (lv_sub hl [1, 2, 4] rfl)
        · replace hf := if_f q8 hf
          refine lv_iload (pc := 51) hx hb dX8_drawn_51 (lv_at hl 0 rfl) ?_
          refine lv_goto (pc := 53) (tgt := 71) hx hb dX8_drawn_53 (by decide) ?_
          exact J71 (zf_X8_drawn_23 n) ih v1 v3 u6.1 v2 b_refused u6.2 b_fled _ _ _ hf hw (lv_sub hl [1, 2, 4] rfl)
  rw [zf_X8_drawn] at hf
  refine lv_iload_n (pc := 0) hx hb dX8_drawn_0 rfl (lv_at hl 1 rfl) ?_
  refine lv_i2l (pc := 1) (v := x1.toInt64) hx hb dX8_drawn_1 rfl ?_
  refine lv_lconst (pc := 2) (v := 1) hx hb dX8_drawn_2 (by decide) ?_
  refine lv_ldc2 (pc := 3) (v := 60) hx hb C.1.2.2.2.1 (C.1.2.2.2.2 _ zc_X8_292) dX8_drawn_3 ?_
  obtain ⟨u1, u1e, hf⟩ := bd hf
  refine zk_cS (pc := 6) (rest := []) (st1 := [.int (bI u1)]) (w' := [xM M b_isKept b_size b_at b_from b_sort b_fled b_flights b_firstFlight b_bestHarms b_bestRage b_harmed b_raged, xI cy ((M 1)) 7 b_refused, xI cy ((M 2)) 39 b_now]) (mk := [none, none, none]) C hw (c_X8_isIn l G cy tt x1.toInt64 (((1 : Int64))) (((60 : Int64))) _ u1e) zy_X8_isIn zm_X8_68 [] rfl rfl rfl rfl rfl rfl rfl rfl hl.1 ⟨rfl, rfl⟩ ⟨Nat.le_of_ble_eq_true rfl, Nat.le_of_ble_eq_true rfl⟩ rfl (Nat.le_of_ble_eq_true rfl) ⟨Nat.zero_le _, Nat.zero_le _⟩ dX8_drawn_6 (fun H locs hw => ?_)
  refine zk_ifnz (pc := 9) (tgt := 19) hx hb dX8_drawn_9 (by decide) (fun q2 => ?_) (fun q2 => ?_)
  · replace hf := if_t q2 hf
    refine lv_iconst (pc := 19) (v := 0) hx hb dX8_drawn_19 (by decide) ?_
    refine lv_istore_n (pc := 20) (lv' := [(2, .int ((0 : Int32))), (0, .ref ((M 0))), (1, .int x1)]) hx hb dX8_drawn_20 rfl hl (by decide) rfl (fun ls hl => ?_)
    refine lv_iconst (pc := 21) (v := 0) hx hb dX8_drawn_21 (by decide) ?_
    refine lv_istore_n (pc := 22) (lv' := [(3, .int ((0 : Int32))), (2, .int ((0 : Int32))), (0, .ref ((M 0))), (1, .int x1)]) hx hb dX8_drawn_22 rfl hl (by decide) rfl (fun ls hl => ?_)
    exact J23 FU x1 ((0 : Int32)) ((0 : Int32)) b_refused b_now b_fled _ _ _ hf hw (lv_sub hl [2, 3, 1, 0] rfl)
  · replace hf := if_f q2 hf
    refine lv_aload_n (pc := 12) hx hb dX8_drawn_12 rfl (lv_at hl 0 rfl) ?_
    refine lv_bipush (pc := 13) (v := -2) hx hb dX8_drawn_13 (by decide) ?_
    obtain ⟨u3, u3e, hf⟩ := bd hf
    refine zk_cV (pc := 15) (ci := 8) (q0 := 0) (rest := []) (st1 := [.int u3.1]) (w' := [xM M b_isKept b_size b_at b_from b_sort b_fled b_flights b_firstFlight b_bestHarms b_bestRage b_harmed b_raged, xI cy ((M 1)) 7 u3.2, xI cy ((M 2)) 39 b_now]) (mk := [none, some (xI cy ((M 1)) 7 u3.2), none]) C hw (c_X8_refuse l G cy tt M b_isKept b_size b_at b_from b_sort b_fled b_flights b_firstFlight b_bestHarms b_bestRage b_harmed b_raged (((-2 : Int32))) b_refused _ u3e) zy_X8_refuse zm_X8_90 rfl rfl rfl [0, 1] rfl rfl rfl rfl rfl rfl rfl rfl hl.1 ⟨rfl, rfl⟩ ⟨Nat.le_of_ble_eq_true rfl, Nat.le_of_ble_eq_true rfl⟩ rfl (Nat.le_of_ble_eq_true rfl) ⟨Nat.zero_le _, Nat.zero_le _⟩ dX8_drawn_15 (fun H locs hw => ?_)
    have hf := Option.some.inj hf
    subst hf
    exact zk_reti (pc := 18) (ww := [xM M b_isKept b_size b_at b_from b_sort b_fled b_flights b_firstFlight b_bestHarms b_bestRage b_harmed b_raged, xI cy ((M 1)) 7 u3.2, xI cy ((M 2)) 39 b_now]) C hw hr hQ dX8_drawn_18
def zf_X8_seed (x1 : Int32) (b_now : Nat → Int32) : Option (Int32 × (Nat → Int32)) := some ((b_now 38), (upd b_now 38 x1))
abbrev zr_X8_seed : Room := { frames := 0, cells := 0, slots := 0, locals := 0 }
set_option maxHeartbeats 4000000 in
set_option maxRecDepth 100000 in
theorem c_X8_seed (l : Launch) (G : va_G) (cy : Nat → ClassId) (tt : Nat → Nat) (M : Nat → Nat) (b_isKept : Bool) (b_size : Int32) (b_at : Int32) (b_from : Int32) (b_sort : Int32) (b_fled : Bool) (b_flights : Int32) (b_firstFlight : Int32) (b_bestHarms : Int32) (b_bestRage : Int32) (b_harmed : Int64) (b_raged : Int64) (x1 : Int32) (b_now : Nat → Int32) (res : Int32 × (Nat → Int32)) (hf : zf_X8_seed x1 b_now = some res) : zCT l yX8_seed cX8_seed 3 (some .int) zr_X8_seed G cy tt [.ref ((M 0)), .int x1] [xM M b_isKept b_size b_at b_from b_sort b_fled b_flights b_firstFlight b_bestHarms b_bestRage b_harmed b_raged, xI cy ((M 2)) 39 b_now] (some (.int res.1)) [xM M b_isKept b_size b_at b_from b_sort b_fled b_flights b_firstFlight b_bestHarms b_bestRage b_harmed b_raged, xI cy ((M 2)) 39 res.2] := by
  refine zk_start zn_X8 (Nat.le_of_ble_eq_true rfl) ?_
  intro p e s m args below meth c A ls Q C hr hQ hw hl
  have C : zCx p m c s args meth cX8_seed 3 RX8 G cy tt A := C
  have hx := C.1.1
  have hb := C.1.2.1
  have hl : lv_has ls 3 [(0, .ref ((M 0))), (1, .int x1)] := hl
  rw [zf_X8_seed] at hf
  refine lv_aload_n (pc := 0) hx hb dX8_seed_0 rfl (lv_at hl 0 rfl) ?_
  refine zk_gt (pc := 1) C hw zl_X8_17 0 rfl rfl dX8_seed_1 ?_
  refine lv_bipush (pc := 4) (v := 38) hx hb dX8_seed_4 (by decide) ?_
  refine zk_ialdK (pc := 6) 38 (by decide) C hw 1 rfl (by decide) dX8_seed_6 ?_
  refine lv_istore_n (pc := 7) (lv' := [(2, .int ((b_now 38))), (0, .ref ((M 0))), (1, .int x1)]) hx hb dX8_seed_7 rfl hl (by decide) rfl (fun ls hl => ?_)
  refine lv_aload_n (pc := 8) hx hb dX8_seed_8 rfl (lv_at hl 1 rfl) ?_
  refine zk_gt (pc := 9) C hw zl_X8_17 0 rfl rfl dX8_seed_9 ?_
  refine lv_bipush (pc := 12) (v := 38) hx hb dX8_seed_12 (by decide) ?_
  refine lv_iload_n (pc := 14) hx hb dX8_seed_14 rfl (lv_at hl 2 rfl) ?_
  refine zk_iastK (pc := 15) (w' := [xM M b_isKept b_size b_at b_from b_sort b_fled b_flights b_firstFlight b_bestHarms b_bestRage b_harmed b_raged, xI cy ((M 2)) 39 ((upd b_now 38 x1))]) 38 (by decide) C hw 1 rfl (by decide) rfl dX8_seed_15 (fun H locs hw => ?_)
  refine lv_iload_n (pc := 16) hx hb dX8_seed_16 rfl (lv_at hl 0 rfl) ?_
  have hf := Option.some.inj hf
  subst hf
  exact zk_reti (pc := 17) (ww := [xM M b_isKept b_size b_at b_from b_sort b_fled b_flights b_firstFlight b_bestHarms b_bestRage b_harmed b_raged, xI cy ((M 2)) 39 ((upd b_now 38 x1))]) C hw hr hQ dX8_seed_17
def zf_X8_image_2 (b_now : Nat → Int32) : Nat → Int32 → (Nat → Int32) → Bool → Option (Int32 × (Nat → Int32) × Bool)
  | 0, _, _, _ => none
  | n + 1, v1, b_kept, b_isKept => (if (39 : Int32) ≤ v1 then some ((1 : Int32), b_kept, true) else (if ix v1 39 then (if ix v1 39 then zf_X8_image_2 b_now n ((v1 + 1)) ((upd b_kept v1.toNatClampNeg ((b_now v1.toNatClampNeg)))) b_isKept else none) else none))
def zf_X8_image  (b_now : Nat → Int32) (b_kept : Nat → Int32) (b_isKept : Bool) : Option (Int32 × (Nat → Int32) × Bool) := zf_X8_image_2 b_now FU ((0 : Int32)) b_kept b_isKept
abbrev zr_X8_image : Room := { frames := 0, cells := 0, slots := 0, locals := 0 }
set_option maxHeartbeats 4000000 in
set_option maxRecDepth 100000 in
theorem c_X8_image (l : Launch) (G : va_G) (cy : Nat → ClassId) (tt : Nat → Nat) (M : Nat → Nat) (b_size : Int32) (b_at : Int32) (b_from : Int32) (b_sort : Int32) (b_fled : Bool) (b_flights : Int32) (b_firstFlight : Int32) (b_bestHarms : Int32) (b_bestRage : Int32) (b_harmed : Int64) (b_raged : Int64)  (b_now : Nat → Int32) (b_kept : Nat → Int32) (b_isKept : Bool) (res : Int32 × (Nat → Int32) × Bool) (hf : zf_X8_image b_now b_kept b_isKept = some res) : zCT l yX8_image cX8_image 2 (some .int) zr_X8_image G cy tt [.ref ((M 0))] [xM M b_isKept b_size b_at b_from b_sort b_fled b_flights b_firstFlight b_bestHarms b_bestRage b_harmed b_raged, xI cy ((M 2)) 39 b_now, xI cy ((M 3)) 39 b_kept] (some (.int res.1)) [xM M res.2.2 b_size b_at b_from b_sort b_fled b_flights b_firstFlight b_bestHarms b_bestRage b_harmed b_raged, xI cy ((M 2)) 39 b_now, xI cy ((M 3)) 39 res.2.1] := by
  refine zk_start zn_X8 (Nat.le_of_ble_eq_true rfl) ?_
  intro p e s m args below meth c A ls Q C hr hQ hw hl
  have C : zCx p m c s args meth cX8_image 2 RX8 G cy tt A := C
  have hx := C.1.1
  have hb := C.1.2.1
  have hl : lv_has ls 2 [(0, .ref ((M 0)))] := hl
  have J2 : ∀ (n : Nat), ∀ (v1 : Int32) (b_kept : Nat → Int32) (b_isKept : Bool) (H : Heap) (locs : List Loc) (ls : Array Slot), zf_X8_image_2 b_now n v1 b_kept b_isKept = some res → zWd G A s.heap H locs [xM M b_isKept b_size b_at b_from b_sort b_fled b_flights b_firstFlight b_bestHarms b_bestRage b_harmed b_raged, xI cy ((M 2)) 39 b_now, xI cy ((M 3)) 39 b_kept] → lv_has ls 2 [(0, .ref ((M 0))), (1, .int v1)] → W p l e zr_X8_image s m args below meth c H locs 0 0 Q (F0 m 2 ls []) := by
    intro n
    induction n with
    | zero =>
      intro v1 b_kept b_isKept H locs ls hf hw hl
      rw [zf_X8_image_2] at hf
      cases hf
    | succ n ih =>
      intro v1 b_kept b_isKept H locs ls hf hw hl
      rw [zf_X8_image_2] at hf
      refine lv_iload_n (pc := 2) hx hb dX8_image_2 rfl (lv_at hl 1 rfl) ?_
      refine lv_bipush (pc := 3) (v := 39) hx hb dX8_image_3 (by decide) ?_
      refine lv_icmp_ge (pc := 5) (tgt := 26) hx hb dX8_image_5 (by decide) (fun q1 => ?_) (fun q1 => ?_)
      · replace hf := if_t q1 hf
        refine lv_aload_n (pc := 26) hx hb dX8_image_26 rfl (lv_at hl 0 rfl) ?_
        refine lv_iconst (pc := 27) (v := 1) hx hb dX8_image_27 (by decide) ?_
        refine zk_put (pc := 28) (v := .int (bI true)) (w' := [xM M true b_size b_at b_from b_sort b_fled b_flights b_firstFlight b_bestHarms b_bestRage b_harmed b_raged, xI cy ((M 2)) 39 b_now, xI cy ((M 3)) 39 b_kept]) C hw zp_X8_297 0 rfl (bI_nar _) (bI_fit _) (Nat.le_of_ble_eq_true rfl) rfl dX8_image_28 (fun H locs hw => ?_)
        refine lv_iconst (pc := 31) (v := 1) hx hb dX8_image_31 (by decide) ?_
        have hf := Option.some.inj hf
        subst hf
        exact zk_reti (pc := 32) (ww := [xM M true b_size b_at b_from b_sort b_fled b_flights b_firstFlight b_bestHarms b_bestRage b_harmed b_raged, xI cy ((M 2)) 39 b_now, xI cy ((M 3)) 39 b_kept]) C hw hr hQ dX8_image_32
      · replace hf := if_f q1 hf
        refine lv_aload_n (pc := 8) hx hb dX8_image_8 rfl (lv_at hl 0 rfl) ?_
        refine zk_gt (pc := 9) C hw zl_X8_20 0 rfl rfl dX8_image_9 ?_
        refine lv_iload_n (pc := 12) hx hb dX8_image_12 rfl (lv_at hl 1 rfl) ?_
        refine lv_aload_n (pc := 13) hx hb dX8_image_13 rfl (lv_at hl 0 rfl) ?_
        refine zk_gt (pc := 14) C hw zl_X8_17 0 rfl rfl dX8_image_14 ?_
        refine lv_iload_n (pc := 17) hx hb dX8_image_17 rfl (lv_at hl 1 rfl) ?_
        obtain ⟨q2, hf⟩ := ck hf
        refine zk_iald (pc := 18) C hw 1 rfl q2 dX8_image_18 ?_
        obtain ⟨q3, hf⟩ := ck hf
        refine zk_iast (pc := 19) (w' := [xM M b_isKept b_size b_at b_from b_sort b_fled b_flights b_firstFlight b_bestHarms b_bestRage b_harmed b_raged, xI cy ((M 2)) 39 b_now, xI cy ((M 3)) 39 ((upd b_kept v1.toNatClampNeg ((b_now v1.toNatClampNeg))))]) C hw 2 rfl q3 rfl dX8_image_19 (fun H locs hw => ?_)
        refine lv_iinc (pc := 20) (v := (v1 + 1)) (lv' := [(1, .int ((v1 + 1))), (0, .ref ((M 0)))]) hx hb dX8_image_20 hl (k := 1) rfl rfl (by decide) rfl (fun ls hl => ?_)
        refine lv_goto (pc := 23) (tgt := 2) hx hb dX8_image_23 (by decide) ?_
        exact ih ((v1 + 1)) ((upd b_kept v1.toNatClampNeg ((b_now v1.toNatClampNeg)))) b_isKept _ _ _ hf hw (lv_sub hl [1, 0] rfl)
  rw [zf_X8_image] at hf
  refine lv_iconst (pc := 0) (v := 0) hx hb dX8_image_0 (by decide) ?_
  refine lv_istore_n (pc := 1) (lv' := [(1, .int ((0 : Int32))), (0, .ref ((M 0)))]) hx hb dX8_image_1 rfl hl (by decide) rfl (fun ls hl => ?_)
  exact J2 FU ((0 : Int32)) b_kept b_isKept _ _ _ hf hw (lv_sub hl [1, 0] rfl)
def zf_X8_back_79 (b_kept : Nat → Int32) (b_isKept : Bool) (k42 : Int32 → (Nat → Int32) → (Nat → Int32) → (Nat → Int32) → Option (Int32 × (Nat → Int32) × (Nat → Int32) × (Nat → Int32))) (v1 : Int32) (t0 : Int32) (t1 : Int32) (b_refused : Nat → Int32) (b_now : Nat → Int32) (b_holds : Nat → Int32) : Option (Int32 × (Nat → Int32) × (Nat → Int32) × (Nat → Int32)) := (if ix t1 8 then k42 ((v1 + 1)) b_refused b_now ((upd b_holds t1.toNatClampNeg t0)) else none)
def zf_X8_back_42 (b_kept : Nat → Int32) (b_isKept : Bool) : Nat → Int32 → (Nat → Int32) → (Nat → Int32) → (Nat → Int32) → Option (Int32 × (Nat → Int32) × (Nat → Int32) × (Nat → Int32))
  | 0, _, _, _, _ => none
  | n + 1, v1, b_refused, b_now, b_holds => (if (8 : Int32) ≤ v1 then some ((1 : Int32), b_refused, b_now, b_holds) else (if ix v1 8 then (Option.bind (zf_X8_many b_now) (fun u8 => (if (b_holds v1.toNatClampNeg) < ((10 : Int32) + u8) then (if ix v1 8 then zf_X8_back_79 b_kept b_isKept (zf_X8_back_42 b_kept b_isKept n) v1 ((b_holds v1.toNatClampNeg)) v1 b_refused b_now b_holds else none) else zf_X8_back_79 b_kept b_isKept (zf_X8_back_42 b_kept b_isKept n) v1 ((-1 : Int32)) v1 b_refused b_now b_holds))) else none))
def zf_X8_back_16 (b_kept : Nat → Int32) (b_isKept : Bool) : Nat → Int32 → (Nat → Int32) → (Nat → Int32) → (Nat → Int32) → Option (Int32 × (Nat → Int32) × (Nat → Int32) × (Nat → Int32))
  | 0, _, _, _, _ => none
  | n + 1, v1, b_refused, b_now, b_holds => (if (39 : Int32) ≤ v1 then zf_X8_back_42 b_kept b_isKept FU ((0 : Int32)) b_refused b_now b_holds else (if ix v1 39 then (if ix v1 39 then zf_X8_back_16 b_kept b_isKept n ((v1 + 1)) b_refused ((upd b_now v1.toNatClampNeg ((b_kept v1.toNatClampNeg)))) b_holds else none) else none))
def zf_X8_back  (b_refused : Nat → Int32) (b_now : Nat → Int32) (b_kept : Nat → Int32) (b_isKept : Bool) (b_holds : Nat → Int32) : Option (Int32 × (Nat → Int32) × (Nat → Int32) × (Nat → Int32)) := (if b_isKept then zf_X8_back_16 b_kept b_isKept FU ((0 : Int32)) b_refused b_now b_holds else (Option.bind (zf_X8_refuse (((-5 : Int32))) b_refused) (fun u2 => some (u2.1, u2.2, b_now, b_holds))))
abbrev zr_X8_back : Room := { frames := 1, cells := 0, slots := 0, locals := 21 }
set_option maxHeartbeats 4000000 in
set_option maxRecDepth 100000 in
theorem c_X8_back (l : Launch) (G : va_G) (cy : Nat → ClassId) (tt : Nat → Nat) (M : Nat → Nat) (b_size : Int32) (b_at : Int32) (b_from : Int32) (b_sort : Int32) (b_fled : Bool) (b_flights : Int32) (b_firstFlight : Int32) (b_bestHarms : Int32) (b_bestRage : Int32) (b_harmed : Int64) (b_raged : Int64)  (b_refused : Nat → Int32) (b_now : Nat → Int32) (b_kept : Nat → Int32) (b_isKept : Bool) (b_holds : Nat → Int32) (res : Int32 × (Nat → Int32) × (Nat → Int32) × (Nat → Int32)) (hf : zf_X8_back b_refused b_now b_kept b_isKept b_holds = some res) : zCT l yX8_back cX8_back 2 (some .int) zr_X8_back G cy tt [.ref ((M 0))] [xM M b_isKept b_size b_at b_from b_sort b_fled b_flights b_firstFlight b_bestHarms b_bestRage b_harmed b_raged, xI cy ((M 1)) 7 b_refused, xI cy ((M 2)) 39 b_now, xI cy ((M 3)) 39 b_kept, xI cy ((M 7)) 8 b_holds] (some (.int res.1)) [xM M b_isKept b_size b_at b_from b_sort b_fled b_flights b_firstFlight b_bestHarms b_bestRage b_harmed b_raged, xI cy ((M 1)) 7 res.2.1, xI cy ((M 2)) 39 res.2.2.1, xI cy ((M 3)) 39 b_kept, xI cy ((M 7)) 8 res.2.2.2] := by
  refine zk_start zn_X8 (Nat.le_of_ble_eq_true rfl) ?_
  intro p e s m args below meth c A ls Q C hr hQ hw hl
  have C : zCx p m c s args meth cX8_back 2 RX8 G cy tt A := C
  have hx := C.1.1
  have hb := C.1.2.1
  have hl : lv_has ls 2 [(0, .ref ((M 0)))] := hl
  have J79 : ∀ (k42 : Int32 → (Nat → Int32) → (Nat → Int32) → (Nat → Int32) → Option (Int32 × (Nat → Int32) × (Nat → Int32) × (Nat → Int32))) (K42 : ∀ (v1 : Int32) (b_refused : Nat → Int32) (b_now : Nat → Int32) (b_holds : Nat → Int32) (H : Heap) (locs : List Loc) (ls : Array Slot), k42 v1 b_refused b_now b_holds = some res → zWd G A s.heap H locs [xM M b_isKept b_size b_at b_from b_sort b_fled b_flights b_firstFlight b_bestHarms b_bestRage b_harmed b_raged, xI cy ((M 1)) 7 b_refused, xI cy ((M 2)) 39 b_now, xI cy ((M 3)) 39 b_kept, xI cy ((M 7)) 8 b_holds] → lv_has ls 2 [(0, .ref ((M 0))), (1, .int v1)] → W p l e zr_X8_back s m args below meth c H locs 0 0 Q (F0 m 42 ls [])), ∀ (v1 : Int32) (t0 : Int32) (t1 : Int32) (b_refused : Nat → Int32) (b_now : Nat → Int32) (b_holds : Nat → Int32) (H : Heap) (locs : List Loc) (ls : Array Slot), zf_X8_back_79 b_kept b_isKept k42 v1 t0 t1 b_refused b_now b_holds = some res → zWd G A s.heap H locs [xM M b_isKept b_size b_at b_from b_sort b_fled b_flights b_firstFlight b_bestHarms b_bestRage b_harmed b_raged, xI cy ((M 1)) 7 b_refused, xI cy ((M 2)) 39 b_now, xI cy ((M 3)) 39 b_kept, xI cy ((M 7)) 8 b_holds] → lv_has ls 2 [(0, .ref ((M 0))), (1, .int v1)] → W p l e zr_X8_back s m args below meth c H locs 0 0 Q (F0 m 79 ls [.int t0, .int t1, .ref ((M 7))]) := by
    intro k42 K42 v1 t0 t1 b_refused b_now b_holds H locs ls hf hw hl
    rw [zf_X8_back_79] at hf
    obtain ⟨q11, hf⟩ := ck hf
    refine zk_iast (pc := 79) (w' := [xM M b_isKept b_size b_at b_from b_sort b_fled b_flights b_firstFlight b_bestHarms b_bestRage b_harmed b_raged, xI cy ((M 1)) 7 b_refused, xI cy ((M 2)) 39 b_now, xI cy ((M 3)) 39 b_kept, xI cy ((M 7)) 8 ((upd b_holds t1.toNatClampNeg t0))]) C hw 4 rfl q11 rfl dX8_back_79 (fun H locs hw => ?_)
    refine lv_iinc (pc := 80) (v := (v1 + 1)) (lv' := [(1, .int ((v1 + 1))), (0, .ref ((M 0)))]) hx hb dX8_back_80 hl (k := 1) rfl rfl (by decide) rfl (fun ls hl => ?_)
    refine lv_goto (pc := 83) (tgt := 42) hx hb dX8_back_83 (by decide) ?_
    exact K42 ((v1 + 1)) b_refused b_now ((upd b_holds t1.toNatClampNeg t0)) _ _ _ hf hw (lv_sub hl [1, 0] rfl)
  have J42 : ∀ (n : Nat), ∀ (v1 : Int32) (b_refused : Nat → Int32) (b_now : Nat → Int32) (b_holds : Nat → Int32) (H : Heap) (locs : List Loc) (ls : Array Slot), zf_X8_back_42 b_kept b_isKept n v1 b_refused b_now b_holds = some res → zWd G A s.heap H locs [xM M b_isKept b_size b_at b_from b_sort b_fled b_flights b_firstFlight b_bestHarms b_bestRage b_harmed b_raged, xI cy ((M 1)) 7 b_refused, xI cy ((M 2)) 39 b_now, xI cy ((M 3)) 39 b_kept, xI cy ((M 7)) 8 b_holds] → lv_has ls 2 [(0, .ref ((M 0))), (1, .int v1)] → W p l e zr_X8_back s m args below meth c H locs 0 0 Q (F0 m 42 ls []) := by
    intro n
    induction n with
    | zero =>
      intro v1 b_refused b_now b_holds H locs ls hf hw hl
      rw [zf_X8_back_42] at hf
      cases hf
    | succ n ih =>
      intro v1 b_refused b_now b_holds H locs ls hf hw hl
      rw [zf_X8_back_42] at hf
      refine lv_iload_n (pc := 42) hx hb dX8_back_42 rfl (lv_at hl 1 rfl) ?_
      refine lv_bipush (pc := 43) (v := 8) hx hb dX8_back_43 (by decide) ?_
      refine lv_icmp_ge (pc := 45) (tgt := 86) hx hb dX8_back_45 (by decide) (fun q6 => ?_) (fun q6 => ?_)
      · replace hf := if_t q6 hf
        refine lv_iconst (pc := 86) (v := 1) hx hb dX8_back_86 (by decide) ?_
        have hf := Option.some.inj hf
        subst hf
        exact zk_reti (pc := 87) (ww := [xM M b_isKept b_size b_at b_from b_sort b_fled b_flights b_firstFlight b_bestHarms b_bestRage b_harmed b_raged, xI cy ((M 1)) 7 b_refused, xI cy ((M 2)) 39 b_now, xI cy ((M 3)) 39 b_kept, xI cy ((M 7)) 8 b_holds]) C hw hr hQ dX8_back_87
      · replace hf := if_f q6 hf
        refine lv_aload_n (pc := 48) hx hb dX8_back_48 rfl (lv_at hl 0 rfl) ?_
        refine zk_gt (pc := 49) C hw zl_X8_33 0 rfl rfl dX8_back_49 ?_
        refine lv_iload_n (pc := 52) hx hb dX8_back_52 rfl (lv_at hl 1 rfl) ?_
        refine lv_aload_n (pc := 53) hx hb dX8_back_53 rfl (lv_at hl 0 rfl) ?_
        refine zk_gt (pc := 54) C hw zl_X8_33 0 rfl rfl dX8_back_54 ?_
        refine lv_iload_n (pc := 57) hx hb dX8_back_57 rfl (lv_at hl 1 rfl) ?_
        obtain ⟨q7, hf⟩ := ck hf
        refine zk_iald (pc := 58) C hw 4 rfl q7 dX8_back_58 ?_
        refine lv_bipush (pc := 59) (v := 10) hx hb dX8_back_59 (by decide) ?_
        refine lv_aload_n (pc := 61) hx hb dX8_back_61 rfl (lv_at hl 0 rfl) ?_
        obtain ⟨u8, u8e, hf⟩ := bd hf
        refine zk_cV (pc := 62) (ci := 8) (q0 := 0) (rest := [.int ((10 : Int32)), .int ((b_holds v1.toNatClampNeg)), .int v1, .ref ((M 7))]) (st1 := [.int u8, .int ((10 : Int32)), .int ((b_holds v1.toNatClampNeg)), .int v1, .ref ((M 7))]) (w' := [xM M b_isKept b_size b_at b_from b_sort b_fled b_flights b_firstFlight b_bestHarms b_bestRage b_harmed b_raged, xI cy ((M 1)) 7 b_refused, xI cy ((M 2)) 39 b_now, xI cy ((M 3)) 39 b_kept, xI cy ((M 7)) 8 b_holds]) (mk := [none, none, none, none, none]) C hw (c_X8_many l G cy tt M b_isKept b_size b_at b_from b_sort b_fled b_flights b_firstFlight b_bestHarms b_bestRage b_harmed b_raged b_now _ u8e) zy_X8_many zm_X8_80 rfl rfl rfl [0, 2] rfl rfl rfl rfl rfl rfl rfl rfl hl.1 ⟨rfl, rfl⟩ ⟨Nat.le_of_ble_eq_true rfl, Nat.le_of_ble_eq_true rfl⟩ rfl (Nat.le_of_ble_eq_true rfl) ⟨Nat.zero_le _, Nat.zero_le _⟩ dX8_back_62 (fun H locs hw => ?_)
        refine lv_iadd (pc := 65) hx hb dX8_back_65 ?_
        refine lv_icmp_lt (pc := 66) (tgt := 73) hx hb dX8_back_66 (by decide) (fun q9 => ?_) (fun q9 => ?_)
        · replace hf := if_t q9 hf
          refine lv_aload_n (pc := 73) hx hb dX8_back_73 rfl (lv_at hl 0 rfl) ?_
          refine zk_gt (pc := 74) C hw zl_X8_33 0 rfl rfl dX8_back_74 ?_
          refine lv_iload_n (pc := 77) hx hb dX8_back_77 rfl (lv_at hl 1 rfl) ?_
          obtain ⟨q10, hf⟩ := ck hf
          refine zk_iald (pc := 78) C hw 4 rfl q10 dX8_back_78 ?_
          exact J79 (zf_X8_back_42 b_kept b_isKept n) ih v1 ((b_holds v1.toNatClampNeg)) v1 b_refused b_now b_holds _ _ _ hf hw (lv_sub hl [0, 1] rfl)
        · replace hf := if_f q9 hf
          refine lv_iconst (pc := 69) (v := -1) hx hb dX8_back_69 (by decide) ?_
          refine lv_goto (pc := 70) (tgt := 79) hx hb dX8_back_70 (by decide) ?_
          exact J79 (zf_X8_back_42 b_kept b_isKept n) ih v1 ((-1 : Int32)) v1 b_refused b_now b_holds _ _ _ hf hw (lv_sub hl [0, 1] rfl)
  have J16 : ∀ (n : Nat), ∀ (v1 : Int32) (b_refused : Nat → Int32) (b_now : Nat → Int32) (b_holds : Nat → Int32) (H : Heap) (locs : List Loc) (ls : Array Slot), zf_X8_back_16 b_kept b_isKept n v1 b_refused b_now b_holds = some res → zWd G A s.heap H locs [xM M b_isKept b_size b_at b_from b_sort b_fled b_flights b_firstFlight b_bestHarms b_bestRage b_harmed b_raged, xI cy ((M 1)) 7 b_refused, xI cy ((M 2)) 39 b_now, xI cy ((M 3)) 39 b_kept, xI cy ((M 7)) 8 b_holds] → lv_has ls 2 [(0, .ref ((M 0))), (1, .int v1)] → W p l e zr_X8_back s m args below meth c H locs 0 0 Q (F0 m 16 ls []) := by
    intro n
    induction n with
    | zero =>
      intro v1 b_refused b_now b_holds H locs ls hf hw hl
      rw [zf_X8_back_16] at hf
      cases hf
    | succ n ih =>
      intro v1 b_refused b_now b_holds H locs ls hf hw hl
      rw [zf_X8_back_16] at hf
      refine lv_iload_n (pc := 16) hx hb dX8_back_16 rfl (lv_at hl 1 rfl) ?_
      refine lv_bipush (pc := 17) (v := 39) hx hb dX8_back_17 (by decide) ?_
      refine lv_icmp_ge (pc := 19) (tgt := 40) hx hb dX8_back_19 (by decide) (fun q3 => ?_) (fun q3 => ?_)
      · replace hf := if_t q3 hf
        refine lv_iconst (pc := 40) (v := 0) hx hb dX8_back_40 (by decide) ?_
        refine lv_istore_n (pc := 41) (lv' := [(1, .int ((0 : Int32))), (0, .ref ((M 0)))]) hx hb dX8_back_41 rfl hl (by decide) rfl (fun ls hl => ?_)
        exact J42 FU ((0 : Int32)) b_refused b_now b_holds _ _ _ hf hw (lv_sub hl [1, 0] rfl)
      · replace hf := if_f q3 hf
        refine lv_aload_n (pc := 22) hx hb dX8_back_22 rfl (lv_at hl 0 rfl) ?_
        refine zk_gt (pc := 23) C hw zl_X8_17 0 rfl rfl dX8_back_23 ?_
        refine lv_iload_n (pc := 26) hx hb dX8_back_26 rfl (lv_at hl 1 rfl) ?_
        refine lv_aload_n (pc := 27) hx hb dX8_back_27 rfl (lv_at hl 0 rfl) ?_
        refine zk_gt (pc := 28) C hw zl_X8_20 0 rfl rfl dX8_back_28 ?_
        refine lv_iload_n (pc := 31) hx hb dX8_back_31 rfl (lv_at hl 1 rfl) ?_
        obtain ⟨q4, hf⟩ := ck hf
        refine zk_iald (pc := 32) C hw 3 rfl q4 dX8_back_32 ?_
        obtain ⟨q5, hf⟩ := ck hf
        refine zk_iast (pc := 33) (w' := [xM M b_isKept b_size b_at b_from b_sort b_fled b_flights b_firstFlight b_bestHarms b_bestRage b_harmed b_raged, xI cy ((M 1)) 7 b_refused, xI cy ((M 2)) 39 ((upd b_now v1.toNatClampNeg ((b_kept v1.toNatClampNeg)))), xI cy ((M 3)) 39 b_kept, xI cy ((M 7)) 8 b_holds]) C hw 2 rfl q5 rfl dX8_back_33 (fun H locs hw => ?_)
        refine lv_iinc (pc := 34) (v := (v1 + 1)) (lv' := [(1, .int ((v1 + 1))), (0, .ref ((M 0)))]) hx hb dX8_back_34 hl (k := 1) rfl rfl (by decide) rfl (fun ls hl => ?_)
        refine lv_goto (pc := 37) (tgt := 16) hx hb dX8_back_37 (by decide) ?_
        exact ih ((v1 + 1)) b_refused ((upd b_now v1.toNatClampNeg ((b_kept v1.toNatClampNeg)))) b_holds _ _ _ hf hw (lv_sub hl [1, 0] rfl)
  rw [zf_X8_back] at hf
  refine lv_aload_n (pc := 0) hx hb dX8_back_0 rfl (lv_at hl 0 rfl) ?_
  refine zk_gt (pc := 1) C hw zl_X8_297 0 rfl rfl dX8_back_1 ?_
  refine zk_ifnz (pc := 4) (tgt := 14) hx hb dX8_back_4 (by decide) (fun q1 => ?_) (fun q1 => ?_)
  · replace hf := if_t q1 hf
    refine lv_iconst (pc := 14) (v := 0) hx hb dX8_back_14 (by decide) ?_
    refine lv_istore_n (pc := 15) (lv' := [(1, .int ((0 : Int32))), (0, .ref ((M 0)))]) hx hb dX8_back_15 rfl hl (by decide) rfl (fun ls hl => ?_)
    exact J16 FU ((0 : Int32)) b_refused b_now b_holds _ _ _ hf hw (lv_sub hl [1, 0] rfl)
  · replace hf := if_f q1 hf
    refine lv_aload_n (pc := 7) hx hb dX8_back_7 rfl (lv_at hl 0 rfl) ?_
    refine lv_bipush (pc := 8) (v := -5) hx hb dX8_back_8 (by decide) ?_
    obtain ⟨u2, u2e, hf⟩ := bd hf
    refine zk_cV (pc := 10) (ci := 8) (q0 := 0) (rest := []) (st1 := [.int u2.1]) (w' := [xM M b_isKept b_size b_at b_from b_sort b_fled b_flights b_firstFlight b_bestHarms b_bestRage b_harmed b_raged, xI cy ((M 1)) 7 u2.2, xI cy ((M 2)) 39 b_now, xI cy ((M 3)) 39 b_kept, xI cy ((M 7)) 8 b_holds]) (mk := [none, some (xI cy ((M 1)) 7 u2.2), none, none, none]) C hw (c_X8_refuse l G cy tt M b_isKept b_size b_at b_from b_sort b_fled b_flights b_firstFlight b_bestHarms b_bestRage b_harmed b_raged (((-5 : Int32))) b_refused _ u2e) zy_X8_refuse zm_X8_90 rfl rfl rfl [0, 1] rfl rfl rfl rfl rfl rfl rfl rfl hl.1 ⟨rfl, rfl⟩ ⟨Nat.le_of_ble_eq_true rfl, Nat.le_of_ble_eq_true rfl⟩ rfl (Nat.le_of_ble_eq_true rfl) ⟨Nat.zero_le _, Nat.zero_le _⟩ dX8_back_10 (fun H locs hw => ?_)
    have hf := Option.some.inj hf
    subst hf
    exact zk_reti (pc := 13) (ww := [xM M b_isKept b_size b_at b_from b_sort b_fled b_flights b_firstFlight b_bestHarms b_bestRage b_harmed b_raged, xI cy ((M 1)) 7 u2.2, xI cy ((M 2)) 39 b_now, xI cy ((M 3)) 39 b_kept, xI cy ((M 7)) 8 b_holds]) C hw hr hQ dX8_back_13
def zf_X8_status_92 (b_refused : Nat → Int32) (b_now : Nat → Int32) (b_size : Int32) (b_holds : Nat → Int32) : Nat → Int32 → Int32 → Option (Int32)
  | 0, _, _ => none
  | n + 1, v2, v3 => (Option.bind (zf_X8_many b_now) (fun u23 => (if u23 ≤ v3 then some (v2) else (if ix ((((4 : Int32) * v3) + (3 : Int32))) 39 then zf_X8_status_92 b_refused b_now b_size b_holds n ((v2 + (b_now ((((4 : Int32) * v3) + (3 : Int32))).toNatClampNeg))) ((v3 + 1)) else none))))
def zf_X8_status_158 (b_refused : Nat → Int32) (b_now : Nat → Int32) (b_size : Int32) (b_holds : Nat → Int32) (k136 : Int32 → Int32 → Option (Int32)) (v3 : Int32) (t0 : Bool) (t1 : Int32) : Option (Int32) := k136 ((t1 + (bI t0))) ((v3 + 1))
def zf_X8_status_136 (b_refused : Nat → Int32) (b_now : Nat → Int32) (b_size : Int32) (b_holds : Nat → Int32) : Nat → Int32 → Int32 → Option (Int32)
  | 0, _, _ => none
  | n + 1, v2, v3 => (if (8 : Int32) ≤ v3 then some (v2) else (if ix v3 8 then (if (b_holds v3.toNatClampNeg) = (-1 : Int32) then zf_X8_status_158 b_refused b_now b_size b_holds (zf_X8_status_136 b_refused b_now b_size b_holds n) v3 false v2 else zf_X8_status_158 b_refused b_now b_size b_holds (zf_X8_status_136 b_refused b_now b_size b_holds n) v3 true v2) else none))
def zf_X8_status (x1 : Int32) (b_refused : Nat → Int32) (b_now : Nat → Int32) (b_size : Int32) (b_holds : Nat → Int32) : Option (Int32) := (Option.bind (zf_X8_isIn x1.toInt64 (((12 : Int64))) (((16 : Int64)))) (fun u1 => (if u1 then (if ix ((x1 - (10 : Int32))) 7 then some ((b_refused ((x1 - (10 : Int32))).toNatClampNeg)) else none) else (if x1 = 0 then (if ix (((32 : Int32) + x1)) 39 then some ((b_now (((32 : Int32) + x1)).toNatClampNeg)) else none) else (if x1 = 1 then (if ix (((32 : Int32) + x1)) 39 then some ((b_now (((32 : Int32) + x1)).toNatClampNeg)) else none) else (if x1 = 2 then (if ix (((32 : Int32) + x1)) 39 then some ((b_now (((32 : Int32) + x1)).toNatClampNeg)) else none) else (if x1 = 3 then (if ix (((32 : Int32) + x1)) 39 then some ((b_now (((32 : Int32) + x1)).toNatClampNeg)) else none) else (if x1 = 4 then (if ix (((32 : Int32) + x1)) 39 then some ((b_now (((32 : Int32) + x1)).toNatClampNeg)) else none) else (if x1 = 5 then (if ix (((32 : Int32) + x1)) 39 then some ((b_now (((32 : Int32) + x1)).toNatClampNeg)) else none) else (if x1 = 6 then zf_X8_status_92 b_refused b_now b_size b_holds FU ((0 : Int32)) ((0 : Int32)) else (if x1 = 7 then some (b_size) else (if x1 = 8 then some ((b_now 38)) else (if x1 = 9 then zf_X8_status_136 b_refused b_now b_size b_holds FU ((0 : Int32)) ((0 : Int32)) else some ((-1 : Int32)))))))))))))))
abbrev zr_X8_status : Room := { frames := 1, cells := 0, slots := 0, locals := 25 }
set_option maxHeartbeats 4000000 in
set_option maxRecDepth 100000 in
theorem c_X8_status (l : Launch) (G : va_G) (cy : Nat → ClassId) (tt : Nat → Nat) (M : Nat → Nat) (b_isKept : Bool) (b_at : Int32) (b_from : Int32) (b_sort : Int32) (b_fled : Bool) (b_flights : Int32) (b_firstFlight : Int32) (b_bestHarms : Int32) (b_bestRage : Int32) (b_harmed : Int64) (b_raged : Int64) (x1 : Int32) (b_refused : Nat → Int32) (b_now : Nat → Int32) (b_size : Int32) (b_holds : Nat → Int32) (res : Int32) (hf : zf_X8_status x1 b_refused b_now b_size b_holds = some res) : zCT l yX8_status cX8_status 4 (some .int) zr_X8_status G cy tt [.ref ((M 0)), .int x1] [xM M b_isKept b_size b_at b_from b_sort b_fled b_flights b_firstFlight b_bestHarms b_bestRage b_harmed b_raged, xI cy ((M 1)) 7 b_refused, xI cy ((M 2)) 39 b_now, xI cy ((M 7)) 8 b_holds] (some (.int res)) [xM M b_isKept b_size b_at b_from b_sort b_fled b_flights b_firstFlight b_bestHarms b_bestRage b_harmed b_raged, xI cy ((M 1)) 7 b_refused, xI cy ((M 2)) 39 b_now, xI cy ((M 7)) 8 b_holds] := by
  refine zk_start zn_X8 (Nat.le_of_ble_eq_true rfl) ?_
  intro p e s m args below meth c A ls Q C hr hQ hw hl
  have C : zCx p m c s args meth cX8_status 4 RX8 G cy tt A := C
  have hx := C.1.1
  have hb := C.1.2.1
  have hl : lv_has ls 4 [(0, .ref ((M 0))), (1, .int x1)] := hl
  have J92 : ∀ (n : Nat), ∀ (v2 : Int32) (v3 : Int32) (H : Heap) (locs : List Loc) (ls : Array Slot), zf_X8_status_92 b_refused b_now b_size b_holds n v2 v3 = some res → zWd G A s.heap H locs [xM M b_isKept b_size b_at b_from b_sort b_fled b_flights b_firstFlight b_bestHarms b_bestRage b_harmed b_raged, xI cy ((M 1)) 7 b_refused, xI cy ((M 2)) 39 b_now, xI cy ((M 7)) 8 b_holds] → lv_has ls 4 [(0, .ref ((M 0))), (2, .int v2), (3, .int v3)] → W p l e zr_X8_status s m args below meth c H locs 0 0 Q (F0 m 92 ls []) := by
    intro n
    induction n with
    | zero =>
      intro v2 v3 H locs ls hf hw hl
      rw [zf_X8_status_92] at hf
      cases hf
    | succ n ih =>
      intro v2 v3 H locs ls hf hw hl
      rw [zf_X8_status_92] at hf
      refine lv_iload_n (pc := 92) hx hb dX8_status_92 rfl (lv_at hl 2 rfl) ?_
      refine lv_aload_n (pc := 93) hx hb dX8_status_93 rfl (lv_at hl 0 rfl) ?_
      obtain ⟨u23, u23e, hf⟩ := bd hf
      refine zk_cV (pc := 94) (ci := 8) (q0 := 0) (rest := [.int v3]) (st1 := [.int u23, .int v3]) (w' := [xM M b_isKept b_size b_at b_from b_sort b_fled b_flights b_firstFlight b_bestHarms b_bestRage b_harmed b_raged, xI cy ((M 1)) 7 b_refused, xI cy ((M 2)) 39 b_now, xI cy ((M 7)) 8 b_holds]) (mk := [none, none, none, none]) C hw (c_X8_many l G cy tt M b_isKept b_size b_at b_from b_sort b_fled b_flights b_firstFlight b_bestHarms b_bestRage b_harmed b_raged b_now _ u23e) zy_X8_many zm_X8_80 rfl rfl rfl [0, 2] rfl rfl rfl rfl rfl rfl rfl rfl hl.1 ⟨rfl, rfl⟩ ⟨Nat.le_of_ble_eq_true rfl, Nat.le_of_ble_eq_true rfl⟩ rfl (Nat.le_of_ble_eq_true rfl) ⟨Nat.zero_le _, Nat.zero_le _⟩ dX8_status_94 (fun H locs hw => ?_)
      refine lv_icmp_ge (pc := 97) (tgt := 119) hx hb dX8_status_97 (by decide) (fun q24 => ?_) (fun q24 => ?_)
      · replace hf := if_t q24 hf
        refine lv_iload_n (pc := 119) hx hb dX8_status_119 rfl (lv_at hl 1 rfl) ?_
        have hf := Option.some.inj hf
        subst hf
        exact zk_reti (pc := 120) (ww := [xM M b_isKept b_size b_at b_from b_sort b_fled b_flights b_firstFlight b_bestHarms b_bestRage b_harmed b_raged, xI cy ((M 1)) 7 b_refused, xI cy ((M 2)) 39 b_now, xI cy ((M 7)) 8 b_holds]) C hw hr hQ dX8_status_120
      · replace hf := if_f q24 hf
        refine lv_iload_n (pc := 100) hx hb dX8_status_100 rfl (lv_at hl 1 rfl) ?_
        refine lv_aload_n (pc := 101) hx hb dX8_status_101 rfl (lv_at hl 0 rfl) ?_
        refine zk_gt (pc := 102) C hw zl_X8_17 0 rfl rfl dX8_status_102 ?_
        refine lv_iconst (pc := 105) (v := 4) hx hb dX8_status_105 (by decide) ?_
        refine lv_iload_n (pc := 106) hx hb dX8_status_106 rfl (lv_at hl 2 rfl) ?_
        refine lv_imul (pc := 107) hx hb dX8_status_107 ?_
        refine lv_iconst (pc := 108) (v := 3) hx hb dX8_status_108 (by decide) ?_
        refine lv_iadd (pc := 109) hx hb dX8_status_109 ?_
        obtain ⟨q25, hf⟩ := ck hf
        refine zk_iald (pc := 110) C hw 2 rfl q25 dX8_status_110 ?_
        refine lv_iadd (pc := 111) hx hb dX8_status_111 ?_
        refine lv_istore_n (pc := 112) (lv' := [(2, .int ((v2 + (b_now ((((4 : Int32) * v3) + (3 : Int32))).toNatClampNeg)))), (0, .ref ((M 0))), (3, .int v3)]) hx hb dX8_status_112 rfl hl (by decide) rfl (fun ls hl => ?_)
        refine lv_iinc (pc := 113) (v := (v3 + 1)) (lv' := [(3, .int ((v3 + 1))), (2, .int ((v2 + (b_now ((((4 : Int32) * v3) + (3 : Int32))).toNatClampNeg)))), (0, .ref ((M 0)))]) hx hb dX8_status_113 hl (k := 2) rfl rfl (by decide) rfl (fun ls hl => ?_)
        refine lv_goto (pc := 116) (tgt := 92) hx hb dX8_status_116 (by decide) ?_
        exact ih ((v2 + (b_now ((((4 : Int32) * v3) + (3 : Int32))).toNatClampNeg))) ((v3 + 1)) _ _ _ hf hw (lv_sub hl [2, 1, 0] rfl)
  have J158 : ∀ (k136 : Int32 → Int32 → Option (Int32)) (K136 : ∀ (v2 : Int32) (v3 : Int32) (H : Heap) (locs : List Loc) (ls : Array Slot), k136 v2 v3 = some res → zWd G A s.heap H locs [xM M b_isKept b_size b_at b_from b_sort b_fled b_flights b_firstFlight b_bestHarms b_bestRage b_harmed b_raged, xI cy ((M 1)) 7 b_refused, xI cy ((M 2)) 39 b_now, xI cy ((M 7)) 8 b_holds] → lv_has ls 4 [(0, .ref ((M 0))), (2, .int v2), (3, .int v3)] → W p l e zr_X8_status s m args below meth c H locs 0 0 Q (F0 m 136 ls [])), ∀ (v3 : Int32) (t0 : Bool) (t1 : Int32) (H : Heap) (locs : List Loc) (ls : Array Slot), zf_X8_status_158 b_refused b_now b_size b_holds k136 v3 t0 t1 = some res → zWd G A s.heap H locs [xM M b_isKept b_size b_at b_from b_sort b_fled b_flights b_firstFlight b_bestHarms b_bestRage b_harmed b_raged, xI cy ((M 1)) 7 b_refused, xI cy ((M 2)) 39 b_now, xI cy ((M 7)) 8 b_holds] → lv_has ls 4 [(0, .ref ((M 0))), (3, .int v3)] → W p l e zr_X8_status s m args below meth c H locs 0 0 Q (F0 m 158 ls [.int (bI t0), .int t1]) := by
    intro k136 K136 v3 t0 t1 H locs ls hf hw hl
    rw [zf_X8_status_158] at hf
    refine lv_iadd (pc := 158) hx hb dX8_status_158 ?_
    refine lv_istore_n (pc := 159) (lv' := [(2, .int ((t1 + (bI t0)))), (0, .ref ((M 0))), (3, .int v3)]) hx hb dX8_status_159 rfl hl (by decide) rfl (fun ls hl => ?_)
    refine lv_iinc (pc := 160) (v := (v3 + 1)) (lv' := [(3, .int ((v3 + 1))), (2, .int ((t1 + (bI t0)))), (0, .ref ((M 0)))]) hx hb dX8_status_160 hl (k := 2) rfl rfl (by decide) rfl (fun ls hl => ?_)
    refine lv_goto (pc := 163) (tgt := 136) hx hb dX8_status_163 (by decide) ?_
    exact K136 ((t1 + (bI t0))) ((v3 + 1)) _ _ _ hf hw (lv_sub hl [2, 1, 0] rfl)
  have J136 : ∀ (n : Nat), ∀ (v2 : Int32) (v3 : Int32) (H : Heap) (locs : List Loc) (ls : Array Slot), zf_X8_status_136 b_refused b_now b_size b_holds n v2 v3 = some res → zWd G A s.heap H locs [xM M b_isKept b_size b_at b_from b_sort b_fled b_flights b_firstFlight b_bestHarms b_bestRage b_harmed b_raged, xI cy ((M 1)) 7 b_refused, xI cy ((M 2)) 39 b_now, xI cy ((M 7)) 8 b_holds] → lv_has ls 4 [(0, .ref ((M 0))), (2, .int v2), (3, .int v3)] → W p l e zr_X8_status s m args below meth c H locs 0 0 Q (F0 m 136 ls []) := by
    intro n
    induction n with
    | zero =>
      intro v2 v3 H locs ls hf hw hl
      rw [zf_X8_status_136] at hf
      cases hf
    | succ n ih =>
      intro v2 v3 H locs ls hf hw hl
      rw [zf_X8_status_136] at hf
      refine lv_iload_n (pc := 136) hx hb dX8_status_136 rfl (lv_at hl 2 rfl) ?_
      refine lv_bipush (pc := 137) (v := 8) hx hb dX8_status_137 (by decide) ?_
      refine lv_icmp_ge (pc := 139) (tgt := 166) hx hb dX8_status_139 (by decide) (fun q20 => ?_) (fun q20 => ?_)
      · replace hf := if_t q20 hf
        refine lv_iload_n (pc := 166) hx hb dX8_status_166 rfl (lv_at hl 1 rfl) ?_
        have hf := Option.some.inj hf
        subst hf
        exact zk_reti (pc := 167) (ww := [xM M b_isKept b_size b_at b_from b_sort b_fled b_flights b_firstFlight b_bestHarms b_bestRage b_harmed b_raged, xI cy ((M 1)) 7 b_refused, xI cy ((M 2)) 39 b_now, xI cy ((M 7)) 8 b_holds]) C hw hr hQ dX8_status_167
      · replace hf := if_f q20 hf
        refine lv_iload_n (pc := 142) hx hb dX8_status_142 rfl (lv_at hl 1 rfl) ?_
        refine lv_aload_n (pc := 143) hx hb dX8_status_143 rfl (lv_at hl 0 rfl) ?_
        refine zk_gt (pc := 144) C hw zl_X8_33 0 rfl rfl dX8_status_144 ?_
        refine lv_iload_n (pc := 147) hx hb dX8_status_147 rfl (lv_at hl 2 rfl) ?_
        obtain ⟨q21, hf⟩ := ck hf
        refine zk_iald (pc := 148) C hw 3 rfl q21 dX8_status_148 ?_
        refine lv_iconst (pc := 149) (v := -1) hx hb dX8_status_149 (by decide) ?_
        refine lv_icmp_ne (pc := 150) (tgt := 157) hx hb dX8_status_150 (by decide) (fun q22 => ?_) (fun q22 => ?_)
        · replace hf := if_f q22 hf
          refine lv_iconst (pc := 157) (v := 1) hx hb dX8_status_157 (by decide) ?_
          exact J158 (zf_X8_status_136 b_refused b_now b_size b_holds n) ih v3 true v2 _ _ _ hf hw (lv_sub hl [0, 2] rfl)
        · replace hf := if_t q22 hf
          refine lv_iconst (pc := 153) (v := 0) hx hb dX8_status_153 (by decide) ?_
          refine lv_goto (pc := 154) (tgt := 158) hx hb dX8_status_154 (by decide) ?_
          exact J158 (zf_X8_status_136 b_refused b_now b_size b_holds n) ih v3 false v2 _ _ _ hf hw (lv_sub hl [0, 2] rfl)
  rw [zf_X8_status] at hf
  refine lv_iload_n (pc := 0) hx hb dX8_status_0 rfl (lv_at hl 1 rfl) ?_
  refine lv_i2l (pc := 1) (v := x1.toInt64) hx hb dX8_status_1 rfl ?_
  refine lv_ldc2 (pc := 2) (v := 12) hx hb C.1.2.2.2.1 (C.1.2.2.2.2 _ zc_X8_300) dX8_status_2 ?_
  refine lv_ldc2 (pc := 5) (v := 16) hx hb C.1.2.2.2.1 (C.1.2.2.2.2 _ zc_X8_302) dX8_status_5 ?_
  obtain ⟨u1, u1e, hf⟩ := bd hf
  refine zk_cS (pc := 8) (rest := []) (st1 := [.int (bI u1)]) (w' := [xM M b_isKept b_size b_at b_from b_sort b_fled b_flights b_firstFlight b_bestHarms b_bestRage b_harmed b_raged, xI cy ((M 1)) 7 b_refused, xI cy ((M 2)) 39 b_now, xI cy ((M 7)) 8 b_holds]) (mk := [none, none, none, none]) C hw (c_X8_isIn l G cy tt x1.toInt64 (((12 : Int64))) (((16 : Int64))) _ u1e) zy_X8_isIn zm_X8_68 [] rfl rfl rfl rfl rfl rfl rfl rfl hl.1 ⟨rfl, rfl⟩ ⟨Nat.le_of_ble_eq_true rfl, Nat.le_of_ble_eq_true rfl⟩ rfl (Nat.le_of_ble_eq_true rfl) ⟨Nat.zero_le _, Nat.zero_le _⟩ dX8_status_8 (fun H locs hw => ?_)
  refine zk_ifz (pc := 11) (tgt := 24) hx hb dX8_status_11 (by decide) (fun q2 => ?_) (fun q2 => ?_)
  · replace hf := if_f q2 hf
    refine lv_iconst (pc := 24) (v := 0) hx hb dX8_status_24 (by decide) ?_
    refine lv_istore_n (pc := 25) (lv' := [(2, .int ((0 : Int32))), (0, .ref ((M 0))), (1, .int x1)]) hx hb dX8_status_25 rfl hl (by decide) rfl (fun ls hl => ?_)
    refine lv_iload_n (pc := 26) hx hb dX8_status_26 rfl (lv_at hl 2 rfl) ?_
    by_cases q3 : x1 = (0 : Int32)
    · replace hf := if_t q3 hf
      refine zk_tabIn (pc := 27) (off := 53) (tgt := 80) q3 C dX8_status_27 (by decide) (by decide) (by decide +kernel) (by decide) ?_
      refine lv_aload_n (pc := 80) hx hb dX8_status_80 rfl (lv_at hl 1 rfl) ?_
      refine zk_gt (pc := 81) C hw zl_X8_17 0 rfl rfl dX8_status_81 ?_
      refine lv_bipush (pc := 84) (v := 32) hx hb dX8_status_84 (by decide) ?_
      refine lv_iload_n (pc := 86) hx hb dX8_status_86 rfl (lv_at hl 2 rfl) ?_
      refine lv_iadd (pc := 87) hx hb dX8_status_87 ?_
      obtain ⟨q4, hf⟩ := ck hf
      refine zk_iald (pc := 88) C hw 2 rfl q4 dX8_status_88 ?_
      have hf := Option.some.inj hf
      subst hf
      exact zk_reti (pc := 89) (ww := [xM M b_isKept b_size b_at b_from b_sort b_fled b_flights b_firstFlight b_bestHarms b_bestRage b_harmed b_raged, xI cy ((M 1)) 7 b_refused, xI cy ((M 2)) 39 b_now, xI cy ((M 7)) 8 b_holds]) C hw hr hQ dX8_status_89
    · replace hf := if_f q3 hf
      by_cases q5 : x1 = (1 : Int32)
      · replace hf := if_t q5 hf
        refine zk_tabIn (pc := 27) (off := 53) (tgt := 80) q5 C dX8_status_27 (by decide) (by decide) (by decide +kernel) (by decide) ?_
        refine lv_aload_n (pc := 80) hx hb dX8_status_80 rfl (lv_at hl 1 rfl) ?_
        refine zk_gt (pc := 81) C hw zl_X8_17 0 rfl rfl dX8_status_81 ?_
        refine lv_bipush (pc := 84) (v := 32) hx hb dX8_status_84 (by decide) ?_
        refine lv_iload_n (pc := 86) hx hb dX8_status_86 rfl (lv_at hl 2 rfl) ?_
        refine lv_iadd (pc := 87) hx hb dX8_status_87 ?_
        obtain ⟨q6, hf⟩ := ck hf
        refine zk_iald (pc := 88) C hw 2 rfl q6 dX8_status_88 ?_
        have hf := Option.some.inj hf
        subst hf
        exact zk_reti (pc := 89) (ww := [xM M b_isKept b_size b_at b_from b_sort b_fled b_flights b_firstFlight b_bestHarms b_bestRage b_harmed b_raged, xI cy ((M 1)) 7 b_refused, xI cy ((M 2)) 39 b_now, xI cy ((M 7)) 8 b_holds]) C hw hr hQ dX8_status_89
      · replace hf := if_f q5 hf
        by_cases q7 : x1 = (2 : Int32)
        · replace hf := if_t q7 hf
          refine zk_tabIn (pc := 27) (off := 53) (tgt := 80) q7 C dX8_status_27 (by decide) (by decide) (by decide +kernel) (by decide) ?_
          refine lv_aload_n (pc := 80) hx hb dX8_status_80 rfl (lv_at hl 1 rfl) ?_
          refine zk_gt (pc := 81) C hw zl_X8_17 0 rfl rfl dX8_status_81 ?_
          refine lv_bipush (pc := 84) (v := 32) hx hb dX8_status_84 (by decide) ?_
          refine lv_iload_n (pc := 86) hx hb dX8_status_86 rfl (lv_at hl 2 rfl) ?_
          refine lv_iadd (pc := 87) hx hb dX8_status_87 ?_
          obtain ⟨q8, hf⟩ := ck hf
          refine zk_iald (pc := 88) C hw 2 rfl q8 dX8_status_88 ?_
          have hf := Option.some.inj hf
          subst hf
          exact zk_reti (pc := 89) (ww := [xM M b_isKept b_size b_at b_from b_sort b_fled b_flights b_firstFlight b_bestHarms b_bestRage b_harmed b_raged, xI cy ((M 1)) 7 b_refused, xI cy ((M 2)) 39 b_now, xI cy ((M 7)) 8 b_holds]) C hw hr hQ dX8_status_89
        · replace hf := if_f q7 hf
          by_cases q9 : x1 = (3 : Int32)
          · replace hf := if_t q9 hf
            refine zk_tabIn (pc := 27) (off := 53) (tgt := 80) q9 C dX8_status_27 (by decide) (by decide) (by decide +kernel) (by decide) ?_
            refine lv_aload_n (pc := 80) hx hb dX8_status_80 rfl (lv_at hl 1 rfl) ?_
            refine zk_gt (pc := 81) C hw zl_X8_17 0 rfl rfl dX8_status_81 ?_
            refine lv_bipush (pc := 84) (v := 32) hx hb dX8_status_84 (by decide) ?_
            refine lv_iload_n (pc := 86) hx hb dX8_status_86 rfl (lv_at hl 2 rfl) ?_
            refine lv_iadd (pc := 87) hx hb dX8_status_87 ?_
            obtain ⟨q10, hf⟩ := ck hf
            refine zk_iald (pc := 88) C hw 2 rfl q10 dX8_status_88 ?_
            have hf := Option.some.inj hf
            subst hf
            exact zk_reti (pc := 89) (ww := [xM M b_isKept b_size b_at b_from b_sort b_fled b_flights b_firstFlight b_bestHarms b_bestRage b_harmed b_raged, xI cy ((M 1)) 7 b_refused, xI cy ((M 2)) 39 b_now, xI cy ((M 7)) 8 b_holds]) C hw hr hQ dX8_status_89
          · replace hf := if_f q9 hf
            by_cases q11 : x1 = (4 : Int32)
            · replace hf := if_t q11 hf
              refine zk_tabIn (pc := 27) (off := 53) (tgt := 80) q11 C dX8_status_27 (by decide) (by decide) (by decide +kernel) (by decide) ?_
              refine lv_aload_n (pc := 80) hx hb dX8_status_80 rfl (lv_at hl 1 rfl) ?_
              refine zk_gt (pc := 81) C hw zl_X8_17 0 rfl rfl dX8_status_81 ?_
              refine lv_bipush (pc := 84) (v := 32) hx hb dX8_status_84 (by decide) ?_
              refine lv_iload_n (pc := 86) hx hb dX8_status_86 rfl (lv_at hl 2 rfl) ?_
              refine lv_iadd (pc := 87) hx hb dX8_status_87 ?_
              obtain ⟨q12, hf⟩ := ck hf
              refine zk_iald (pc := 88) C hw 2 rfl q12 dX8_status_88 ?_
              have hf := Option.some.inj hf
              subst hf
              exact zk_reti (pc := 89) (ww := [xM M b_isKept b_size b_at b_from b_sort b_fled b_flights b_firstFlight b_bestHarms b_bestRage b_harmed b_raged, xI cy ((M 1)) 7 b_refused, xI cy ((M 2)) 39 b_now, xI cy ((M 7)) 8 b_holds]) C hw hr hQ dX8_status_89
            · replace hf := if_f q11 hf
              by_cases q13 : x1 = (5 : Int32)
              · replace hf := if_t q13 hf
                refine zk_tabIn (pc := 27) (off := 53) (tgt := 80) q13 C dX8_status_27 (by decide) (by decide) (by decide +kernel) (by decide) ?_
                refine lv_aload_n (pc := 80) hx hb dX8_status_80 rfl (lv_at hl 1 rfl) ?_
                refine zk_gt (pc := 81) C hw zl_X8_17 0 rfl rfl dX8_status_81 ?_
                refine lv_bipush (pc := 84) (v := 32) hx hb dX8_status_84 (by decide) ?_
                refine lv_iload_n (pc := 86) hx hb dX8_status_86 rfl (lv_at hl 2 rfl) ?_
                refine lv_iadd (pc := 87) hx hb dX8_status_87 ?_
                obtain ⟨q14, hf⟩ := ck hf
                refine zk_iald (pc := 88) C hw 2 rfl q14 dX8_status_88 ?_
                have hf := Option.some.inj hf
                subst hf
                exact zk_reti (pc := 89) (ww := [xM M b_isKept b_size b_at b_from b_sort b_fled b_flights b_firstFlight b_bestHarms b_bestRage b_harmed b_raged, xI cy ((M 1)) 7 b_refused, xI cy ((M 2)) 39 b_now, xI cy ((M 7)) 8 b_holds]) C hw hr hQ dX8_status_89
              · replace hf := if_f q13 hf
                by_cases q15 : x1 = (6 : Int32)
                · replace hf := if_t q15 hf
                  refine zk_tabIn (pc := 27) (off := 63) (tgt := 90) q15 C dX8_status_27 (by decide) (by decide) (by decide +kernel) (by decide) ?_
                  refine lv_iconst (pc := 90) (v := 0) hx hb dX8_status_90 (by decide) ?_
                  refine lv_istore_n (pc := 91) (lv' := [(3, .int ((0 : Int32))), (2, .int ((0 : Int32))), (0, .ref ((M 0))), (1, .int x1)]) hx hb dX8_status_91 rfl hl (by decide) rfl (fun ls hl => ?_)
                  exact J92 FU ((0 : Int32)) ((0 : Int32)) _ _ _ hf hw (lv_sub hl [2, 1, 0] rfl)
                · replace hf := if_f q15 hf
                  by_cases q16 : x1 = (7 : Int32)
                  · replace hf := if_t q16 hf
                    refine zk_tabIn (pc := 27) (off := 94) (tgt := 121) q16 C dX8_status_27 (by decide) (by decide) (by decide +kernel) (by decide) ?_
                    refine lv_aload_n (pc := 121) hx hb dX8_status_121 rfl (lv_at hl 1 rfl) ?_
                    refine zk_gt (pc := 122) C hw zl_X8_109 0 rfl rfl dX8_status_122 ?_
                    have hf := Option.some.inj hf
                    subst hf
                    exact zk_reti (pc := 125) (ww := [xM M b_isKept b_size b_at b_from b_sort b_fled b_flights b_firstFlight b_bestHarms b_bestRage b_harmed b_raged, xI cy ((M 1)) 7 b_refused, xI cy ((M 2)) 39 b_now, xI cy ((M 7)) 8 b_holds]) C hw hr hQ dX8_status_125
                  · replace hf := if_f q16 hf
                    by_cases q17 : x1 = (8 : Int32)
                    · replace hf := if_t q17 hf
                      refine zk_tabIn (pc := 27) (off := 99) (tgt := 126) q17 C dX8_status_27 (by decide) (by decide) (by decide +kernel) (by decide) ?_
                      refine lv_aload_n (pc := 126) hx hb dX8_status_126 rfl (lv_at hl 1 rfl) ?_
                      refine zk_gt (pc := 127) C hw zl_X8_17 0 rfl rfl dX8_status_127 ?_
                      refine lv_bipush (pc := 130) (v := 38) hx hb dX8_status_130 (by decide) ?_
                      refine zk_ialdK (pc := 132) 38 (by decide) C hw 2 rfl (by decide) dX8_status_132 ?_
                      have hf := Option.some.inj hf
                      subst hf
                      exact zk_reti (pc := 133) (ww := [xM M b_isKept b_size b_at b_from b_sort b_fled b_flights b_firstFlight b_bestHarms b_bestRage b_harmed b_raged, xI cy ((M 1)) 7 b_refused, xI cy ((M 2)) 39 b_now, xI cy ((M 7)) 8 b_holds]) C hw hr hQ dX8_status_133
                    · replace hf := if_f q17 hf
                      by_cases q18 : x1 = (9 : Int32)
                      · replace hf := if_t q18 hf
                        refine zk_tabIn (pc := 27) (off := 107) (tgt := 134) q18 C dX8_status_27 (by decide) (by decide) (by decide +kernel) (by decide) ?_
                        refine lv_iconst (pc := 134) (v := 0) hx hb dX8_status_134 (by decide) ?_
                        refine lv_istore_n (pc := 135) (lv' := [(3, .int ((0 : Int32))), (2, .int ((0 : Int32))), (0, .ref ((M 0))), (1, .int x1)]) hx hb dX8_status_135 rfl hl (by decide) rfl (fun ls hl => ?_)
                        exact J136 FU ((0 : Int32)) ((0 : Int32)) _ _ _ hf hw (lv_sub hl [2, 1, 0] rfl)
                      · replace hf := if_f q18 hf
                        have eq3 := i32_ne (n := 0) (by decide) q3
                        have eq5 := i32_ne (n := 1) (by decide) q5
                        have eq7 := i32_ne (n := 2) (by decide) q7
                        have eq9 := i32_ne (n := 3) (by decide) q9
                        have eq11 := i32_ne (n := 4) (by decide) q11
                        have eq13 := i32_ne (n := 5) (by decide) q13
                        have eq15 := i32_ne (n := 6) (by decide) q15
                        have eq16 := i32_ne (n := 7) (by decide) q16
                        have eq17 := i32_ne (n := 8) (by decide) q17
                        have eq18 := i32_ne (n := 9) (by decide) q18
                        refine lv_tableOut (pc := 27) (tgt := 168) hx hb dX8_status_27 (by omega) (by decide) ?_
                        refine lv_iconst (pc := 168) (v := -1) hx hb dX8_status_168 (by decide) ?_
                        have hf := Option.some.inj hf
                        subst hf
                        exact zk_reti (pc := 169) (ww := [xM M b_isKept b_size b_at b_from b_sort b_fled b_flights b_firstFlight b_bestHarms b_bestRage b_harmed b_raged, xI cy ((M 1)) 7 b_refused, xI cy ((M 2)) 39 b_now, xI cy ((M 7)) 8 b_holds]) C hw hr hQ dX8_status_169
  · replace hf := if_t q2 hf
    refine lv_aload_n (pc := 14) hx hb dX8_status_14 rfl (lv_at hl 0 rfl) ?_
    refine zk_gt (pc := 15) C hw zl_X8_7 0 rfl rfl dX8_status_15 ?_
    refine lv_iload_n (pc := 18) hx hb dX8_status_18 rfl (lv_at hl 1 rfl) ?_
    refine lv_bipush (pc := 19) (v := 10) hx hb dX8_status_19 (by decide) ?_
    refine lv_isub (pc := 21) hx hb dX8_status_21 ?_
    obtain ⟨q19, hf⟩ := ck hf
    refine zk_iald (pc := 22) C hw 1 rfl q19 dX8_status_22 ?_
    have hf := Option.some.inj hf
    subst hf
    exact zk_reti (pc := 23) (ww := [xM M b_isKept b_size b_at b_from b_sort b_fled b_flights b_firstFlight b_bestHarms b_bestRage b_harmed b_raged, xI cy ((M 1)) 7 b_refused, xI cy ((M 2)) 39 b_now, xI cy ((M 7)) 8 b_holds]) C hw hr hQ dX8_status_23
