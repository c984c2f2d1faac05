def zf_X0_exploreBy_l0_77 (b_p5 : TSt) (t0 : Int32) (t1 : Int32) (b_this : TSe) : Option (TSe) := (Option.bind (zf_X0_explore_l1 t1 t0 b_this b_p5) (fun u7 => some (u7)))
def zf_X0_exploreBy_l0 (x1 : Int32) (x3 : Int32) (x4 : Int32) (b_this : TSe) (b_p5 : TSt) : Option (TSe) := (if (0 : Int32) < 0 then some (b_this) else (if (0 : Int32) < (4 : Int32) then (Option.bind (zf_X5_become ((b_this.2.2.2.2.2 1)) ((b_this.2.2.2.2.2 0))) (fun u3 => (Option.bind (zf_X5_pass x1 u3 b_p5) (fun u4 => (if u4.2.2.2.2.2.2 = (-1 : Int32) then (if u4.2.2.2.2.2.1 then zf_X0_exploreBy_l0_77 b_p5 ((x4 + (1 : Int32))) x3 ((b_this.1, b_this.2.1, b_this.2.2.1, (upd b_this.2.2.2.1 0 x1), b_this.2.2.2.2.1, (va_up b_this.2.2.2.2.2 1 u4))) else zf_X0_exploreBy_l0_77 b_p5 x4 x3 ((b_this.1, b_this.2.1, b_this.2.2.1, (upd b_this.2.2.2.1 0 x1), b_this.2.2.2.2.1, (va_up b_this.2.2.2.2.2 1 u4)))) else some ((b_this.1, b_this.2.1, b_this.2.2.1, (upd b_this.2.2.2.1 0 x1), b_this.2.2.2.2.1, (va_up b_this.2.2.2.2.2 1 u4)))))))) else some (b_this)))
abbrev zr_X0_exploreBy_l0 : Room := { frames := 9, cells := 0, slots := 0, locals := 221 }
set_option maxHeartbeats 4000000 in
set_option maxRecDepth 100000 in
theorem c_X0_exploreBy_l0 (l : Launch) (G : va_G) (cy : Nat → ClassId) (tt : Nat → Nat) (a0 a1 a2 a3 a4 a5 a6 a7 a8 : Nat) (p5_0 p5_1 p5_2 p5_3 p5_4 : Nat) (x1 : Int32) (x3 : Int32) (x4 : Int32) (b_this : TSe) (b_p5 : TSt) (res : TSe) (hf : zf_X0_exploreBy_l0 x1 x3 x4 b_this b_p5 = some res) : zCT l yX0_exploreBy cX0_exploreBy 7 none zr_X0_exploreBy_l0 G cy tt [.ref a0, .int x1, .int ((0 : Int32)), .int x3, .int x4, .ref p5_0] [xSe a0 a1 a2 a3 b_this.1 b_this.2.1 b_this.2.2.1, xI cy a1 4 b_this.2.2.2.1, xI cy a2 4 b_this.2.2.2.2.1, xRT cy a3 5 (fun j => [some a4, some a5, some a6, some a7, some a8].getD j none), xTe a4 ((b_this.2.2.2.2.2 0)), xTe a5 ((b_this.2.2.2.2.2 1)), xTe a6 ((b_this.2.2.2.2.2 2)), xTe a7 ((b_this.2.2.2.2.2 3)), xTe a8 ((b_this.2.2.2.2.2 4)), xSt p5_0 p5_1 p5_2 p5_3 p5_4 b_p5.1, xI cy p5_1 8 b_p5.2.1, xI cy p5_2 8 b_p5.2.2.1, xI cy p5_3 8 b_p5.2.2.2.1, xI cy p5_4 8 b_p5.2.2.2.2] none [xSe a0 a1 a2 a3 res.1 res.2.1 res.2.2.1, xI cy a1 4 res.2.2.2.1, xI cy a2 4 res.2.2.2.2.1, xRT cy a3 5 (fun j => [some a4, some a5, some a6, some a7, some a8].getD j none), xTe a4 ((res.2.2.2.2.2 0)), xTe a5 ((res.2.2.2.2.2 1)), xTe a6 ((res.2.2.2.2.2 2)), xTe a7 ((res.2.2.2.2.2 3)), xTe a8 ((res.2.2.2.2.2 4)), xSt p5_0 p5_1 p5_2 p5_3 p5_4 b_p5.1, xI cy p5_1 8 b_p5.2.1, xI cy p5_2 8 b_p5.2.2.1, xI cy p5_3 8 b_p5.2.2.2.1, xI cy p5_4 8 b_p5.2.2.2.2] := by
  refine zk_start zn_X0 (Nat.le_of_ble_eq_true rfl) ?_
  intro p e s m args below meth c A ls Q C hr hQ hw hl
  have C : zCx p m c s args meth cX0_exploreBy 7 RX0 G cy tt A := C
  have hx := C.1.1
  have hb := C.1.2.1
  have hl : lv_has ls 7 [(0, .ref a0), (1, .int x1), (2, .int ((0 : Int32))), (3, .int x3), (4, .int x4), (5, .ref p5_0)] := hl
  have J77 : ∀ (t0 : Int32) (t1 : Int32) (b_this : TSe) (H : Heap) (locs : List Loc) (ls : Array Slot), zf_X0_exploreBy_l0_77 b_p5 t0 t1 b_this = some res → zWd G A s.heap H locs [xSe a0 a1 a2 a3 b_this.1 b_this.2.1 b_this.2.2.1, xI cy a1 4 b_this.2.2.2.1, xI cy a2 4 b_this.2.2.2.2.1, xRT cy a3 5 (fun j => [some a4, some a5, some a6, some a7, some a8].getD j none), xTe a4 ((b_this.2.2.2.2.2 0)), xTe a5 ((b_this.2.2.2.2.2 1)), xTe a6 ((b_this.2.2.2.2.2 2)), xTe a7 ((b_this.2.2.2.2.2 3)), xTe a8 ((b_this.2.2.2.2.2 4)), xSt p5_0 p5_1 p5_2 p5_3 p5_4 b_p5.1, xI cy p5_1 8 b_p5.2.1, xI cy p5_2 8 b_p5.2.2.1, xI cy p5_3 8 b_p5.2.2.2.1, xI cy p5_4 8 b_p5.2.2.2.2] → lv_has ls 7 [(5, .ref p5_0)] → W p l e zr_X0_exploreBy_l0 s m args below meth c H locs 0 0 Q (F0 m 77 ls [.int t0, .int t1, .int ((1 : Int32)), .ref a0]) := by
    intro t0 t1 b_this H locs ls hf hw hl
    rw [zf_X0_exploreBy_l0_77] at hf
    refine lv_aload (pc := 77) hx hb dX0_exploreBy_77 (lv_at hl 0 rfl) ?_
    obtain ⟨u7, u7e, hf⟩ := bd hf
    refine zk_cV (pc := 79) (ci := 0) (q0 := 0) (rest := []) (st1 := []) (w' := [xSe a0 a1 a2 a3 u7.1 u7.2.1 u7.2.2.1, xI cy a1 4 u7.2.2.2.1, xI cy a2 4 u7.2.2.2.2.1, xRT cy a3 5 (fun j => [some a4, some a5, some a6, some a7, some a8].getD j none), xTe a4 ((u7.2.2.2.2.2 0)), xTe a5 ((u7.2.2.2.2.2 1)), xTe a6 ((u7.2.2.2.2.2 2)), xTe a7 ((u7.2.2.2.2.2 3)), xTe a8 ((u7.2.2.2.2.2 4)), xSt p5_0 p5_1 p5_2 p5_3 p5_4 b_p5.1, xI cy p5_1 8 b_p5.2.1, xI cy p5_2 8 b_p5.2.2.1, xI cy p5_3 8 b_p5.2.2.2.1, xI cy p5_4 8 b_p5.2.2.2.2]) (mk := [some (xSe a0 a1 a2 a3 u7.1 u7.2.1 u7.2.2.1), some (xI cy a1 4 u7.2.2.2.1), some (xI cy a2 4 u7.2.2.2.2.1), none, some (xTe a4 ((u7.2.2.2.2.2 0))), some (xTe a5 ((u7.2.2.2.2.2 1))), some (xTe a6 ((u7.2.2.2.2.2 2))), some (xTe a7 ((u7.2.2.2.2.2 3))), some (xTe a8 ((u7.2.2.2.2.2 4))), none, none, none, none, none]) C hw (c_X0_explore_l1 l G cy tt a0 a1 a2 a3 a4 a5 a6 a7 a8 p5_0 p5_1 p5_2 p5_3 p5_4 t1 t0 b_this b_p5 _ u7e) zy_X0_explore zm_X0_40 rfl rfl rfl [0, 1, 2, 3, 4, 5, 6, 7, 8, 9, 10, 11, 12, 13] rfl rfl rfl rfl rfl rfl rfl rfl hl.1 ⟨rfl, rfl⟩ ⟨Nat.le_of_ble_eq_true rfl, Nat.le_of_ble_eq_true rfl⟩ rfl (Nat.le_of_ble_eq_true rfl) ⟨Nat.zero_le _, Nat.zero_le _⟩ dX0_exploreBy_79 (fun H locs hw => ?_)
    have hf := Option.some.inj hf
    subst hf
    exact zk_retv (pc := 82) (ww := [xSe a0 a1 a2 a3 u7.1 u7.2.1 u7.2.2.1, xI cy a1 4 u7.2.2.2.1, xI cy a2 4 u7.2.2.2.2.1, xRT cy a3 5 (fun j => [some a4, some a5, some a6, some a7, some a8].getD j none), xTe a4 ((u7.2.2.2.2.2 0)), xTe a5 ((u7.2.2.2.2.2 1)), xTe a6 ((u7.2.2.2.2.2 2)), xTe a7 ((u7.2.2.2.2.2 3)), xTe a8 ((u7.2.2.2.2.2 4)), xSt p5_0 p5_1 p5_2 p5_3 p5_4 b_p5.1, xI cy p5_1 8 b_p5.2.1, xI cy p5_2 8 b_p5.2.2.1, xI cy p5_3 8 b_p5.2.2.2.1, xI cy p5_4 8 b_p5.2.2.2.2]) C hw hr hQ dX0_exploreBy_82
  rw [zf_X0_exploreBy_l0] at hf
  refine lv_iload_n (pc := 0) hx hb dX0_exploreBy_0 rfl (lv_at hl 2 rfl) ?_
  refine lv_if_lt (pc := 1) (tgt := 9) hx hb dX0_exploreBy_1 (by decide) (fun q1 => ?_) (fun q1 => ?_)
  · replace hf := if_t q1 hf
    have hf := Option.some.inj hf
    subst hf
    exact zk_retv (pc := 9) (ww := [xSe a0 a1 a2 a3 b_this.1 b_this.2.1 b_this.2.2.1, xI cy a1 4 b_this.2.2.2.1, xI cy a2 4 b_this.2.2.2.2.1, xRT cy a3 5 (fun j => [some a4, some a5, some a6, some a7, some a8].getD j none), xTe a4 ((b_this.2.2.2.2.2 0)), xTe a5 ((b_this.2.2.2.2.2 1)), xTe a6 ((b_this.2.2.2.2.2 2)), xTe a7 ((b_this.2.2.2.2.2 3)), xTe a8 ((b_this.2.2.2.2.2 4)), xSt p5_0 p5_1 p5_2 p5_3 p5_4 b_p5.1, xI cy p5_1 8 b_p5.2.1, xI cy p5_2 8 b_p5.2.2.1, xI cy p5_3 8 b_p5.2.2.2.1, xI cy p5_4 8 b_p5.2.2.2.2]) C hw hr hQ dX0_exploreBy_9
  · replace hf := if_f q1 hf
    refine lv_iload_n (pc := 4) hx hb dX0_exploreBy_4 rfl (lv_at hl 2 rfl) ?_
    refine lv_iconst (pc := 5) (v := 4) hx hb dX0_exploreBy_5 (by decide) ?_
    refine lv_icmp_lt (pc := 6) (tgt := 10) hx hb dX0_exploreBy_6 (by decide) (fun q2 => ?_) (fun q2 => ?_)
    · replace hf := if_t q2 hf
      refine lv_aload_n (pc := 10) hx hb dX0_exploreBy_10 rfl (lv_at hl 0 rfl) ?_
      refine zk_gt (pc := 11) C hw zl_X0_32 0 rfl rfl dX0_exploreBy_11 ?_
      refine lv_iload_n (pc := 14) hx hb dX0_exploreBy_14 rfl (lv_at hl 2 rfl) ?_
      refine lv_iconst (pc := 15) (v := 1) hx hb dX0_exploreBy_15 (by decide) ?_
      refine lv_iadd (pc := 16) hx hb dX0_exploreBy_16 ?_
      refine zk_eqi (v := 1) (by decide) ?_
      refine zk_aaldT (pc := 17) (a' := a5) 1 (by decide) C hw 3 rfl (by decide) rfl dX0_exploreBy_17 ?_
      refine lv_astore (pc := 18) (lv' := [(6, .ref a5), (0, .ref a0), (1, .int x1), (2, .int ((0 : Int32))), (3, .int x3), (4, .int x4), (5, .ref p5_0)]) hx hb dX0_exploreBy_18 hl (by decide) rfl (fun ls hl => ?_)
      refine lv_aload_n (pc := 20) hx hb dX0_exploreBy_20 rfl (lv_at hl 1 rfl) ?_
      refine zk_gt (pc := 21) C hw zl_X0_22 0 rfl rfl dX0_exploreBy_21 ?_
      refine lv_iload_n (pc := 24) hx hb dX0_exploreBy_24 rfl (lv_at hl 3 rfl) ?_
      refine lv_iload_n (pc := 25) hx hb dX0_exploreBy_25 rfl (lv_at hl 2 rfl) ?_
      refine zk_iastK (pc := 26) (w' := [xSe a0 a1 a2 a3 b_this.1 b_this.2.1 b_this.2.2.1, xI cy a1 4 ((upd b_this.2.2.2.1 0 x1)), xI cy a2 4 b_this.2.2.2.2.1, xRT cy a3 5 (fun j => [some a4, some a5, some a6, some a7, some a8].getD j none), xTe a4 ((b_this.2.2.2.2.2 0)), xTe a5 ((b_this.2.2.2.2.2 1)), xTe a6 ((b_this.2.2.2.2.2 2)), xTe a7 ((b_this.2.2.2.2.2 3)), xTe a8 ((b_this.2.2.2.2.2 4)), xSt p5_0 p5_1 p5_2 p5_3 p5_4 b_p5.1, xI cy p5_1 8 b_p5.2.1, xI cy p5_2 8 b_p5.2.2.1, xI cy p5_3 8 b_p5.2.2.2.1, xI cy p5_4 8 b_p5.2.2.2.2]) 0 (by decide) C hw 1 rfl (by decide) rfl dX0_exploreBy_26 (fun H locs hw => ?_)
      refine lv_aload (pc := 27) hx hb dX0_exploreBy_27 (lv_at hl 0 rfl) ?_
      refine lv_aload_n (pc := 29) hx hb dX0_exploreBy_29 rfl (lv_at hl 1 rfl) ?_
      refine zk_gt (pc := 30) C hw zl_X0_32 0 rfl rfl dX0_exploreBy_30 ?_
      refine lv_iload_n (pc := 33) hx hb dX0_exploreBy_33 rfl (lv_at hl 3 rfl) ?_
      refine zk_aaldT (pc := 34) (a' := a4) 0 (by decide) C hw 3 rfl (by decide) rfl dX0_exploreBy_34 ?_
      obtain ⟨u3, u3e, hf⟩ := bd hf
      refine zk_cV (pc := 35) (ci := 5) (q0 := 5) (rest := []) (st1 := []) (w' := [xSe a0 a1 a2 a3 b_this.1 b_this.2.1 b_this.2.2.1, xI cy a1 4 ((upd b_this.2.2.2.1 0 x1)), xI cy a2 4 b_this.2.2.2.2.1, xRT cy a3 5 (fun j => [some a4, some a5, some a6, some a7, some a8].getD j none), xTe a4 ((b_this.2.2.2.2.2 0)), xTe a5 u3, xTe a6 ((b_this.2.2.2.2.2 2)), xTe a7 ((b_this.2.2.2.2.2 3)), xTe a8 ((b_this.2.2.2.2.2 4)), xSt p5_0 p5_1 p5_2 p5_3 p5_4 b_p5.1, xI cy p5_1 8 b_p5.2.1, xI cy p5_2 8 b_p5.2.2.1, xI cy p5_3 8 b_p5.2.2.2.1, xI cy p5_4 8 b_p5.2.2.2.2]) (mk := [none, none, none, none, some (xTe a4 ((b_this.2.2.2.2.2 0))), some (xTe a5 u3), none, none, none, none, none, none, none, none]) C hw (c_X5_become l G cy tt a5 a4 ((b_this.2.2.2.2.2 1)) ((b_this.2.2.2.2.2 0)) _ u3e) zy_X5_become zm_X0_36 rfl rfl rfl [5, 4] rfl rfl rfl rfl rfl rfl rfl rfl hl.1 ⟨rfl, rfl⟩ ⟨Nat.le_of_ble_eq_true rfl, Nat.le_of_ble_eq_true rfl⟩ rfl (Nat.le_of_ble_eq_true rfl) ⟨Nat.zero_le _, Nat.zero_le _⟩ dX0_exploreBy_35 (fun H locs hw => ?_)
      refine lv_aload (pc := 38) hx hb dX0_exploreBy_38 (lv_at hl 0 rfl) ?_
      refine lv_iload_n (pc := 40) hx hb dX0_exploreBy_40 rfl (lv_at hl 2 rfl) ?_
      refine lv_aload (pc := 41) hx hb dX0_exploreBy_41 (lv_at hl 6 rfl) ?_
      obtain ⟨u4, u4e, hf⟩ := bd hf
      refine zk_cV (pc := 43) (ci := 5) (q0 := 5) (rest := []) (st1 := []) (w' := [xSe a0 a1 a2 a3 b_this.1 b_this.2.1 b_this.2.2.1, xI cy a1 4 ((upd b_this.2.2.2.1 0 x1)), xI cy a2 4 b_this.2.2.2.2.1, xRT cy a3 5 (fun j => [some a4, some a5, some a6, some a7, some a8].getD j none), xTe a4 ((b_this.2.2.2.2.2 0)), xTe a5 u4, xTe a6 ((b_this.2.2.2.2.2 2)), xTe a7 ((b_this.2.2.2.2.2 3)), xTe a8 ((b_this.2.2.2.2.2 4)), xSt p5_0 p5_1 p5_2 p5_3 p5_4 b_p5.1, xI cy p5_1 8 b_p5.2.1, xI cy p5_2 8 b_p5.2.2.1, xI cy p5_3 8 b_p5.2.2.2.1, xI cy p5_4 8 b_p5.2.2.2.2]) (mk := [none, none, none, none, none, some (xTe a5 u4), none, none, none, none, none, none, none, none]) C hw (c_X5_pass l G cy tt a5 p5_0 p5_1 p5_2 p5_3 p5_4 x1 u3 b_p5 _ u4e) zy_X5_pass zm_X0_61 rfl rfl rfl [5, 9, 10, 11, 12, 13] rfl rfl rfl rfl rfl rfl rfl rfl hl.1 ⟨rfl, rfl⟩ ⟨Nat.le_of_ble_eq_true rfl, Nat.le_of_ble_eq_true rfl⟩ rfl (Nat.le_of_ble_eq_true rfl) ⟨Nat.zero_le _, Nat.zero_le _⟩ dX0_exploreBy_43 (fun H locs hw => ?_)
      refine lv_aload (pc := 46) hx hb dX0_exploreBy_46 (lv_at hl 0 rfl) ?_
      refine zk_gt (pc := 48) C hw zl_X0_65 5 rfl rfl dX0_exploreBy_48 ?_
      refine lv_iconst (pc := 51) (v := -1) hx hb dX0_exploreBy_51 (by decide) ?_
      refine lv_icmp_ne (pc := 52) (tgt := 82) hx hb dX0_exploreBy_52 (by decide) (fun q5 => ?_) (fun q5 => ?_)
      · replace hf := if_f q5 hf
        have hf := Option.some.inj hf
        subst hf
        exact zk_retv (pc := 82) (ww := [xSe a0 a1 a2 a3 b_this.1 b_this.2.1 b_this.2.2.1, xI cy a1 4 ((upd b_this.2.2.2.1 0 x1)), xI cy a2 4 b_this.2.2.2.2.1, xRT cy a3 5 (fun j => [some a4, some a5, some a6, some a7, some a8].getD j none), xTe a4 ((b_this.2.2.2.2.2 0)), xTe a5 u4, xTe a6 ((b_this.2.2.2.2.2 2)), xTe a7 ((b_this.2.2.2.2.2 3)), xTe a8 ((b_this.2.2.2.2.2 4)), xSt p5_0 p5_1 p5_2 p5_3 p5_4 b_p5.1, xI cy p5_1 8 b_p5.2.1, xI cy p5_2 8 b_p5.2.2.1, xI cy p5_3 8 b_p5.2.2.2.1, xI cy p5_4 8 b_p5.2.2.2.2]) C hw hr hQ dX0_exploreBy_82
      · replace hf := if_t q5 hf
        refine lv_aload_n (pc := 55) hx hb dX0_exploreBy_55 rfl (lv_at hl 1 rfl) ?_
        refine lv_iload_n (pc := 56) hx hb dX0_exploreBy_56 rfl (lv_at hl 3 rfl) ?_
        refine lv_iconst (pc := 57) (v := 1) hx hb dX0_exploreBy_57 (by decide) ?_
        refine lv_iadd (pc := 58) hx hb dX0_exploreBy_58 ?_
        refine zk_eqi (v := 1) (by decide) ?_
        refine lv_iload_n (pc := 59) hx hb dX0_exploreBy_59 rfl (lv_at hl 4 rfl) ?_
        refine lv_aload (pc := 60) hx hb dX0_exploreBy_60 (lv_at hl 0 rfl) ?_
        refine zk_gt (pc := 62) C hw zl_X0_68 5 rfl rfl dX0_exploreBy_62 ?_
        refine zk_ifz (pc := 65) (tgt := 75) hx hb dX0_exploreBy_65 (by decide) (fun q6 => ?_) (fun q6 => ?_)
        · replace hf := if_f q6 hf
          refine lv_iload (pc := 75) hx hb dX0_exploreBy_75 (lv_at hl 5 rfl) ?_
          exact J77 x4 x3 ((b_this.1, b_this.2.1, b_this.2.2.1, (upd b_this.2.2.2.1 0 x1), b_this.2.2.2.2.1, (va_up b_this.2.2.2.2.2 1 u4))) _ _ _ hf hw (lv_sub hl [6] rfl)
        · replace hf := if_t q6 hf
          refine lv_iload (pc := 68) hx hb dX0_exploreBy_68 (lv_at hl 5 rfl) ?_
          refine lv_iconst (pc := 70) (v := 1) hx hb dX0_exploreBy_70 (by decide) ?_
          refine lv_iadd (pc := 71) hx hb dX0_exploreBy_71 ?_
          refine lv_goto (pc := 72) (tgt := 77) hx hb dX0_exploreBy_72 (by decide) ?_
          exact J77 ((x4 + (1 : Int32))) x3 ((b_this.1, b_this.2.1, b_this.2.2.1, (upd b_this.2.2.2.1 0 x1), b_this.2.2.2.2.1, (va_up b_this.2.2.2.2.2 1 u4))) _ _ _ hf hw (lv_sub hl [6] rfl)
    · replace hf := if_f q2 hf
      have hf := Option.some.inj hf
      subst hf
      exact zk_retv (pc := 9) (ww := [xSe a0 a1 a2 a3 b_this.1 b_this.2.1 b_this.2.2.1, xI cy a1 4 b_this.2.2.2.1, xI cy a2 4 b_this.2.2.2.2.1, xRT cy a3 5 (fun j => [some a4, some a5, some a6, some a7, some a8].getD j none), xTe a4 ((b_this.2.2.2.2.2 0)), xTe a5 ((b_this.2.2.2.2.2 1)), xTe a6 ((b_this.2.2.2.2.2 2)), xTe a7 ((b_this.2.2.2.2.2 3)), xTe a8 ((b_this.2.2.2.2.2 4)), xSt p5_0 p5_1 p5_2 p5_3 p5_4 b_p5.1, xI cy p5_1 8 b_p5.2.1, xI cy p5_2 8 b_p5.2.2.1, xI cy p5_3 8 b_p5.2.2.2.1, xI cy p5_4 8 b_p5.2.2.2.2]) C hw hr hQ dX0_exploreBy_9
def zf_X0_explore_l0_32 (b_p4 : TSt) : Nat → Int32 → Int32 → Int32 → TSe → Option (TSe)
  | 0, _, _, _, _ => none
  | n + 1, v2, v3, v5, b_this => (if (b_p4.1 + (2 : Int32)) ≤ v5 then some (b_this) else (Option.bind (zf_X2_orderAt v5 b_p4) (fun u6 => (Option.bind (zf_X0_exploreBy_l0 u6 v2 v3 b_this b_p4) (fun u7 => zf_X0_explore_l0_32 b_p4 n v2 v3 ((v5 + 1)) u7)))))
def zf_X0_explore_l0_16 (b_p4 : TSt) (v2 : Int32) (v3 : Int32) (b_this : TSe) : Option (TSe) := (if (0 : Int32) < v2 then zf_X0_explore_l0_32 b_p4 FU v2 v3 ((0 : Int32)) b_this else (Option.bind (zf_X0_compare_l0 v2 v3 b_this) (fun u4 => some (u4))))
def zf_X0_explore_l0 (x2 : Int32) (x3 : Int32) (b_this : TSe) (b_p4 : TSt) : Option (TSe) := (if b_this.2.2.1 then (if x3 ≤ b_this.1 then zf_X0_explore_l0_16 b_p4 x2 x3 b_this else some (b_this)) else zf_X0_explore_l0_16 b_p4 x2 x3 b_this)
abbrev zr_X0_explore_l0 : Room := { frames := 10, cells := 0, slots := 0, locals := 247 }
set_option maxHeartbeats 4000000 in
set_option maxRecDepth 100000 in
theorem c_X0_explore_l0 (l : Launch) (G : va_G) (cy : Nat → ClassId) (tt : Nat → Nat) (a0 a1 a2 a3 a4 a5 a6 a7 a8 : Nat) (p4_0 p4_1 p4_2 p4_3 p4_4 : Nat) (x2 : Int32) (x3 : Int32) (b_this : TSe) (b_p4 : TSt) (res : TSe) (hf : zf_X0_explore_l0 x2 x3 b_this b_p4 = some res) : zCT l yX0_explore cX0_explore 6 none zr_X0_explore_l0 G cy tt [.ref a0, .int ((0 : Int32)), .int x2, .int x3, .ref p4_0] [xSe a0 a1 a2 a3 b_this.1 b_this.2.1 b_this.2.2.1, xI cy a1 4 b_this.2.2.2.1, xI cy a2 4 b_this.2.2.2.2.1, xRT cy a3 5 (fun j => [some a4, some a5, some a6, some a7, some a8].getD j none), xTe a4 ((b_this.2.2.2.2.2 0)), xTe a5 ((b_this.2.2.2.2.2 1)), xTe a6 ((b_this.2.2.2.2.2 2)), xTe a7 ((b_this.2.2.2.2.2 3)), xTe a8 ((b_this.2.2.2.2.2 4)), xSt p4_0 p4_1 p4_2 p4_3 p4_4 b_p4.1, xI cy p4_1 8 b_p4.2.1, xI cy p4_2 8 b_p4.2.2.1, xI cy p4_3 8 b_p4.2.2.2.1, xI cy p4_4 8 b_p4.2.2.2.2] none [xSe a0 a1 a2 a3 res.1 res.2.1 res.2.2.1, xI cy a1 4 res.2.2.2.1, xI cy a2 4 res.2.2.2.2.1, xRT cy a3 5 (fun j => [some a4, some a5, some a6, some a7, some a8].getD j none), xTe a4 ((res.2.2.2.2.2 0)), xTe a5 ((res.2.2.2.2.2 1)), xTe a6 ((res.2.2.2.2.2 2)), xTe a7 ((res.2.2.2.2.2 3)), xTe a8 ((res.2.2.2.2.2 4)), xSt p4_0 p4_1 p4_2 p4_3 p4_4 b_p4.1, xI cy p4_1 8 b_p4.2.1, xI cy p4_2 8 b_p4.2.2.1, xI cy p4_3 8 b_p4.2.2.2.1, xI cy p4_4 8 b_p4.2.2.2.2] := by
  refine zk_start zn_X0 (Nat.le_of_ble_eq_true rfl) ?_
  intro p e s m args below meth c A ls Q C hr hQ hw hl
  have C : zCx p m c s args meth cX0_explore 6 RX0 G cy tt A := C
  have hx := C.1.1
  have hb := C.1.2.1
  have hl : lv_has ls 6 [(0, .ref a0), (1, .int ((0 : Int32))), (2, .int x2), (3, .int x3), (4, .ref p4_0)] := hl
  have J32 : ∀ (n : Nat), ∀ (v2 : Int32) (v3 : Int32) (v5 : Int32) (b_this : TSe) (H : Heap) (locs : List Loc) (ls : Array Slot), zf_X0_explore_l0_32 b_p4 n v2 v3 v5 b_this = some res → zWd G A s.heap H locs [xSe a0 a1 a2 a3 b_this.1 b_this.2.1 b_this.2.2.1, xI cy a1 4 b_this.2.2.2.1, xI cy a2 4 b_this.2.2.2.2.1, xRT cy a3 5 (fun j => [some a4, some a5, some a6, some a7, some a8].getD j none), xTe a4 ((b_this.2.2.2.2.2 0)), xTe a5 ((b_this.2.2.2.2.2 1)), xTe a6 ((b_this.2.2.2.2.2 2)), xTe a7 ((b_this.2.2.2.2.2 3)), xTe a8 ((b_this.2.2.2.2.2 4)), xSt p4_0 p4_1 p4_2 p4_3 p4_4 b_p4.1, xI cy p4_1 8 b_p4.2.1, xI cy p4_2 8 b_p4.2.2.1, xI cy p4_3 8 b_p4.2.2.2.1, xI cy p4_4 8 b_p4.2.2.2.2] → lv_has ls 6 [(0, .ref a0), (1, .int ((0 : Int32))), (2, .int v2), (3, .int v3), (4, .ref p4_0), (5, .int v5)] → W p l e zr_X0_explore_l0 s m args below meth c H locs 0 0 Q (F0 m 32 ls []) := by
    intro n
    induction n with
    | zero =>
      intro v2 v3 v5 b_this H locs ls hf hw hl
      rw [zf_X0_explore_l0_32] at hf
      cases hf
    | succ n ih =>
      intro v2 v3 v5 b_this H locs ls hf hw hl
      rw [zf_X0_explore_l0_32] at hf
      refine lv_iload (pc := 32) hx hb dX0_explore_32 (lv_at hl 5 rfl) ?_
      refine lv_aload (pc := 34) hx hb dX0_explore_34 (lv_at hl 4 rfl) ?_
      refine zk_gt (pc := 36) C hw zl_X0_48 9 rfl rfl dX0_explore_36 ?_
      refine lv_iconst (pc := 39) (v := 2) hx hb dX0_explore_39 (by decide) ?_
      refine lv_iadd (pc := 40) hx hb dX0_explore_40 ?_
      refine lv_icmp_ge (pc := 41) (tgt := 66) hx hb dX0_explore_41 (by decide) (fun q5 => ?_) (fun q5 => ?_)
      · replace hf := if_t q5 hf
        have hf := Option.some.inj hf
        subst hf
        exact zk_retv (pc := 66) (ww := [xSe a0 a1 a2 a3 b_this.1 b_this.2.1 b_this.2.2.1, xI cy a1 4 b_this.2.2.2.1, xI cy a2 4 b_this.2.2.2.2.1, xRT cy a3 5 (fun j => [some a4, some a5, some a6, some a7, some a8].getD j none), xTe a4 ((b_this.2.2.2.2.2 0)), xTe a5 ((b_this.2.2.2.2.2 1)), xTe a6 ((b_this.2.2.2.2.2 2)), xTe a7 ((b_this.2.2.2.2.2 3)), xTe a8 ((b_this.2.2.2.2.2 4)), xSt p4_0 p4_1 p4_2 p4_3 p4_4 b_p4.1, xI cy p4_1 8 b_p4.2.1, xI cy p4_2 8 b_p4.2.2.1, xI cy p4_3 8 b_p4.2.2.2.1, xI cy p4_4 8 b_p4.2.2.2.2]) C hw hr hQ dX0_explore_66
      · replace hf := if_f q5 hf
        refine lv_aload_n (pc := 44) hx hb dX0_explore_44 rfl (lv_at hl 0 rfl) ?_
        refine lv_aload (pc := 45) hx hb dX0_explore_45 (lv_at hl 4 rfl) ?_
        refine lv_iload (pc := 47) hx hb dX0_explore_47 (lv_at hl 5 rfl) ?_
        obtain ⟨u6, u6e, hf⟩ := bd hf
        refine zk_cV (pc := 49) (ci := 2) (q0 := 9) (rest := [.ref a0]) (st1 := [.int u6, .ref a0]) (w' := [xSe a0 a1 a2 a3 b_this.1 b_this.2.1 b_this.2.2.1, xI cy a1 4 b_this.2.2.2.1, xI cy a2 4 b_this.2.2.2.2.1, xRT cy a3 5 (fun j => [some a4, some a5, some a6, some a7, some a8].getD j none), xTe a4 ((b_this.2.2.2.2.2 0)), xTe a5 ((b_this.2.2.2.2.2 1)), xTe a6 ((b_this.2.2.2.2.2 2)), xTe a7 ((b_this.2.2.2.2.2 3)), xTe a8 ((b_this.2.2.2.2.2 4)), xSt p4_0 p4_1 p4_2 p4_3 p4_4 b_p4.1, xI cy p4_1 8 b_p4.2.1, xI cy p4_2 8 b_p4.2.2.1, xI cy p4_3 8 b_p4.2.2.2.1, xI cy p4_4 8 b_p4.2.2.2.2]) (mk := [none, none, none, none, none, none, none, none, none, none, none, none, none, none]) C hw (c_X2_orderAt l G cy tt p4_0 p4_1 p4_2 p4_3 p4_4 v5 b_p4 _ u6e) zy_X2_orderAt zm_X0_53 rfl rfl rfl [9, 10, 11, 12, 13] rfl rfl rfl rfl rfl rfl rfl rfl hl.1 ⟨rfl, rfl⟩ ⟨Nat.le_of_ble_eq_true rfl, Nat.le_of_ble_eq_true rfl⟩ rfl (Nat.le_of_ble_eq_true rfl) ⟨Nat.zero_le _, Nat.zero_le _⟩ dX0_explore_49 (fun H locs hw => ?_)
        refine lv_iload_n (pc := 52) hx hb dX0_explore_52 rfl (lv_at hl 1 rfl) ?_
        refine lv_iload_n (pc := 53) hx hb dX0_explore_53 rfl (lv_at hl 2 rfl) ?_
        refine lv_iload_n (pc := 54) hx hb dX0_explore_54 rfl (lv_at hl 3 rfl) ?_
        refine lv_aload (pc := 55) hx hb dX0_explore_55 (lv_at hl 4 rfl) ?_
        obtain ⟨u7, u7e, hf⟩ := bd hf
        refine zk_cV (pc := 57) (ci := 0) (q0 := 0) (rest := []) (st1 := []) (w' := [xSe a0 a1 a2 a3 u7.1 u7.2.1 u7.2.2.1, xI cy a1 4 u7.2.2.2.1, xI cy a2 4 u7.2.2.2.2.1, xRT cy a3 5 (fun j => [some a4, some a5, some a6, some a7, some a8].getD j none), xTe a4 ((u7.2.2.2.2.2 0)), xTe a5 ((u7.2.2.2.2.2 1)), xTe a6 ((u7.2.2.2.2.2 2)), xTe a7 ((u7.2.2.2.2.2 3)), xTe a8 ((u7.2.2.2.2.2 4)), xSt p4_0 p4_1 p4_2 p4_3 p4_4 b_p4.1, xI cy p4_1 8 b_p4.2.1, xI cy p4_2 8 b_p4.2.2.1, xI cy p4_3 8 b_p4.2.2.2.1, xI cy p4_4 8 b_p4.2.2.2.2]) (mk := [some (xSe a0 a1 a2 a3 u7.1 u7.2.1 u7.2.2.1), some (xI cy a1 4 u7.2.2.2.1), some (xI cy a2 4 u7.2.2.2.2.1), none, some (xTe a4 ((u7.2.2.2.2.2 0))), some (xTe a5 ((u7.2.2.2.2.2 1))), some (xTe a6 ((u7.2.2.2.2.2 2))), some (xTe a7 ((u7.2.2.2.2.2 3))), some (xTe a8 ((u7.2.2.2.2.2 4))), none, none, none, none, none]) C hw (c_X0_exploreBy_l0 l G cy tt a0 a1 a2 a3 a4 a5 a6 a7 a8 p4_0 p4_1 p4_2 p4_3 p4_4 u6 v2 v3 b_this b_p4 _ u7e) zy_X0_exploreBy zm_X0_57 rfl rfl rfl [0, 1, 2, 3, 4, 5, 6, 7, 8, 9, 10, 11, 12, 13] rfl rfl rfl rfl rfl rfl rfl rfl hl.1 ⟨rfl, rfl⟩ ⟨Nat.le_of_ble_eq_true rfl, Nat.le_of_ble_eq_true rfl⟩ rfl (Nat.le_of_ble_eq_true rfl) ⟨Nat.zero_le _, Nat.zero_le _⟩ dX0_explore_57 (fun H locs hw => ?_)
        refine lv_iinc (pc := 60) (v := (v5 + 1)) (lv' := [(5, .int ((v5 + 1))), (0, .ref a0), (1, .int ((0 : Int32))), (2, .int v2), (3, .int v3), (4, .ref p4_0)]) hx hb dX0_explore_60 hl (k := 5) rfl rfl (by decide) rfl (fun ls hl => ?_)
        refine lv_goto (pc := 63) (tgt := 32) hx hb dX0_explore_63 (by decide) ?_
        exact ih v2 v3 ((v5 + 1)) u7 _ _ _ hf hw (lv_sub hl [1, 2, 3, 4, 5, 0] rfl)
  have J16 : ∀ (v2 : Int32) (v3 : Int32) (b_this : TSe) (H : Heap) (locs : List Loc) (ls : Array Slot), zf_X0_explore_l0_16 b_p4 v2 v3 b_this = some res → zWd G A s.heap H locs [xSe a0 a1 a2 a3 b_this.1 b_this.2.1 b_this.2.2.1, xI cy a1 4 b_this.2.2.2.1, xI cy a2 4 b_this.2.2.2.2.1, xRT cy a3 5 (fun j => [some a4, some a5, some a6, some a7, some a8].getD j none), xTe a4 ((b_this.2.2.2.2.2 0)), xTe a5 ((b_this.2.2.2.2.2 1)), xTe a6 ((b_this.2.2.2.2.2 2)), xTe a7 ((b_this.2.2.2.2.2 3)), xTe a8 ((b_this.2.2.2.2.2 4)), xSt p4_0 p4_1 p4_2 p4_3 p4_4 b_p4.1, xI cy p4_1 8 b_p4.2.1, xI cy p4_2 8 b_p4.2.2.1, xI cy p4_3 8 b_p4.2.2.2.1, xI cy p4_4 8 b_p4.2.2.2.2] → lv_has ls 6 [(0, .ref a0), (1, .int ((0 : Int32))), (2, .int v2), (3, .int v3), (4, .ref p4_0)] → W p l e zr_X0_explore_l0 s m args below meth c H locs 0 0 Q (F0 m 16 ls []) := by
    intro v2 v3 b_this H locs ls hf hw hl
    rw [zf_X0_explore_l0_16] at hf
    refine lv_iload_n (pc := 16) hx hb dX0_explore_16 rfl (lv_at hl 1 rfl) ?_
    refine lv_iload_n (pc := 17) hx hb dX0_explore_17 rfl (lv_at hl 2 rfl) ?_
    refine lv_icmp_lt (pc := 18) (tgt := 29) hx hb dX0_explore_18 (by decide) (fun q3 => ?_) (fun q3 => ?_)
    · replace hf := if_t q3 hf
      refine lv_iconst (pc := 29) (v := 0) hx hb dX0_explore_29 (by decide) ?_
      refine lv_istore (pc := 30) (lv' := [(5, .int ((0 : Int32))), (0, .ref a0), (1, .int ((0 : Int32))), (2, .int v2), (3, .int v3), (4, .ref p4_0)]) hx hb dX0_explore_30 hl (by decide) rfl (fun ls hl => ?_)
      exact J32 FU v2 v3 ((0 : Int32)) b_this _ _ _ hf hw (lv_sub hl [1, 2, 3, 4, 5, 0] rfl)
    · replace hf := if_f q3 hf
      refine lv_aload_n (pc := 21) hx hb dX0_explore_21 rfl (lv_at hl 0 rfl) ?_
      refine lv_iload_n (pc := 22) hx hb dX0_explore_22 rfl (lv_at hl 2 rfl) ?_
      refine lv_iload_n (pc := 23) hx hb dX0_explore_23 rfl (lv_at hl 3 rfl) ?_
      refine lv_iload_n (pc := 24) hx hb dX0_explore_24 rfl (lv_at hl 1 rfl) ?_
      obtain ⟨u4, u4e, hf⟩ := bd hf
      refine zk_cV (pc := 25) (ci := 0) (q0 := 0) (rest := []) (st1 := []) (w' := [xSe a0 a1 a2 a3 u4.1 u4.2.1 u4.2.2.1, xI cy a1 4 u4.2.2.2.1, xI cy a2 4 u4.2.2.2.2.1, xRT cy a3 5 (fun j => [some a4, some a5, some a6, some a7, some a8].getD j none), xTe a4 ((u4.2.2.2.2.2 0)), xTe a5 ((u4.2.2.2.2.2 1)), xTe a6 ((u4.2.2.2.2.2 2)), xTe a7 ((u4.2.2.2.2.2 3)), xTe a8 ((u4.2.2.2.2.2 4)), xSt p4_0 p4_1 p4_2 p4_3 p4_4 b_p4.1, xI cy p4_1 8 b_p4.2.1, xI cy p4_2 8 b_p4.2.2.1, xI cy p4_3 8 b_p4.2.2.2.1, xI cy p4_4 8 b_p4.2.2.2.2]) (mk := [some (xSe a0 a1 a2 a3 u4.1 u4.2.1 u4.2.2.1), some (xI cy a1 4 u4.2.2.2.1), some (xI cy a2 4 u4.2.2.2.2.1), none, some (xTe a4 ((u4.2.2.2.2.2 0))), some (xTe a5 ((u4.2.2.2.2.2 1))), some (xTe a6 ((u4.2.2.2.2.2 2))), some (xTe a7 ((u4.2.2.2.2.2 3))), some (xTe a8 ((u4.2.2.2.2.2 4))), none, none, none, none, none]) C hw (c_X0_compare_l0 l G cy tt a0 a1 a2 a3 a4 a5 a6 a7 a8 v2 v3 b_this _ u4e) zy_X0_compare zm_X0_44 rfl rfl rfl [0, 1, 2, 3, 4, 5, 6, 7, 8] rfl rfl rfl rfl rfl rfl rfl rfl hl.1 ⟨rfl, rfl⟩ ⟨Nat.le_of_ble_eq_true rfl, Nat.le_of_ble_eq_true rfl⟩ rfl (Nat.le_of_ble_eq_true rfl) ⟨Nat.zero_le _, Nat.zero_le _⟩ dX0_explore_25 (fun H locs hw => ?_)
      have hf := Option.some.inj hf
      subst hf
      exact zk_retv (pc := 28) (ww := [xSe a0 a1 a2 a3 u4.1 u4.2.1 u4.2.2.1, xI cy a1 4 u4.2.2.2.1, xI cy a2 4 u4.2.2.2.2.1, xRT cy a3 5 (fun j => [some a4, some a5, some a6, some a7, some a8].getD j none), xTe a4 ((u4.2.2.2.2.2 0)), xTe a5 ((u4.2.2.2.2.2 1)), xTe a6 ((u4.2.2.2.2.2 2)), xTe a7 ((u4.2.2.2.2.2 3)), xTe a8 ((u4.2.2.2.2.2 4)), xSt p4_0 p4_1 p4_2 p4_3 p4_4 b_p4.1, xI cy p4_1 8 b_p4.2.1, xI cy p4_2 8 b_p4.2.2.1, xI cy p4_3 8 b_p4.2.2.2.1, xI cy p4_4 8 b_p4.2.2.2.2]) C hw hr hQ dX0_explore_28
  rw [zf_X0_explore_l0] at hf
  refine lv_aload_n (pc := 0) hx hb dX0_explore_0 rfl (lv_at hl 0 rfl) ?_
  refine zk_gt (pc := 1) C hw zl_X0_18 0 rfl rfl dX0_explore_1 ?_
  refine zk_ifz (pc := 4) (tgt := 16) hx hb dX0_explore_4 (by decide) (fun q1 => ?_) (fun q1 => ?_)
  · replace hf := if_f q1 hf
    exact J16 x2 x3 b_this _ _ _ hf hw (lv_sub hl [0, 1, 2, 3, 4] rfl)
  · replace hf := if_t q1 hf
    refine lv_iload_n (pc := 7) hx hb dX0_explore_7 rfl (lv_at hl 3 rfl) ?_
    refine lv_aload_n (pc := 8) hx hb dX0_explore_8 rfl (lv_at hl 0 rfl) ?_
    refine zk_gt (pc := 9) C hw zl_X0_9 0 rfl rfl dX0_explore_9 ?_
    refine lv_icmp_le (pc := 12) (tgt := 16) hx hb dX0_explore_12 (by decide) (fun q2 => ?_) (fun q2 => ?_)
    · replace hf := if_t q2 hf
      exact J16 x2 x3 b_this _ _ _ hf hw (lv_sub hl [0, 1, 2, 3, 4] rfl)
    · replace hf := if_f q2 hf
      have hf := Option.some.inj hf
      subst hf
      exact zk_retv (pc := 15) (ww := [xSe a0 a1 a2 a3 b_this.1 b_this.2.1 b_this.2.2.1, xI cy a1 4 b_this.2.2.2.1, xI cy a2 4 b_this.2.2.2.2.1, xRT cy a3 5 (fun j => [some a4, some a5, some a6, some a7, some a8].getD j none), xTe a4 ((b_this.2.2.2.2.2 0)), xTe a5 ((b_this.2.2.2.2.2 1)), xTe a6 ((b_this.2.2.2.2.2 2)), xTe a7 ((b_this.2.2.2.2.2 3)), xTe a8 ((b_this.2.2.2.2.2 4)), xSt p4_0 p4_1 p4_2 p4_3 p4_4 b_p4.1, xI cy p4_1 8 b_p4.2.1, xI cy p4_2 8 b_p4.2.2.1, xI cy p4_3 8 b_p4.2.2.2.1, xI cy p4_4 8 b_p4.2.2.2.2]) C hw hr hQ dX0_explore_15
def zf_X0_run (x1 : Int32) (b_this : TSe) (b_p2 : TTe) (b_p3 : TSt) : Option (TSe) := (Option.bind (zf_X5_become ((b_this.2.2.2.2.2 0)) b_p2) (fun u1 => (Option.bind (zf_X0_explore_l0 x1 (((0 : Int32))) ((b_this.1, b_this.2.1, false, b_this.2.2.2.1, b_this.2.2.2.2.1, (va_up b_this.2.2.2.2.2 0 u1))) b_p3) (fun u2 => some (u2)))))
abbrev zr_X0_run : Room := { frames := 11, cells := 0, slots := 0, locals := 272 }
set_option maxHeartbeats 4000000 in
set_option maxRecDepth 100000 in
theorem c_X0_run (l : Launch) (G : va_G) (cy : Nat → ClassId) (tt : Nat → Nat) (a0 a1 a2 a3 a4 a5 a6 a7 a8 : Nat) (p2_0 : Nat) (p3_0 p3_1 p3_2 p3_3 p3_4 : Nat) (x1 : Int32) (b_this : TSe) (b_p2 : TTe) (b_p3 : TSt) (res : TSe) (hf : zf_X0_run x1 b_this b_p2 b_p3 = some res) : zCT l yX0_run cX0_run 4 none zr_X0_run G cy tt [.ref a0, .int x1, .ref p2_0, .ref p3_0] [xSe a0 a1 a2 a3 b_this.1 b_this.2.1 b_this.2.2.1, xI cy a1 4 b_this.2.2.2.1, xI cy a2 4 b_this.2.2.2.2.1, xRT cy a3 5 (fun j => [some a4, some a5, some a6, some a7, some a8].getD j none), xTe a4 ((b_this.2.2.2.2.2 0)), xTe a5 ((b_this.2.2.2.2.2 1)), xTe a6 ((b_this.2.2.2.2.2 2)), xTe a7 ((b_this.2.2.2.2.2 3)), xTe a8 ((b_this.2.2.2.2.2 4)), xTe p2_0 b_p2, xSt p3_0 p3_1 p3_2 p3_3 p3_4 b_p3.1, xI cy p3_1 8 b_p3.2.1, xI cy p3_2 8 b_p3.2.2.1, xI cy p3_3 8 b_p3.2.2.2.1, xI cy p3_4 8 b_p3.2.2.2.2] none [xSe a0 a1 a2 a3 res.1 res.2.1 res.2.2.1, xI cy a1 4 res.2.2.2.1, xI cy a2 4 res.2.2.2.2.1, xRT cy a3 5 (fun j => [some a4, some a5, some a6, some a7, some a8].getD j none), xTe a4 ((res.2.2.2.2.2 0)), xTe a5 ((res.2.2.2.2.2 1)), xTe a6 ((res.2.2.2.2.2 2)), xTe a7 ((res.2.2.2.2.2 3)), xTe a8 ((res.2.2.2.2.2 4)), xTe p2_0 b_p2, xSt p3_0 p3_1 p3_2 p3_3 p3_4 b_p3.1, xI cy p3_1 8 b_p3.2.1, xI cy p3_2 8 b_p3.2.2.1, xI cy p3_3 8 b_p3.2.2.2.1, xI cy p3_4 8 b_p3.2.2.2.2] := by
  refine zk_start zn_X0 (Nat.le_of_ble_eq_true rfl) ?_
  intro p e s m args below meth c A ls Q C hr hQ hw hl
  have C : zCx p m c s args meth cX0_run 4 RX0 G cy tt A := C
  have hx := C.1.1
  have hb := C.1.2.1
  have hl : lv_has ls 4 [(0, .ref a0), (1, .int x1), (2, .ref p2_0), (3, .ref p3_0)] := hl
  rw [zf_X0_run] at hf
  refine lv_aload_n (pc := 0) hx hb dX0_run_0 rfl (lv_at hl 0 rfl) ?_
  refine lv_iconst (pc := 1) (v := 0) hx hb dX0_run_1 (by decide) ?_
  refine zk_put (pc := 2) (v := .int (bI false)) (w' := [xSe a0 a1 a2 a3 b_this.1 b_this.2.1 false, xI cy a1 4 b_this.2.2.2.1, xI cy a2 4 b_this.2.2.2.2.1, xRT cy a3 5 (fun j => [some a4, some a5, some a6, some a7, some a8].getD j none), xTe a4 ((b_this.2.2.2.2.2 0)), xTe a5 ((b_this.2.2.2.2.2 1)), xTe a6 ((b_this.2.2.2.2.2 2)), xTe a7 ((b_this.2.2.2.2.2 3)), xTe a8 ((b_this.2.2.2.2.2 4)), xTe p2_0 b_p2, xSt p3_0 p3_1 p3_2 p3_3 p3_4 b_p3.1, xI cy p3_1 8 b_p3.2.1, xI cy p3_2 8 b_p3.2.2.1, xI cy p3_3 8 b_p3.2.2.2.1, xI cy p3_4 8 b_p3.2.2.2.2]) C hw zp_X0_18 0 rfl (bI_nar _) (bI_fit _) (Nat.le_of_ble_eq_true rfl) rfl dX0_run_2 (fun H locs hw => ?_)
  refine lv_aload_n (pc := 5) hx hb dX0_run_5 rfl (lv_at hl 0 rfl) ?_
  refine zk_gt (pc := 6) C hw zl_X0_32 0 rfl rfl dX0_run_6 ?_
  refine lv_iconst (pc := 9) (v := 0) hx hb dX0_run_9 (by decide) ?_
  refine zk_aaldT (pc := 10) (a' := a4) 0 (by decide) C hw 3 rfl (by decide) rfl dX0_run_10 ?_
  refine lv_aload_n (pc := 11) hx hb dX0_run_11 rfl (lv_at hl 2 rfl) ?_
  obtain ⟨u1, u1e, hf⟩ := bd hf
  refine zk_cV (pc := 12) (ci := 5) (q0 := 4) (rest := []) (st1 := []) (w' := [xSe a0 a1 a2 a3 b_this.1 b_this.2.1 false, xI cy a1 4 b_this.2.2.2.1, xI cy a2 4 b_this.2.2.2.2.1, xRT cy a3 5 (fun j => [some a4, some a5, some a6, some a7, some a8].getD j none), xTe a4 u1, xTe a5 ((b_this.2.2.2.2.2 1)), xTe a6 ((b_this.2.2.2.2.2 2)), xTe a7 ((b_this.2.2.2.2.2 3)), xTe a8 ((b_this.2.2.2.2.2 4)), xTe p2_0 b_p2, xSt p3_0 p3_1 p3_2 p3_3 p3_4 b_p3.1, xI cy p3_1 8 b_p3.2.1, xI cy p3_2 8 b_p3.2.2.1, xI cy p3_3 8 b_p3.2.2.2.1, xI cy p3_4 8 b_p3.2.2.2.2]) (mk := [none, none, none, none, some (xTe a4 u1), none, none, none, none, none, none, none, none, none, none]) C hw (c_X5_become l G cy tt a4 p2_0 ((b_this.2.2.2.2.2 0)) b_p2 _ u1e) zy_X5_become zm_X0_36 rfl rfl rfl [4, 9] rfl rfl rfl rfl rfl rfl rfl rfl hl.1 ⟨rfl, rfl⟩ ⟨Nat.le_of_ble_eq_true rfl, Nat.le_of_ble_eq_true rfl⟩ rfl (Nat.le_of_ble_eq_true rfl) ⟨Nat.zero_le _, Nat.zero_le _⟩ dX0_run_12 (fun H locs hw => ?_)
  refine lv_aload_n (pc := 15) hx hb dX0_run_15 rfl (lv_at hl 0 rfl) ?_
  refine lv_iconst (pc := 16) (v := 0) hx hb dX0_run_16 (by decide) ?_
  refine lv_iload_n (pc := 17) hx hb dX0_run_17 rfl (lv_at hl 1 rfl) ?_
  refine lv_iconst (pc := 18) (v := 0) hx hb dX0_run_18 (by decide) ?_
  refine lv_aload_n (pc := 19) hx hb dX0_run_19 rfl (lv_at hl 3 rfl) ?_
  obtain ⟨u2, u2e, hf⟩ := bd hf
  refine zk_cV (pc := 20) (ci := 0) (q0 := 0) (rest := []) (st1 := []) (w' := [xSe a0 a1 a2 a3 u2.1 u2.2.1 u2.2.2.1, xI cy a1 4 u2.2.2.2.1, xI cy a2 4 u2.2.2.2.2.1, xRT cy a3 5 (fun j => [some a4, some a5, some a6, some a7, some a8].getD j none), xTe a4 ((u2.2.2.2.2.2 0)), xTe a5 ((u2.2.2.2.2.2 1)), xTe a6 ((u2.2.2.2.2.2 2)), xTe a7 ((u2.2.2.2.2.2 3)), xTe a8 ((u2.2.2.2.2.2 4)), xTe p2_0 b_p2, xSt p3_0 p3_1 p3_2 p3_3 p3_4 b_p3.1, xI cy p3_1 8 b_p3.2.1, xI cy p3_2 8 b_p3.2.2.1, xI cy p3_3 8 b_p3.2.2.2.1, xI cy p3_4 8 b_p3.2.2.2.2]) (mk := [some (xSe a0 a1 a2 a3 u2.1 u2.2.1 u2.2.2.1), some (xI cy a1 4 u2.2.2.2.1), some (xI cy a2 4 u2.2.2.2.2.1), none, some (xTe a4 ((u2.2.2.2.2.2 0))), some (xTe a5 ((u2.2.2.2.2.2 1))), some (xTe a6 ((u2.2.2.2.2.2 2))), some (xTe a7 ((u2.2.2.2.2.2 3))), some (xTe a8 ((u2.2.2.2.2.2 4))), none, none, none, none, none, none]) C hw (c_X0_explore_l0 l G cy tt a0 a1 a2 a3 a4 a5 a6 a7 a8 p3_0 p3_1 p3_2 p3_3 p3_4 x1 (((0 : Int32))) ((b_this.1, b_this.2.1, false, b_this.2.2.2.1, b_this.2.2.2.2.1, (va_up b_this.2.2.2.2.2 0 u1))) b_p3 _ u2e) zy_X0_explore zm_X0_40 rfl rfl rfl [0, 1, 2, 3, 4, 5, 6, 7, 8, 10, 11, 12, 13, 14] rfl rfl rfl rfl rfl rfl rfl rfl hl.1 ⟨rfl, rfl⟩ ⟨Nat.le_of_ble_eq_true rfl, Nat.le_of_ble_eq_true rfl⟩ rfl (Nat.le_of_ble_eq_true rfl) ⟨Nat.zero_le _, Nat.zero_le _⟩ dX0_run_20 (fun H locs hw => ?_)
  have hf := Option.some.inj hf
  subst hf
  exact zk_retv (pc := 23) (ww := [xSe a0 a1 a2 a3 u2.1 u2.2.1 u2.2.2.1, xI cy a1 4 u2.2.2.2.1, xI cy a2 4 u2.2.2.2.2.1, xRT cy a3 5 (fun j => [some a4, some a5, some a6, some a7, some a8].getD j none), xTe a4 ((u2.2.2.2.2.2 0)), xTe a5 ((u2.2.2.2.2.2 1)), xTe a6 ((u2.2.2.2.2.2 2)), xTe a7 ((u2.2.2.2.2.2 3)), xTe a8 ((u2.2.2.2.2.2 4)), xTe p2_0 b_p2, xSt p3_0 p3_1 p3_2 p3_3 p3_4 b_p3.1, xI cy p3_1 8 b_p3.2.1, xI cy p3_2 8 b_p3.2.2.1, xI cy p3_3 8 b_p3.2.2.2.1, xI cy p3_4 8 b_p3.2.2.2.2]) C hw hr hQ dX0_run_23
def zf_X0_orderOf (x1 : Int32) (b_this : TSe) : Option (Int32) := (if x1 < 0 then some ((-1 : Int32)) else (if (4 : Int32) ≤ x1 then some ((-1 : Int32)) else (if ix x1 4 then some ((b_this.2.2.2.2.1 x1.toNatClampNeg)) else none)))
abbrev zr_X0_orderOf : Room := { frames := 0, cells := 0, slots := 0, locals := 0 }
set_option maxHeartbeats 4000000 in
set_option maxRecDepth 100000 in
theorem c_X0_orderOf (l : Launch) (G : va_G) (cy : Nat → ClassId) (tt : Nat → Nat) (a0 a1 a2 a3 a4 a5 a6 a7 a8 : Nat) (x1 : Int32) (b_this : TSe) (res : Int32) (hf : zf_X0_orderOf x1 b_this = some res) : zCT l yX0_orderOf cX0_orderOf 2 (some .int) zr_X0_orderOf G cy tt [.ref a0, .int x1] [xSe a0 a1 a2 a3 b_this.1 b_this.2.1 b_this.2.2.1, xI cy a1 4 b_this.2.2.2.1, xI cy a2 4 b_this.2.2.2.2.1, xRT cy a3 5 (fun j => [some a4, some a5, some a6, some a7, some a8].getD j none), xTe a4 ((b_this.2.2.2.2.2 0)), xTe a5 ((b_this.2.2.2.2.2 1)), xTe a6 ((b_this.2.2.2.2.2 2)), xTe a7 ((b_this.2.2.2.2.2 3)), xTe a8 ((b_this.2.2.2.2.2 4))] (some (.int res)) [xSe a0 a1 a2 a3 b_this.1 b_this.2.1 b_this.2.2.1, xI cy a1 4 b_this.2.2.2.1, xI cy a2 4 b_this.2.2.2.2.1, xRT cy a3 5 (fun j => [some a4, some a5, some a6, some a7, some a8].getD j none), xTe a4 ((b_this.2.2.2.2.2 0)), xTe a5 ((b_this.2.2.2.2.2 1)), xTe a6 ((b_this.2.2.2.2.2 2)), xTe a7 ((b_this.2.2.2.2.2 3)), xTe a8 ((b_this.2.2.2.2.2 4))] := by
  refine zk_start zn_X0 (Nat.le_of_ble_eq_true rfl) ?_
  intro p e s m args below meth c A ls Q C hr hQ hw hl
  have C : zCx p m c s args meth cX0_orderOf 2 RX0 G cy tt A := C
  have hx := C.1.1
  have hb := C.1.2.1
  have hl : lv_has ls 2 [(0, .ref a0), (1, .int x1)] := hl
  rw [zf_X0_orderOf] at hf
  refine lv_iload_n (pc := 0) hx hb dX0_orderOf_0 rfl (lv_at hl 1 rfl) ?_
  refine lv_if_lt (pc := 1) (tgt := 18) hx hb dX0_orderOf_1 (by decide) (fun q1 => ?_) (fun q1 => ?_)
  · replace hf := if_t q1 hf
    refine lv_iconst (pc := 18) (v := -1) hx hb dX0_orderOf_18 (by decide) ?_
    have hf := Option.some.inj hf
    subst hf
    exact zk_reti (pc := 19) (ww := [xSe a0 a1 a2 a3 b_this.1 b_this.2.1 b_this.2.2.1, xI cy a1 4 b_this.2.2.2.1, xI cy a2 4 b_this.2.2.2.2.1, xRT cy a3 5 (fun j => [some a4, some a5, some a6, some a7, some a8].getD j none), xTe a4 ((b_this.2.2.2.2.2 0)), xTe a5 ((b_this.2.2.2.2.2 1)), xTe a6 ((b_this.2.2.2.2.2 2)), xTe a7 ((b_this.2.2.2.2.2 3)), xTe a8 ((b_this.2.2.2.2.2 4))]) C hw hr hQ dX0_orderOf_19
  · replace hf := if_f q1 hf
    refine lv_iload_n (pc := 4) hx hb dX0_orderOf_4 rfl (lv_at hl 1 rfl) ?_
    refine lv_iconst (pc := 5) (v := 4) hx hb dX0_orderOf_5 (by decide) ?_
    refine lv_icmp_ge (pc := 6) (tgt := 18) hx hb dX0_orderOf_6 (by decide) (fun q2 => ?_) (fun q2 => ?_)
    · replace hf := if_t q2 hf
      refine lv_iconst (pc := 18) (v := -1) hx hb dX0_orderOf_18 (by decide) ?_
      have hf := Option.some.inj hf
      subst hf
      exact zk_reti (pc := 19) (ww := [xSe a0 a1 a2 a3 b_this.1 b_this.2.1 b_this.2.2.1, xI cy a1 4 b_this.2.2.2.1, xI cy a2 4 b_this.2.2.2.2.1, xRT cy a3 5 (fun j => [some a4, some a5, some a6, some a7, some a8].getD j none), xTe a4 ((b_this.2.2.2.2.2 0)), xTe a5 ((b_this.2.2.2.2.2 1)), xTe a6 ((b_this.2.2.2.2.2 2)), xTe a7 ((b_this.2.2.2.2.2 3)), xTe a8 ((b_this.2.2.2.2.2 4))]) C hw hr hQ dX0_orderOf_19
    · replace hf := if_f q2 hf
      refine lv_aload_n (pc := 9) hx hb dX0_orderOf_9 rfl (lv_at hl 0 rfl) ?_
      refine zk_gt (pc := 10) C hw zl_X0_26 0 rfl rfl dX0_orderOf_10 ?_
      refine lv_iload_n (pc := 13) hx hb dX0_orderOf_13 rfl (lv_at hl 1 rfl) ?_
      obtain ⟨q3, hf⟩ := ck hf
      refine zk_iald (pc := 14) C hw 2 rfl q3 dX0_orderOf_14 ?_
      refine lv_goto (pc := 15) (tgt := 19) hx hb dX0_orderOf_15 (by decide) ?_
      have hf := Option.some.inj hf
      subst hf
      exact zk_reti (pc := 19) (ww := [xSe a0 a1 a2 a3 b_this.1 b_this.2.1 b_this.2.2.1, xI cy a1 4 b_this.2.2.2.1, xI cy a2 4 b_this.2.2.2.2.1, xRT cy a3 5 (fun j => [some a4, some a5, some a6, some a7, some a8].getD j none), xTe a4 ((b_this.2.2.2.2.2 0)), xTe a5 ((b_this.2.2.2.2.2 1)), xTe a6 ((b_this.2.2.2.2.2 2)), xTe a7 ((b_this.2.2.2.2.2 3)), xTe a8 ((b_this.2.2.2.2.2 4))]) C hw hr hQ dX0_orderOf_19
def zf_X7_best_21 (b_now : TTe) (b_staff : TSt) (b_search : TSe) (b_refusals : Nat → Int32) : Option (Int32 × TSe × (Nat → Int32)) := (Option.bind (zf_X7_refused (((-2 : Int32))) b_refusals) (fun u9 => some (u9.1, b_search, u9.2)))
def zf_X7_best (x1 : Int32) (x2 : Int32) (b_now : TTe) (b_staff : TSt) (b_search : TSe) (b_refusals : Nat → Int32) : Option (Int32 × TSe × (Nat → Int32)) := (Option.bind (zf_X7_isWithin x1 (((1 : Int32))) (((4 : Int32)))) (fun u1 => (if u1 then (Option.bind (zf_X7_isWithin x2 (((-2 : Int32))) (((x1 - (1 : Int32))))) (fun u3 => (if u3 then (Option.bind (zf_X0_run x1 b_search b_now b_staff) (fun u5 => (if x2 = (-2 : Int32) then some (u5.1, u5, b_refusals) else (if x2 = (-1 : Int32) then some (u5.2.1, u5, b_refusals) else (Option.bind (zf_X0_orderOf x2 u5) (fun u8 => some (u8, u5, b_refusals))))))) else zf_X7_best_21 b_now b_staff b_search b_refusals))) else zf_X7_best_21 b_now b_staff b_search b_refusals)))
abbrev zr_X7_best : Room := { frames := 12, cells := 0, slots := 0, locals := 295 }
set_option maxHeartbeats 4000000 in
set_option maxRecDepth 100000 in
theorem c_X7_best (l : Launch) (G : va_G) (cy : Nat → ClassId) (tt : Nat → Nat) (L : Nat → Nat) (b_seedNow : Int32) (b_keptSeed : Int32) (b_isKept : Bool) (x1 : Int32) (x2 : Int32) (b_now : TTe) (b_staff : TSt) (b_search : TSe) (b_refusals : Nat → Int32) (res : Int32 × TSe × (Nat → Int32)) (hf : zf_X7_best x1 x2 b_now b_staff b_search b_refusals = some res) : zCT l yX7_best cX7_best 3 (some .int) zr_X7_best G cy tt [.ref ((L 0)), .int x1, .int x2] [xU L b_seedNow b_keptSeed b_isKept, xTe ((L 1)) b_now, xSt ((L 5)) ((L 6)) ((L 7)) ((L 8)) ((L 9)) b_staff.1, xI cy ((L 6)) 8 b_staff.2.1, xI cy ((L 7)) 8 b_staff.2.2.1, xI cy ((L 8)) 8 b_staff.2.2.2.1, xI cy ((L 9)) 8 b_staff.2.2.2.2, xSe ((L 36)) ((L 37)) ((L 38)) ((L 39)) b_search.1 b_search.2.1 b_search.2.2.1, xI cy ((L 37)) 4 b_search.2.2.2.1, xI cy ((L 38)) 4 b_search.2.2.2.2.1, xRT cy ((L 39)) 5 (fun j => [some ((L 40)), some ((L 41)), some ((L 42)), some ((L 43)), some ((L 44))].getD j none), xTe ((L 40)) ((b_search.2.2.2.2.2 0)), xTe ((L 41)) ((b_search.2.2.2.2.2 1)), xTe ((L 42)) ((b_search.2.2.2.2.2 2)), xTe ((L 43)) ((b_search.2.2.2.2.2 3)), xTe ((L 44)) ((b_search.2.2.2.2.2 4)), xI cy ((L 48)) 5 b_refusals] (some (.int res.1)) [xU L b_seedNow b_keptSeed b_isKept, xTe ((L 1)) b_now, xSt ((L 5)) ((L 6)) ((L 7)) ((L 8)) ((L 9)) b_staff.1, xI cy ((L 6)) 8 b_staff.2.1, xI cy ((L 7)) 8 b_staff.2.2.1, xI cy ((L 8)) 8 b_staff.2.2.2.1, xI cy ((L 9)) 8 b_staff.2.2.2.2, xSe ((L 36)) ((L 37)) ((L 38)) ((L 39)) res.2.1.1 res.2.1.2.1 res.2.1.2.2.1, xI cy ((L 37)) 4 res.2.1.2.2.2.1, xI cy ((L 38)) 4 res.2.1.2.2.2.2.1, xRT cy ((L 39)) 5 (fun j => [some ((L 40)), some ((L 41)), some ((L 42)), some ((L 43)), some ((L 44))].getD j none), xTe ((L 40)) ((res.2.1.2.2.2.2.2 0)), xTe ((L 41)) ((res.2.1.2.2.2.2.2 1)), xTe ((L 42)) ((res.2.1.2.2.2.2.2 2)), xTe ((L 43)) ((res.2.1.2.2.2.2.2 3)), xTe ((L 44)) ((res.2.1.2.2.2.2.2 4)), xI cy ((L 48)) 5 res.2.2] := by
  refine zk_start zn_X7 (Nat.le_of_ble_eq_true rfl) ?_
  intro p e s m args below meth c A ls Q C hr hQ hw hl
  have C : zCx p m c s args meth cX7_best 3 RX7 G cy tt A := C
  have hx := C.1.1
  have hb := C.1.2.1
  have hl : lv_has ls 3 [(0, .ref ((L 0))), (1, .int x1), (2, .int x2)] := hl
  have J21 : ∀ (b_search : TSe) (b_refusals : Nat → Int32) (H : Heap) (locs : List Loc) (ls : Array Slot), zf_X7_best_21 b_now b_staff b_search b_refusals = some res → zWd G A s.heap H locs [xU L b_seedNow b_keptSeed b_isKept, xTe ((L 1)) b_now, xSt ((L 5)) ((L 6)) ((L 7)) ((L 8)) ((L 9)) b_staff.1, xI cy ((L 6)) 8 b_staff.2.1, xI cy ((L 7)) 8 b_staff.2.2.1, xI cy ((L 8)) 8 b_staff.2.2.2.1, xI cy ((L 9)) 8 b_staff.2.2.2.2, xSe ((L 36)) ((L 37)) ((L 38)) ((L 39)) b_search.1 b_search.2.1 b_search.2.2.1, xI cy ((L 37)) 4 b_search.2.2.2.1, xI cy ((L 38)) 4 b_search.2.2.2.2.1, xRT cy ((L 39)) 5 (fun j => [some ((L 40)), some ((L 41)), some ((L 42)), some ((L 43)), some ((L 44))].getD j none), xTe ((L 40)) ((b_search.2.2.2.2.2 0)), xTe ((L 41)) ((b_search.2.2.2.2.2 1)), xTe ((L 42)) ((b_search.2.2.2.2.2 2)), xTe ((L 43)) ((b_search.2.2.2.2.2 3)), xTe ((L 44)) ((b_search.2.2.2.2.2 4)), xI cy ((L 48)) 5 b_refusals] → lv_has ls 3 [(0, .ref ((L 0)))] → W p l e zr_X7_best s m args below meth c H locs 0 0 Q (F0 m 21 ls []) := by
    intro b_search b_refusals H locs ls hf hw hl
    rw [zf_X7_best_21] at hf
    refine lv_aload_n (pc := 21) hx hb dX7_best_21 rfl (lv_at hl 0 rfl) ?_
    refine lv_bipush (pc := 22) (v := -2) hx hb dX7_best_22 (by decide) ?_
    obtain ⟨u9, u9e, hf⟩ := bd hf
    refine zk_cV (pc := 24) (ci := 7) (q0 := 0) (rest := []) (st1 := [.int u9.1]) (w' := [xU L b_seedNow b_keptSeed b_isKept, xTe ((L 1)) b_now, xSt ((L 5)) ((L 6)) ((L 7)) ((L 8)) ((L 9)) b_staff.1, xI cy ((L 6)) 8 b_staff.2.1, xI cy ((L 7)) 8 b_staff.2.2.1, xI cy ((L 8)) 8 b_staff.2.2.2.1, xI cy ((L 9)) 8 b_staff.2.2.2.2, xSe ((L 36)) ((L 37)) ((L 38)) ((L 39)) b_search.1 b_search.2.1 b_search.2.2.1, xI cy ((L 37)) 4 b_search.2.2.2.1, xI cy ((L 38)) 4 b_search.2.2.2.2.1, xRT cy ((L 39)) 5 (fun j => [some ((L 40)), some ((L 41)), some ((L 42)), some ((L 43)), some ((L 44))].getD j none), xTe ((L 40)) ((b_search.2.2.2.2.2 0)), xTe ((L 41)) ((b_search.2.2.2.2.2 1)), xTe ((L 42)) ((b_search.2.2.2.2.2 2)), xTe ((L 43)) ((b_search.2.2.2.2.2 3)), xTe ((L 44)) ((b_search.2.2.2.2.2 4)), xI cy ((L 48)) 5 u9.2]) (mk := [none, none, none, none, none, none, none, none, none, none, none, none, none, none, none, none, some (xI cy ((L 48)) 5 u9.2)]) C hw (c_X7_refused l G cy tt L b_seedNow b_keptSeed b_isKept (((-2 : Int32))) b_refusals _ u9e) zy_X7_refused zm_X7_103 rfl rfl rfl [0, 16] rfl rfl rfl rfl rfl rfl rfl rfl hl.1 ⟨rfl, rfl⟩ ⟨Nat.le_of_ble_eq_true rfl, Nat.le_of_ble_eq_true rfl⟩ rfl (Nat.le_of_ble_eq_true rfl) ⟨Nat.zero_le _, Nat.zero_le _⟩ dX7_best_24 (fun H locs hw => ?_)
    have hf := Option.some.inj hf
    subst hf
    exact zk_reti (pc := 27) (ww := [xU L b_seedNow b_keptSeed b_isKept, xTe ((L 1)) b_now, xSt ((L 5)) ((L 6)) ((L 7)) ((L 8)) ((L 9)) b_staff.1, xI cy ((L 6)) 8 b_staff.2.1, xI cy ((L 7)) 8 b_staff.2.2.1, xI cy ((L 8)) 8 b_staff.2.2.2.1, xI cy ((L 9)) 8 b_staff.2.2.2.2, xSe ((L 36)) ((L 37)) ((L 38)) ((L 39)) b_search.1 b_search.2.1 b_search.2.2.1, xI cy ((L 37)) 4 b_search.2.2.2.1, xI cy ((L 38)) 4 b_search.2.2.2.2.1, xRT cy ((L 39)) 5 (fun j => [some ((L 40)), some ((L 41)), some ((L 42)), some ((L 43)), some ((L 44))].getD j none), xTe ((L 40)) ((b_search.2.2.2.2.2 0)), xTe ((L 41)) ((b_search.2.2.2.2.2 1)), xTe ((L 42)) ((b_search.2.2.2.2.2 2)), xTe ((L 43)) ((b_search.2.2.2.2.2 3)), xTe ((L 44)) ((b_search.2.2.2.2.2 4)), xI cy ((L 48)) 5 u9.2]) C hw hr hQ dX7_best_27
  rw [zf_X7_best] at hf
  refine lv_iload_n (pc := 0) hx hb dX7_best_0 rfl (lv_at hl 1 rfl) ?_
  refine lv_iconst (pc := 1) (v := 1) hx hb dX7_best_1 (by decide) ?_
  refine lv_iconst (pc := 2) (v := 4) hx hb dX7_best_2 (by decide) ?_
  obtain ⟨u1, u1e, hf⟩ := bd hf
  refine zk_cS (pc := 3) (rest := []) (st1 := [.int (bI u1)]) (w' := [xU L b_seedNow b_keptSeed b_isKept, xTe ((L 1)) b_now, xSt ((L 5)) ((L 6)) ((L 7)) ((L 8)) ((L 9)) b_staff.1, xI cy ((L 6)) 8 b_staff.2.1, xI cy ((L 7)) 8 b_staff.2.2.1, xI cy ((L 8)) 8 b_staff.2.2.2.1, xI cy ((L 9)) 8 b_staff.2.2.2.2, xSe ((L 36)) ((L 37)) ((L 38)) ((L 39)) b_search.1 b_search.2.1 b_search.2.2.1, xI cy ((L 37)) 4 b_search.2.2.2.1, xI cy ((L 38)) 4 b_search.2.2.2.2.1, xRT cy ((L 39)) 5 (fun j => [some ((L 40)), some ((L 41)), some ((L 42)), some ((L 43)), some ((L 44))].getD j none), xTe ((L 40)) ((b_search.2.2.2.2.2 0)), xTe ((L 41)) ((b_search.2.2.2.2.2 1)), xTe ((L 42)) ((b_search.2.2.2.2.2 2)), xTe ((L 43)) ((b_search.2.2.2.2.2 3)), xTe ((L 44)) ((b_search.2.2.2.2.2 4)), xI cy ((L 48)) 5 b_refusals]) (mk := [none, none, none, none, none, none, none, none, none, none, none, none, none, none, none, none, none]) C hw (c_X7_isWithin l G cy tt x1 (((1 : Int32))) (((4 : Int32))) _ u1e) zy_X7_isWithin zm_X7_99 [] rfl rfl rfl rfl rfl rfl rfl rfl hl.1 ⟨rfl, rfl⟩ ⟨Nat.le_of_ble_eq_true rfl, Nat.le_of_ble_eq_true rfl⟩ rfl (Nat.le_of_ble_eq_true rfl) ⟨Nat.zero_le _, Nat.zero_le _⟩ dX7_best_3 (fun H locs hw => ?_)
  refine zk_ifz (pc := 6) (tgt := 21) hx hb dX7_best_6 (by decide) (fun q2 => ?_) (fun q2 => ?_)
  · replace hf := if_f q2 hf
    exact J21 b_search b_refusals _ _ _ hf hw (lv_sub hl [0] rfl)
  · replace hf := if_t q2 hf
    refine lv_iload_n (pc := 9) hx hb dX7_best_9 rfl (lv_at hl 2 rfl) ?_
    refine lv_bipush (pc := 10) (v := -2) hx hb dX7_best_10 (by decide) ?_
    refine lv_iload_n (pc := 12) hx hb dX7_best_12 rfl (lv_at hl 1 rfl) ?_
    refine lv_iconst (pc := 13) (v := 1) hx hb dX7_best_13 (by decide) ?_
    refine lv_isub (pc := 14) hx hb dX7_best_14 ?_
    obtain ⟨u3, u3e, hf⟩ := bd hf
    refine zk_cS (pc := 15) (rest := []) (st1 := [.int (bI u3)]) (w' := [xU L b_seedNow b_keptSeed b_isKept, xTe ((L 1)) b_now, xSt ((L 5)) ((L 6)) ((L 7)) ((L 8)) ((L 9)) b_staff.1, xI cy ((L 6)) 8 b_staff.2.1, xI cy ((L 7)) 8 b_staff.2.2.1, xI cy ((L 8)) 8 b_staff.2.2.2.1, xI cy ((L 9)) 8 b_staff.2.2.2.2, xSe ((L 36)) ((L 37)) ((L 38)) ((L 39)) b_search.1 b_search.2.1 b_search.2.2.1, xI cy ((L 37)) 4 b_search.2.2.2.1, xI cy ((L 38)) 4 b_search.2.2.2.2.1, xRT cy ((L 39)) 5 (fun j => [some ((L 40)), some ((L 41)), some ((L 42)), some ((L 43)), some ((L 44))].getD j none), xTe ((L 40)) ((b_search.2.2.2.2.2 0)), xTe ((L 41)) ((b_search.2.2.2.2.2 1)), xTe ((L 42)) ((b_search.2.2.2.2.2 2)), xTe ((L 43)) ((b_search.2.2.2.2.2 3)), xTe ((L 44)) ((b_search.2.2.2.2.2 4)), xI cy ((L 48)) 5 b_refusals]) (mk := [none, none, none, none, none, none, none, none, none, none, none, none, none, none, none, none, none]) C hw (c_X7_isWithin l G cy tt x2 (((-2 : Int32))) (((x1 - (1 : Int32)))) _ u3e) zy_X7_isWithin zm_X7_99 [] rfl rfl rfl rfl rfl rfl rfl rfl hl.1 ⟨rfl, rfl⟩ ⟨Nat.le_of_ble_eq_true rfl, Nat.le_of_ble_eq_true rfl⟩ rfl (Nat.le_of_ble_eq_true rfl) ⟨Nat.zero_le _, Nat.zero_le _⟩ dX7_best_15 (fun H locs hw => ?_)
    refine zk_ifnz (pc := 18) (tgt := 28) hx hb dX7_best_18 (by decide) (fun q4 => ?_) (fun q4 => ?_)
    · replace hf := if_t q4 hf
      refine lv_aload_n (pc := 28) hx hb dX7_best_28 rfl (lv_at hl 0 rfl) ?_
      refine zk_gt (pc := 29) C hw zl_X7_62 0 rfl rfl dX7_best_29 ?_
      refine lv_iload_n (pc := 32) hx hb dX7_best_32 rfl (lv_at hl 1 rfl) ?_
      refine lv_aload_n (pc := 33) hx hb dX7_best_33 rfl (lv_at hl 0 rfl) ?_
      refine zk_gt (pc := 34) C hw zl_X7_10 0 rfl rfl dX7_best_34 ?_
      refine lv_aload_n (pc := 37) hx hb dX7_best_37 rfl (lv_at hl 0 rfl) ?_
      refine zk_gt (pc := 38) C hw zl_X7_28 0 rfl rfl dX7_best_38 ?_
      obtain ⟨u5, u5e, hf⟩ := bd hf
      refine zk_cV (pc := 41) (ci := 0) (q0 := 7) (rest := []) (st1 := []) (w' := [xU L b_seedNow b_keptSeed b_isKept, xTe ((L 1)) b_now, xSt ((L 5)) ((L 6)) ((L 7)) ((L 8)) ((L 9)) b_staff.1, xI cy ((L 6)) 8 b_staff.2.1, xI cy ((L 7)) 8 b_staff.2.2.1, xI cy ((L 8)) 8 b_staff.2.2.2.1, xI cy ((L 9)) 8 b_staff.2.2.2.2, xSe ((L 36)) ((L 37)) ((L 38)) ((L 39)) u5.1 u5.2.1 u5.2.2.1, xI cy ((L 37)) 4 u5.2.2.2.1, xI cy ((L 38)) 4 u5.2.2.2.2.1, xRT cy ((L 39)) 5 (fun j => [some ((L 40)), some ((L 41)), some ((L 42)), some ((L 43)), some ((L 44))].getD j none), xTe ((L 40)) ((u5.2.2.2.2.2 0)), xTe ((L 41)) ((u5.2.2.2.2.2 1)), xTe ((L 42)) ((u5.2.2.2.2.2 2)), xTe ((L 43)) ((u5.2.2.2.2.2 3)), xTe ((L 44)) ((u5.2.2.2.2.2 4)), xI cy ((L 48)) 5 b_refusals]) (mk := [none, none, none, none, none, none, none, some (xSe ((L 36)) ((L 37)) ((L 38)) ((L 39)) u5.1 u5.2.1 u5.2.2.1), some (xI cy ((L 37)) 4 u5.2.2.2.1), some (xI cy ((L 38)) 4 u5.2.2.2.2.1), none, some (xTe ((L 40)) ((u5.2.2.2.2.2 0))), some (xTe ((L 41)) ((u5.2.2.2.2.2 1))), some (xTe ((L 42)) ((u5.2.2.2.2.2 2))), some (xTe ((L 43)) ((u5.2.2.2.2.2 3))), some (xTe ((L 44)) ((u5.2.2.2.2.2 4))), none]) C hw (c_X0_run l G cy tt ((L 36)) ((L 37)) ((L 38)) ((L 39)) ((L 40)) ((L 41)) ((L 42)) ((L 43)) ((L 44)) ((L 1)) ((L 5)) ((L 6)) ((L 7)) ((L 8)) ((L 9)) x1 b_search b_now b_staff _ u5e) zy_X0_run zm_X7_270 rfl rfl rfl [7, 8, 9, 10, 11, 12, 13, 14, 15, 1, 2, 3, 4, 5, 6] rfl rfl rfl rfl rfl rfl rfl rfl hl.1 ⟨rfl, rfl⟩ ⟨Nat.le_of_ble_eq_true rfl, Nat.le_of_ble_eq_true rfl⟩ rfl (Nat.le_of_ble_eq_true rfl) ⟨Nat.zero_le _, Nat.zero_le _⟩ dX7_best_41 (fun H locs hw => ?_)
      refine lv_iload_n (pc := 44) hx hb dX7_best_44 rfl (lv_at hl 2 rfl) ?_
      refine lv_bipush (pc := 45) (v := -2) hx hb dX7_best_45 (by decide) ?_
      refine lv_icmp_ne (pc := 47) (tgt := 58) hx hb dX7_best_47 (by decide) (fun q6 => ?_) (fun q6 => ?_)
      · replace hf := if_f q6 hf
        refine lv_iload_n (pc := 58) hx hb dX7_best_58 rfl (lv_at hl 2 rfl) ?_
        refine lv_iconst (pc := 59) (v := -1) hx hb dX7_best_59 (by decide) ?_
        refine lv_icmp_ne (pc := 60) (tgt := 73) hx hb dX7_best_60 (by decide) (fun q7 => ?_) (fun q7 => ?_)
        · replace hf := if_f q7 hf
          refine lv_aload_n (pc := 73) hx hb dX7_best_73 rfl (lv_at hl 0 rfl) ?_
          refine zk_gt (pc := 74) C hw zl_X7_62 0 rfl rfl dX7_best_74 ?_
          refine lv_iload_n (pc := 77) hx hb dX7_best_77 rfl (lv_at hl 2 rfl) ?_
          obtain ⟨u8, u8e, hf⟩ := bd hf
          refine zk_cV (pc := 78) (ci := 0) (q0 := 7) (rest := []) (st1 := [.int u8]) (w' := [xU L b_seedNow b_keptSeed b_isKept, xTe ((L 1)) b_now, xSt ((L 5)) ((L 6)) ((L 7)) ((L 8)) ((L 9)) b_staff.1, xI cy ((L 6)) 8 b_staff.2.1, xI cy ((L 7)) 8 b_staff.2.2.1, xI cy ((L 8)) 8 b_staff.2.2.2.1, xI cy ((L 9)) 8 b_staff.2.2.2.2, xSe ((L 36)) ((L 37)) ((L 38)) ((L 39)) u5.1 u5.2.1 u5.2.2.1, xI cy ((L 37)) 4 u5.2.2.2.1, xI cy ((L 38)) 4 u5.2.2.2.2.1, xRT cy ((L 39)) 5 (fun j => [some ((L 40)), some ((L 41)), some ((L 42)), some ((L 43)), some ((L 44))].getD j none), xTe ((L 40)) ((u5.2.2.2.2.2 0)), xTe ((L 41)) ((u5.2.2.2.2.2 1)), xTe ((L 42)) ((u5.2.2.2.2.2 2)), xTe ((L 43)) ((u5.2.2.2.2.2 3)), xTe ((L 44)) ((u5.2.2.2.2.2 4)), xI cy ((L 48)) 5 b_refusals]) (mk := [none, none, none, none, none, none, none, none, none, none, none, none, none, none, none, none, none]) C hw (c_X0_orderOf l G cy tt ((L 36)) ((L 37)) ((L 38)) ((L 39)) ((L 40)) ((L 41)) ((L 42)) ((L 43)) ((L 44)) x2 u5 _ u8e) zy_X0_orderOf zm_X7_280 rfl rfl rfl [7, 8, 9, 10, 11, 12, 13, 14, 15] rfl rfl rfl rfl rfl rfl rfl rfl hl.1 ⟨rfl, rfl⟩ ⟨Nat.le_of_ble_eq_true rfl, Nat.le_of_ble_eq_true rfl⟩ rfl (Nat.le_of_ble_eq_true rfl) ⟨Nat.zero_le _, Nat.zero_le _⟩ dX7_best_78 (fun H locs hw => ?_)
          have hf := Option.some.inj hf
          subst hf
          exact zk_reti (pc := 81) (ww := [xU L b_seedNow b_keptSeed b_isKept, xTe ((L 1)) b_now, xSt ((L 5)) ((L 6)) ((L 7)) ((L 8)) ((L 9)) b_staff.1, xI cy ((L 6)) 8 b_staff.2.1, xI cy ((L 7)) 8 b_staff.2.2.1, xI cy ((L 8)) 8 b_staff.2.2.2.1, xI cy ((L 9)) 8 b_staff.2.2.2.2, xSe ((L 36)) ((L 37)) ((L 38)) ((L 39)) u5.1 u5.2.1 u5.2.2.1, xI cy ((L 37)) 4 u5.2.2.2.1, xI cy ((L 38)) 4 u5.2.2.2.2.1, xRT cy ((L 39)) 5 (fun j => [some ((L 40)), some ((L 41)), some ((L 42)), some ((L 43)), some ((L 44))].getD j none), xTe ((L 40)) ((u5.2.2.2.2.2 0)), xTe ((L 41)) ((u5.2.2.2.2.2 1)), xTe ((L 42)) ((u5.2.2.2.2.2 2)), xTe ((L 43)) ((u5.2.2.2.2.2 3)), xTe ((L 44)) ((u5.2.2.2.2.2 4)), xI cy ((L 48)) 5 b_refusals]) C hw hr hQ dX7_best_81
        · replace hf := if_t q7 hf
          refine lv_aload_n (pc := 63) hx hb dX7_best_63 rfl (lv_at hl 0 rfl) ?_
          refine zk_gt (pc := 64) C hw zl_X7_62 0 rfl rfl dX7_best_64 ?_
          refine zk_gt (pc := 67) C hw zl_X7_277 7 rfl rfl dX7_best_67 ?_
          refine lv_goto (pc := 70) (tgt := 81) hx hb dX7_best_70 (by decide) ?_
          have hf := Option.some.inj hf
          subst hf
          exact zk_reti (pc := 81) (ww := [xU L b_seedNow b_keptSeed b_isKept, xTe ((L 1)) b_now, xSt ((L 5)) ((L 6)) ((L 7)) ((L 8)) ((L 9)) b_staff.1, xI cy ((L 6)) 8 b_staff.2.1, xI cy ((L 7)) 8 b_staff.2.2.1, xI cy ((L 8)) 8 b_staff.2.2.2.1, xI cy ((L 9)) 8 b_staff.2.2.2.2, xSe ((L 36)) ((L 37)) ((L 38)) ((L 39)) u5.1 u5.2.1 u5.2.2.1, xI cy ((L 37)) 4 u5.2.2.2.1, xI cy ((L 38)) 4 u5.2.2.2.2.1, xRT cy ((L 39)) 5 (fun j => [some ((L 40)), some ((L 41)), some ((L 42)), some ((L 43)), some ((L 44))].getD j none), xTe ((L 40)) ((u5.2.2.2.2.2 0)), xTe ((L 41)) ((u5.2.2.2.2.2 1)), xTe ((L 42)) ((u5.2.2.2.2.2 2)), xTe ((L 43)) ((u5.2.2.2.2.2 3)), xTe ((L 44)) ((u5.2.2.2.2.2 4)), xI cy ((L 48)) 5 b_refusals]) C hw hr hQ dX7_best_81
      · replace hf := if_t q6 hf
        refine lv_aload_n (pc := 50) hx hb dX7_best_50 rfl (lv_at hl 0 rfl) ?_
        refine zk_gt (pc := 51) C hw zl_X7_62 0 rfl rfl dX7_best_51 ?_
        refine zk_gt (pc := 54) C hw zl_X7_274 7 rfl rfl dX7_best_54 ?_
        have hf := Option.some.inj hf
        subst hf
        exact zk_reti (pc := 57) (ww := [xU L b_seedNow b_keptSeed b_isKept, xTe ((L 1)) b_now, xSt ((L 5)) ((L 6)) ((L 7)) ((L 8)) ((L 9)) b_staff.1, xI cy ((L 6)) 8 b_staff.2.1, xI cy ((L 7)) 8 b_staff.2.2.1, xI cy ((L 8)) 8 b_staff.2.2.2.1, xI cy ((L 9)) 8 b_staff.2.2.2.2, xSe ((L 36)) ((L 37)) ((L 38)) ((L 39)) u5.1 u5.2.1 u5.2.2.1, xI cy ((L 37)) 4 u5.2.2.2.1, xI cy ((L 38)) 4 u5.2.2.2.2.1, xRT cy ((L 39)) 5 (fun j => [some ((L 40)), some ((L 41)), some ((L 42)), some ((L 43)), some ((L 44))].getD j none), xTe ((L 40)) ((u5.2.2.2.2.2 0)), xTe ((L 41)) ((u5.2.2.2.2.2 1)), xTe ((L 42)) ((u5.2.2.2.2.2 2)), xTe ((L 43)) ((u5.2.2.2.2.2 3)), xTe ((L 44)) ((u5.2.2.2.2.2 4)), xI cy ((L 48)) 5 b_refusals]) C hw hr hQ dX7_best_57
    · replace hf := if_f q4 hf
      exact J21 b_search b_refusals _ _ _ hf hw (lv_sub hl [0] rfl)
def zf_X7_takeTwos_23 (b_staff : TSt) (b_shelves : TSh) : Nat → Int32 → Int32 → Int32 → (Nat → Int32) → Option (Int32 × (Nat → Int32))
  | 0, _, _, _, _ => none
  | n + 1, v1, v2, v5, b_plan => (if v2 ≤ v5 then (Option.bind (zf_X7_takePlan v1 ((((2 : Int32) * v2))) b_shelves b_plan) (fun u4 => some ((0 : Int32), u4))) else (Option.bind (zf_X1_elementAt v1 (((((2 : Int32) * v5) + (1 : Int32)))) b_shelves) (fun u5 => (Option.bind (zf_X1_elementAt v1 ((((2 : Int32) * v5))) b_shelves) (fun u6 => (Option.bind (zf_X7_isKeeper u6 b_staff) (fun u7 => (if u7 then (if (lg_cmp u5 ((0 : Int64))) < 0 then some ((-5 : Int32), b_plan) else (if (lg_cmp u5 ((1 : Int64))) ≤ 0 then zf_X7_takeTwos_23 b_staff b_shelves n v1 v2 ((v5 + 1)) b_plan else some ((-5 : Int32), b_plan))) else some ((-5 : Int32), b_plan)))))))))
def zf_X7_takeTwos (x1 : Int32) (x2 : Int32) (x3 : Bool) (b_staff : TSt) (b_shelves : TSh) (b_plan : Nat → Int32) : Option (Int32 × (Nat → Int32)) := (Option.bind (zf_X7_elementsFault x1 x2 (((20 : Int32))) (((2 : Int32))) x3 b_shelves) (fun u1 => (if u1 = 0 then zf_X7_takeTwos_23 b_staff b_shelves FU x1 x2 ((0 : Int32)) b_plan else some (u1, b_plan))))
abbrev zr_X7_takeTwos : Room := { frames := 5, cells := 0, slots := 0, locals := 110 }
set_option maxHeartbeats 4000000 in
set_option maxRecDepth 100000 in
theorem c_X7_takeTwos (l : Launch) (G : va_G) (cy : Nat → ClassId) (tt : Nat → Nat) (L : Nat → Nat) (b_seedNow : Int32) (b_keptSeed : Int32) (b_isKept : Bool) (x1 : Int32) (x2 : Int32) (x3 : Bool) (b_staff : TSt) (b_shelves : TSh) (b_plan : Nat → Int32) (res : Int32 × (Nat → Int32)) (hf : zf_X7_takeTwos x1 x2 x3 b_staff b_shelves b_plan = some res) : zCT l yX7_takeTwos cX7_takeTwos 8 (some .int) zr_X7_takeTwos G cy tt [.ref ((L 0)), .int x1, .int x2, .int (bI x3)] [xU L b_seedNow b_keptSeed b_isKept, xSt ((L 5)) ((L 6)) ((L 7)) ((L 8)) ((L 9)) b_staff.1, xI cy ((L 6)) 8 b_staff.2.1, xI cy ((L 7)) 8 b_staff.2.2.1, xI cy ((L 8)) 8 b_staff.2.2.2.1, xI cy ((L 9)) 8 b_staff.2.2.2.2, xSh ((L 20)) ((L 21)) ((L 22)) ((L 23)), xI cy ((L 21)) 8 b_shelves.1, xI cy ((L 22)) 8 b_shelves.2.1, xRJ cy ((L 23)) 8 (fun j => [some ((L 24)), some ((L 25)), some ((L 26)), some ((L 27)), some ((L 28)), some ((L 29)), some ((L 30)), some ((L 31))].getD j none), xJ cy ((L 24)) 40 ((b_shelves.2.2 0)), xJ cy ((L 25)) 40 ((b_shelves.2.2 1)), xJ cy ((L 26)) 40 ((b_shelves.2.2 2)), xJ cy ((L 27)) 40 ((b_shelves.2.2 3)), xJ cy ((L 28)) 40 ((b_shelves.2.2 4)), xJ cy ((L 29)) 40 ((b_shelves.2.2 5)), xJ cy ((L 30)) 40 ((b_shelves.2.2 6)), xJ cy ((L 31)) 40 ((b_shelves.2.2 7)), xI cy ((L 46)) 48 b_plan] (some (.int res.1)) [xU L b_seedNow b_keptSeed b_isKept, xSt ((L 5)) ((L 6)) ((L 7)) ((L 8)) ((L 9)) b_staff.1, xI cy ((L 6)) 8 b_staff.2.1, xI cy ((L 7)) 8 b_staff.2.2.1, xI cy ((L 8)) 8 b_staff.2.2.2.1, xI cy ((L 9)) 8 b_staff.2.2.2.2, xSh ((L 20)) ((L 21)) ((L 22)) ((L 23)), xI cy ((L 21)) 8 b_shelves.1, xI cy ((L 22)) 8 b_shelves.2.1, xRJ cy ((L 23)) 8 (fun j => [some ((L 24)), some ((L 25)), some ((L 26)), some ((L 27)), some ((L 28)), some ((L 29)), some ((L 30)), some ((L 31))].getD j none), xJ cy ((L 24)) 40 ((b_shelves.2.2 0)), xJ cy ((L 25)) 40 ((b_shelves.2.2 1)), xJ cy ((L 26)) 40 ((b_shelves.2.2 2)), xJ cy ((L 27)) 40 ((b_shelves.2.2 3)), xJ cy ((L 28)) 40 ((b_shelves.2.2 4)), xJ cy ((L 29)) 40 ((b_shelves.2.2 5)), xJ cy ((L 30)) 40 ((b_shelves.2.2 6)), xJ cy ((L 31)) 40 ((b_shelves.2.2 7)), xI cy ((L 46)) 48 res.2] := by
  refine zk_start zn_X7 (Nat.le_of_ble_eq_true rfl) ?_
  intro p e s m args below meth c A ls Q C hr hQ hw hl
  have C : zCx p m c s args meth cX7_takeTwos 8 RX7 G cy tt A := C
  have hx := C.1.1
  have hb := C.1.2.1
  have hl : lv_has ls 8 [(0, .ref ((L 0))), (1, .int x1), (2, .int x2), (3, .int (bI x3))] := hl
  have J23 : ∀ (n : Nat), ∀ (v1 : Int32) (v2 : Int32) (v5 : Int32) (b_plan : Nat → Int32) (H : Heap) (locs : List Loc) (ls : Array Slot), zf_X7_takeTwos_23 b_staff b_shelves n v1 v2 v5 b_plan = some res → zWd G A s.heap H locs [xU L b_seedNow b_keptSeed b_isKept, xSt ((L 5)) ((L 6)) ((L 7)) ((L 8)) ((L 9)) b_staff.1, xI cy ((L 6)) 8 b_staff.2.1, xI cy ((L 7)) 8 b_staff.2.2.1, xI cy ((L 8)) 8 b_staff.2.2.2.1, xI cy ((L 9)) 8 b_staff.2.2.2.2, xSh ((L 20)) ((L 21)) ((L 22)) ((L 23)), xI cy ((L 21)) 8 b_shelves.1, xI cy ((L 22)) 8 b_shelves.2.1, xRJ cy ((L 23)) 8 (fun j => [some ((L 24)), some ((L 25)), some ((L 26)), some ((L 27)), some ((L 28)), some ((L 29)), some ((L 30)), some ((L 31))].getD j none), xJ cy ((L 24)) 40 ((b_shelves.2.2 0)), xJ cy ((L 25)) 40 ((b_shelves.2.2 1)), xJ cy ((L 26)) 40 ((b_shelves.2.2 2)), xJ cy ((L 27)) 40 ((b_shelves.2.2 3)), xJ cy ((L 28)) 40 ((b_shelves.2.2 4)), xJ cy ((L 29)) 40 ((b_shelves.2.2 5)), xJ cy ((L 30)) 40 ((b_shelves.2.2 6)), xJ cy ((L 31)) 40 ((b_shelves.2.2 7)), xI cy ((L 46)) 48 b_plan] → lv_has ls 8 [(0, .ref ((L 0))), (1, .int v1), (2, .int v2), (5, .int v5)] → W p l e zr_X7_takeTwos s m args below meth c H locs 0 0 Q (F0 m 23 ls []) := by
    intro n
    induction n with
    | zero =>
      intro v1 v2 v5 b_plan H locs ls hf hw hl
      rw [zf_X7_takeTwos_23] at hf
      cases hf
    | succ n ih =>
      intro v1 v2 v5 b_plan H locs ls hf hw hl
      rw [zf_X7_takeTwos_23] at hf
      refine lv_iload (pc := 23) hx hb dX7_takeTwos_23 (lv_at hl 3 rfl) ?_
      refine lv_iload_n (pc := 25) hx hb dX7_takeTwos_25 rfl (lv_at hl 2 rfl) ?_
      refine lv_icmp_ge (pc := 26) (tgt := 87) hx hb dX7_takeTwos_26 (by decide) (fun q3 => ?_) (fun q3 => ?_)
      · replace hf := if_t q3 hf
        refine lv_aload_n (pc := 87) hx hb dX7_takeTwos_87 rfl (lv_at hl 0 rfl) ?_
        refine lv_iload_n (pc := 88) hx hb dX7_takeTwos_88 rfl (lv_at hl 1 rfl) ?_
        refine lv_iconst (pc := 89) (v := 2) hx hb dX7_takeTwos_89 (by decide) ?_
        refine lv_iload_n (pc := 90) hx hb dX7_takeTwos_90 rfl (lv_at hl 2 rfl) ?_
        refine lv_imul (pc := 91) hx hb dX7_takeTwos_91 ?_
        obtain ⟨u4, u4e, hf⟩ := bd hf
        refine zk_cV (pc := 92) (ci := 7) (q0 := 0) (rest := []) (st1 := []) (w' := [xU L b_seedNow b_keptSeed b_isKept, xSt ((L 5)) ((L 6)) ((L 7)) ((L 8)) ((L 9)) b_staff.1, xI cy ((L 6)) 8 b_staff.2.1, xI cy ((L 7)) 8 b_staff.2.2.1, xI cy ((L 8)) 8 b_staff.2.2.2.1, xI cy ((L 9)) 8 b_staff.2.2.2.2, xSh ((L 20)) ((L 21)) ((L 22)) ((L 23)), xI cy ((L 21)) 8 b_shelves.1, xI cy ((L 22)) 8 b_shelves.2.1, xRJ cy ((L 23)) 8 (fun j => [some ((L 24)), some ((L 25)), some ((L 26)), some ((L 27)), some ((L 28)), some ((L 29)), some ((L 30)), some ((L 31))].getD j none), xJ cy ((L 24)) 40 ((b_shelves.2.2 0)), xJ cy ((L 25)) 40 ((b_shelves.2.2 1)), xJ cy ((L 26)) 40 ((b_shelves.2.2 2)), xJ cy ((L 27)) 40 ((b_shelves.2.2 3)), xJ cy ((L 28)) 40 ((b_shelves.2.2 4)), xJ cy ((L 29)) 40 ((b_shelves.2.2 5)), xJ cy ((L 30)) 40 ((b_shelves.2.2 6)), xJ cy ((L 31)) 40 ((b_shelves.2.2 7)), xI cy ((L 46)) 48 u4]) (mk := [none, none, none, none, none, none, none, none, none, none, none, none, none, none, none, none, none, none, some (xI cy ((L 46)) 48 u4)]) C hw (c_X7_takePlan l G cy tt L b_seedNow b_keptSeed b_isKept v1 ((((2 : Int32) * v2))) b_shelves b_plan _ u4e) zy_X7_takePlan zm_X7_400 rfl rfl rfl [0, 6, 7, 8, 9, 10, 11, 12, 13, 14, 15, 16, 17, 18] rfl rfl rfl rfl rfl rfl rfl rfl hl.1 ⟨rfl, rfl⟩ ⟨Nat.le_of_ble_eq_true rfl, Nat.le_of_ble_eq_true rfl⟩ rfl (Nat.le_of_ble_eq_true rfl) ⟨Nat.zero_le _, Nat.zero_le _⟩ dX7_takeTwos_92 (fun H locs hw => ?_)
        refine lv_iconst (pc := 95) (v := 0) hx hb dX7_takeTwos_95 (by decide) ?_
        have hf := Option.some.inj hf
        subst hf
        exact zk_reti (pc := 96) (ww := [xU L b_seedNow b_keptSeed b_isKept, xSt ((L 5)) ((L 6)) ((L 7)) ((L 8)) ((L 9)) b_staff.1, xI cy ((L 6)) 8 b_staff.2.1, xI cy ((L 7)) 8 b_staff.2.2.1, xI cy ((L 8)) 8 b_staff.2.2.2.1, xI cy ((L 9)) 8 b_staff.2.2.2.2, xSh ((L 20)) ((L 21)) ((L 22)) ((L 23)), xI cy ((L 21)) 8 b_shelves.1, xI cy ((L 22)) 8 b_shelves.2.1, xRJ cy ((L 23)) 8 (fun j => [some ((L 24)), some ((L 25)), some ((L 26)), some ((L 27)), some ((L 28)), some ((L 29)), some ((L 30)), some ((L 31))].getD j none), xJ cy ((L 24)) 40 ((b_shelves.2.2 0)), xJ cy ((L 25)) 40 ((b_shelves.2.2 1)), xJ cy ((L 26)) 40 ((b_shelves.2.2 2)), xJ cy ((L 27)) 40 ((b_shelves.2.2 3)), xJ cy ((L 28)) 40 ((b_shelves.2.2 4)), xJ cy ((L 29)) 40 ((b_shelves.2.2 5)), xJ cy ((L 30)) 40 ((b_shelves.2.2 6)), xJ cy ((L 31)) 40 ((b_shelves.2.2 7)), xI cy ((L 46)) 48 u4]) C hw hr hQ dX7_takeTwos_96
      · replace hf := if_f q3 hf
        refine lv_aload_n (pc := 29) hx hb dX7_takeTwos_29 rfl (lv_at hl 0 rfl) ?_
        refine zk_gt (pc := 30) C hw zl_X7_41 0 rfl rfl dX7_takeTwos_30 ?_
        refine lv_iload_n (pc := 33) hx hb dX7_takeTwos_33 rfl (lv_at hl 1 rfl) ?_
        refine lv_iconst (pc := 34) (v := 2) hx hb dX7_takeTwos_34 (by decide) ?_
        refine lv_iload (pc := 35) hx hb dX7_takeTwos_35 (lv_at hl 3 rfl) ?_
        refine lv_imul (pc := 37) hx hb dX7_takeTwos_37 ?_
        refine lv_iconst (pc := 38) (v := 1) hx hb dX7_takeTwos_38 (by decide) ?_
        refine lv_iadd (pc := 39) hx hb dX7_takeTwos_39 ?_
        obtain ⟨u5, u5e, hf⟩ := bd hf
        refine zk_cV (pc := 40) (ci := 1) (q0 := 6) (rest := []) (st1 := [.long u5]) (w' := [xU L b_seedNow b_keptSeed b_isKept, xSt ((L 5)) ((L 6)) ((L 7)) ((L 8)) ((L 9)) b_staff.1, xI cy ((L 6)) 8 b_staff.2.1, xI cy ((L 7)) 8 b_staff.2.2.1, xI cy ((L 8)) 8 b_staff.2.2.2.1, xI cy ((L 9)) 8 b_staff.2.2.2.2, xSh ((L 20)) ((L 21)) ((L 22)) ((L 23)), xI cy ((L 21)) 8 b_shelves.1, xI cy ((L 22)) 8 b_shelves.2.1, xRJ cy ((L 23)) 8 (fun j => [some ((L 24)), some ((L 25)), some ((L 26)), some ((L 27)), some ((L 28)), some ((L 29)), some ((L 30)), some ((L 31))].getD j none), xJ cy ((L 24)) 40 ((b_shelves.2.2 0)), xJ cy ((L 25)) 40 ((b_shelves.2.2 1)), xJ cy ((L 26)) 40 ((b_shelves.2.2 2)), xJ cy ((L 27)) 40 ((b_shelves.2.2 3)), xJ cy ((L 28)) 40 ((b_shelves.2.2 4)), xJ cy ((L 29)) 40 ((b_shelves.2.2 5)), xJ cy ((L 30)) 40 ((b_shelves.2.2 6)), xJ cy ((L 31)) 40 ((b_shelves.2.2 7)), xI cy ((L 46)) 48 b_plan]) (mk := [none, none, none, none, none, none, none, none, none, none, none, none, none, none, none, none, none, none, none]) C hw (c_X1_elementAt l G cy tt ((L 20)) ((L 21)) ((L 22)) ((L 23)) ((L 24)) ((L 25)) ((L 26)) ((L 27)) ((L 28)) ((L 29)) ((L 30)) ((L 31)) v1 (((((2 : Int32) * v5) + (1 : Int32)))) b_shelves _ u5e) zy_X1_elementAt zm_X7_139 rfl rfl rfl [6, 7, 8, 9, 10, 11, 12, 13, 14, 15, 16, 17] rfl rfl rfl rfl rfl rfl rfl rfl hl.1 ⟨rfl, rfl⟩ ⟨Nat.le_of_ble_eq_true rfl, Nat.le_of_ble_eq_true rfl⟩ rfl (Nat.le_of_ble_eq_true rfl) ⟨Nat.zero_le _, Nat.zero_le _⟩ dX7_takeTwos_40 (fun H locs hw => ?_)
        refine lv_lstore (pc := 43) (lv' := [(6, .long u5), (0, .ref ((L 0))), (1, .int v1), (2, .int v2), (5, .int v5)]) hx hb dX7_takeTwos_43 hl (by decide) rfl (fun ls hl => ?_)
        refine lv_aload_n (pc := 45) hx hb dX7_takeTwos_45 rfl (lv_at hl 1 rfl) ?_
        refine lv_aload_n (pc := 46) hx hb dX7_takeTwos_46 rfl (lv_at hl 1 rfl) ?_
        refine zk_gt (pc := 47) C hw zl_X7_41 0 rfl rfl dX7_takeTwos_47 ?_
        refine lv_iload_n (pc := 50) hx hb dX7_takeTwos_50 rfl (lv_at hl 2 rfl) ?_
        refine lv_iconst (pc := 51) (v := 2) hx hb dX7_takeTwos_51 (by decide) ?_
        refine lv_iload (pc := 52) hx hb dX7_takeTwos_52 (lv_at hl 4 rfl) ?_
        refine lv_imul (pc := 54) hx hb dX7_takeTwos_54 ?_
        obtain ⟨u6, u6e, hf⟩ := bd hf
        refine zk_cV (pc := 55) (ci := 1) (q0 := 6) (rest := [.ref ((L 0))]) (st1 := [.long u6, .ref ((L 0))]) (w' := [xU L b_seedNow b_keptSeed b_isKept, xSt ((L 5)) ((L 6)) ((L 7)) ((L 8)) ((L 9)) b_staff.1, xI cy ((L 6)) 8 b_staff.2.1, xI cy ((L 7)) 8 b_staff.2.2.1, xI cy ((L 8)) 8 b_staff.2.2.2.1, xI cy ((L 9)) 8 b_staff.2.2.2.2, xSh ((L 20)) ((L 21)) ((L 22)) ((L 23)), xI cy ((L 21)) 8 b_shelves.1, xI cy ((L 22)) 8 b_shelves.2.1, xRJ cy ((L 23)) 8 (fun j => [some ((L 24)), some ((L 25)), some ((L 26)), some ((L 27)), some ((L 28)), some ((L 29)), some ((L 30)), some ((L 31))].getD j none), xJ cy ((L 24)) 40 ((b_shelves.2.2 0)), xJ cy ((L 25)) 40 ((b_shelves.2.2 1)), xJ cy ((L 26)) 40 ((b_shelves.2.2 2)), xJ cy ((L 27)) 40 ((b_shelves.2.2 3)), xJ cy ((L 28)) 40 ((b_shelves.2.2 4)), xJ cy ((L 29)) 40 ((b_shelves.2.2 5)), xJ cy ((L 30)) 40 ((b_shelves.2.2 6)), xJ cy ((L 31)) 40 ((b_shelves.2.2 7)), xI cy ((L 46)) 48 b_plan]) (mk := [none, none, none, none, none, none, none, none, none, none, none, none, none, none, none, none, none, none, none]) C hw (c_X1_elementAt l G cy tt ((L 20)) ((L 21)) ((L 22)) ((L 23)) ((L 24)) ((L 25)) ((L 26)) ((L 27)) ((L 28)) ((L 29)) ((L 30)) ((L 31)) v1 ((((2 : Int32) * v5))) b_shelves _ u6e) zy_X1_elementAt zm_X7_139 rfl rfl rfl [6, 7, 8, 9, 10, 11, 12, 13, 14, 15, 16, 17] rfl rfl rfl rfl rfl rfl rfl rfl hl.1 ⟨rfl, rfl⟩ ⟨Nat.le_of_ble_eq_true rfl, Nat.le_of_ble_eq_true rfl⟩ rfl (Nat.le_of_ble_eq_true rfl) ⟨Nat.zero_le _, Nat.zero_le _⟩ dX7_takeTwos_55 (fun H locs hw => ?_)
        obtain ⟨u7, u7e, hf⟩ := bd hf
        refine zk_cV (pc := 58) (ci := 7) (q0 := 0) (rest := []) (st1 := [.int (bI u7)]) (w' := [xU L b_seedNow b_keptSeed b_isKept, xSt ((L 5)) ((L 6)) ((L 7)) ((L 8)) ((L 9)) b_staff.1, xI cy ((L 6)) 8 b_staff.2.1, xI cy ((L 7)) 8 b_staff.2.2.1, xI cy ((L 8)) 8 b_staff.2.2.2.1, xI cy ((L 9)) 8 b_staff.2.2.2.2, xSh ((L 20)) ((L 21)) ((L 22)) ((L 23)), xI cy ((L 21)) 8 b_shelves.1, xI cy ((L 22)) 8 b_shelves.2.1, xRJ cy ((L 23)) 8 (fun j => [some ((L 24)), some ((L 25)), some ((L 26)), some ((L 27)), some ((L 28)), some ((L 29)), some ((L 30)), some ((L 31))].getD j none), xJ cy ((L 24)) 40 ((b_shelves.2.2 0)), xJ cy ((L 25)) 40 ((b_shelves.2.2 1)), xJ cy ((L 26)) 40 ((b_shelves.2.2 2)), xJ cy ((L 27)) 40 ((b_shelves.2.2 3)), xJ cy ((L 28)) 40 ((b_shelves.2.2 4)), xJ cy ((L 29)) 40 ((b_shelves.2.2 5)), xJ cy ((L 30)) 40 ((b_shelves.2.2 6)), xJ cy ((L 31)) 40 ((b_shelves.2.2 7)), xI cy ((L 46)) 48 b_plan]) (mk := [none, none, none, none, none, none, none, none, none, none, none, none, none, none, none, none, none, none, none]) C hw (c_X7_isKeeper l G cy tt L b_seedNow b_keptSeed b_isKept u6 b_staff _ u7e) zy_X7_isKeeper zm_X7_397 rfl rfl rfl [0, 1, 2, 3, 4, 5] rfl rfl rfl rfl rfl rfl rfl rfl hl.1 ⟨rfl, rfl⟩ ⟨Nat.le_of_ble_eq_true rfl, Nat.le_of_ble_eq_true rfl⟩ rfl (Nat.le_of_ble_eq_true rfl) ⟨Nat.zero_le _, Nat.zero_le _⟩ dX7_takeTwos_58 (fun H locs hw => ?_)
        refine zk_ifz (pc := 61) (tgt := 78) hx hb dX7_takeTwos_61 (by decide) (fun q8 => ?_) (fun q8 => ?_)
        · replace hf := if_f q8 hf
          refine lv_bipush (pc := 78) (v := -5) hx hb dX7_takeTwos_78 (by decide) ?_
          have hf := Option.some.inj hf
          subst hf
          exact zk_reti (pc := 80) (ww := [xU L b_seedNow b_keptSeed b_isKept, xSt ((L 5)) ((L 6)) ((L 7)) ((L 8)) ((L 9)) b_staff.1, xI cy ((L 6)) 8 b_staff.2.1, xI cy ((L 7)) 8 b_staff.2.2.1, xI cy ((L 8)) 8 b_staff.2.2.2.1, xI cy ((L 9)) 8 b_staff.2.2.2.2, xSh ((L 20)) ((L 21)) ((L 22)) ((L 23)), xI cy ((L 21)) 8 b_shelves.1, xI cy ((L 22)) 8 b_shelves.2.1, xRJ cy ((L 23)) 8 (fun j => [some ((L 24)), some ((L 25)), some ((L 26)), some ((L 27)), some ((L 28)), some ((L 29)), some ((L 30)), some ((L 31))].getD j none), xJ cy ((L 24)) 40 ((b_shelves.2.2 0)), xJ cy ((L 25)) 40 ((b_shelves.2.2 1)), xJ cy ((L 26)) 40 ((b_shelves.2.2 2)), xJ cy ((L 27)) 40 ((b_shelves.2.2 3)), xJ cy ((L 28)) 40 ((b_shelves.2.2 4)), xJ cy ((L 29)) 40 ((b_shelves.2.2 5)), xJ cy ((L 30)) 40 ((b_shelves.2.2 6)), xJ cy ((L 31)) 40 ((b_shelves.2.2 7)), xI cy ((L 46)) 48 b_plan]) C hw hr hQ dX7_takeTwos_80
        · replace hf := if_t q8 hf
          refine lv_lload (pc := 64) hx hb dX7_takeTwos_64 (lv_at hl 0 rfl) ?_
          refine lv_lconst (pc := 66) (v := 0) hx hb dX7_takeTwos_66 (by decide) ?_
          refine W.lcmp (pc := 67) hx hb dX7_takeTwos_67 ?_
          refine lv_if_lt (pc := 68) (tgt := 78) hx hb dX7_takeTwos_68 (by decide) (fun q9 => ?_) (fun q9 => ?_)
          · replace hf := if_t q9 hf
            refine lv_bipush (pc := 78) (v := -5) hx hb dX7_takeTwos_78 (by decide) ?_
            have hf := Option.some.inj hf
            subst hf
            exact zk_reti (pc := 80) (ww := [xU L b_seedNow b_keptSeed b_isKept, xSt ((L 5)) ((L 6)) ((L 7)) ((L 8)) ((L 9)) b_staff.1, xI cy ((L 6)) 8 b_staff.2.1, xI cy ((L 7)) 8 b_staff.2.2.1, xI cy ((L 8)) 8 b_staff.2.2.2.1, xI cy ((L 9)) 8 b_staff.2.2.2.2, xSh ((L 20)) ((L 21)) ((L 22)) ((L 23)), xI cy ((L 21)) 8 b_shelves.1, xI cy ((L 22)) 8 b_shelves.2.1, xRJ cy ((L 23)) 8 (fun j => [some ((L 24)), some ((L 25)), some ((L 26)), some ((L 27)), some ((L 28)), some ((L 29)), some ((L 30)), some ((L 31))].getD j none), xJ cy ((L 24)) 40 ((b_shelves.2.2 0)), xJ cy ((L 25)) 40 ((b_shelves.2.2 1)), xJ cy ((L 26)) 40 ((b_shelves.2.2 2)), xJ cy ((L 27)) 40 ((b_shelves.2.2 3)), xJ cy ((L 28)) 40 ((b_shelves.2.2 4)), xJ cy ((L 29)) 40 ((b_shelves.2.2 5)), xJ cy ((L 30)) 40 ((b_shelves.2.2 6)), xJ cy ((L 31)) 40 ((b_shelves.2.2 7)), xI cy ((L 46)) 48 b_plan]) C hw hr hQ dX7_takeTwos_80
          · replace hf := if_f q9 hf
            refine lv_lload (pc := 71) hx hb dX7_takeTwos_71 (lv_at hl 0 rfl) ?_
            refine lv_lconst (pc := 73) (v := 1) hx hb dX7_takeTwos_73 (by decide) ?_
            refine W.lcmp (pc := 74) hx hb dX7_takeTwos_74 ?_
            refine lv_if_le (pc := 75) (tgt := 81) hx hb dX7_takeTwos_75 (by decide) (fun q10 => ?_) (fun q10 => ?_)
            · replace hf := if_t q10 hf
              refine lv_iinc (pc := 81) (v := (v5 + 1)) (lv' := [(5, .int ((v5 + 1))), (6, .long u5), (0, .ref ((L 0))), (1, .int v1), (2, .int v2)]) hx hb dX7_takeTwos_81 hl (k := 4) rfl rfl (by decide) rfl (fun ls hl => ?_)
              refine lv_goto (pc := 84) (tgt := 23) hx hb dX7_takeTwos_84 (by decide) ?_
              exact ih v1 v2 ((v5 + 1)) b_plan _ _ _ hf hw (lv_sub hl [2, 3, 4, 0] rfl)
            · replace hf := if_f q10 hf
              refine lv_bipush (pc := 78) (v := -5) hx hb dX7_takeTwos_78 (by decide) ?_
              have hf := Option.some.inj hf
              subst hf
              exact zk_reti (pc := 80) (ww := [xU L b_seedNow b_keptSeed b_isKept, xSt ((L 5)) ((L 6)) ((L 7)) ((L 8)) ((L 9)) b_staff.1, xI cy ((L 6)) 8 b_staff.2.1, xI cy ((L 7)) 8 b_staff.2.2.1, xI cy ((L 8)) 8 b_staff.2.2.2.1, xI cy ((L 9)) 8 b_staff.2.2.2.2, xSh ((L 20)) ((L 21)) ((L 22)) ((L 23)), xI cy ((L 21)) 8 b_shelves.1, xI cy ((L 22)) 8 b_shelves.2.1, xRJ cy ((L 23)) 8 (fun j => [some ((L 24)), some ((L 25)), some ((L 26)), some ((L 27)), some ((L 28)), some ((L 29)), some ((L 30)), some ((L 31))].getD j none), xJ cy ((L 24)) 40 ((b_shelves.2.2 0)), xJ cy ((L 25)) 40 ((b_shelves.2.2 1)), xJ cy ((L 26)) 40 ((b_shelves.2.2 2)), xJ cy ((L 27)) 40 ((b_shelves.2.2 3)), xJ cy ((L 28)) 40 ((b_shelves.2.2 4)), xJ cy ((L 29)) 40 ((b_shelves.2.2 5)), xJ cy ((L 30)) 40 ((b_shelves.2.2 6)), xJ cy ((L 31)) 40 ((b_shelves.2.2 7)), xI cy ((L 46)) 48 b_plan]) C hw hr hQ dX7_takeTwos_80
  rw [zf_X7_takeTwos] at hf
  refine lv_aload_n (pc := 0) hx hb dX7_takeTwos_0 rfl (lv_at hl 0 rfl) ?_
  refine lv_iload_n (pc := 1) hx hb dX7_takeTwos_1 rfl (lv_at hl 1 rfl) ?_
  refine lv_iload_n (pc := 2) hx hb dX7_takeTwos_2 rfl (lv_at hl 2 rfl) ?_
  refine lv_bipush (pc := 3) (v := 20) hx hb dX7_takeTwos_3 (by decide) ?_
  refine lv_iconst (pc := 5) (v := 2) hx hb dX7_takeTwos_5 (by decide) ?_
  refine lv_iload_n (pc := 6) hx hb dX7_takeTwos_6 rfl (lv_at hl 3 rfl) ?_
  obtain ⟨u1, u1e, hf⟩ := bd hf
  refine zk_cV (pc := 7) (ci := 7) (q0 := 0) (rest := []) (st1 := [.int u1]) (w' := [xU L b_seedNow b_keptSeed b_isKept, xSt ((L 5)) ((L 6)) ((L 7)) ((L 8)) ((L 9)) b_staff.1, xI cy ((L 6)) 8 b_staff.2.1, xI cy ((L 7)) 8 b_staff.2.2.1, xI cy ((L 8)) 8 b_staff.2.2.2.1, xI cy ((L 9)) 8 b_staff.2.2.2.2, xSh ((L 20)) ((L 21)) ((L 22)) ((L 23)), xI cy ((L 21)) 8 b_shelves.1, xI cy ((L 22)) 8 b_shelves.2.1, xRJ cy ((L 23)) 8 (fun j => [some ((L 24)), some ((L 25)), some ((L 26)), some ((L 27)), some ((L 28)), some ((L 29)), some ((L 30)), some ((L 31))].getD j none), xJ cy ((L 24)) 40 ((b_shelves.2.2 0)), xJ cy ((L 25)) 40 ((b_shelves.2.2 1)), xJ cy ((L 26)) 40 ((b_shelves.2.2 2)), xJ cy ((L 27)) 40 ((b_shelves.2.2 3)), xJ cy ((L 28)) 40 ((b_shelves.2.2 4)), xJ cy ((L 29)) 40 ((b_shelves.2.2 5)), xJ cy ((L 30)) 40 ((b_shelves.2.2 6)), xJ cy ((L 31)) 40 ((b_shelves.2.2 7)), xI cy ((L 46)) 48 b_plan]) (mk := [none, none, none, none, none, none, none, none, none, none, none, none, none, none, none, none, none, none, none]) C hw (c_X7_elementsFault l G cy tt L b_seedNow b_keptSeed b_isKept x1 x2 (((20 : Int32))) (((2 : Int32))) x3 b_shelves _ u1e) zy_X7_elementsFault zm_X7_262 rfl rfl rfl [0, 6, 7, 8, 9, 10, 11, 12, 13, 14, 15, 16, 17] rfl rfl rfl rfl rfl rfl rfl rfl hl.1 ⟨rfl, rfl⟩ ⟨Nat.le_of_ble_eq_true rfl, Nat.le_of_ble_eq_true rfl⟩ rfl (Nat.le_of_ble_eq_true rfl) ⟨Nat.zero_le _, Nat.zero_le _⟩ dX7_takeTwos_7 (fun H locs hw => ?_)
  refine lv_istore (pc := 10) (lv' := [(4, .int u1), (0, .ref ((L 0))), (1, .int x1), (2, .int x2), (3, .int (bI x3))]) hx hb dX7_takeTwos_10 hl (by decide) rfl (fun ls hl => ?_)
  refine lv_iload (pc := 12) hx hb dX7_takeTwos_12 (lv_at hl 0 rfl) ?_
  refine lv_if_eq (pc := 14) (tgt := 20) hx hb dX7_takeTwos_14 (by decide) (fun q2 => ?_) (fun q2 => ?_)
  · replace hf := if_t q2 hf
    refine lv_iconst (pc := 20) (v := 0) hx hb dX7_takeTwos_20 (by decide) ?_
    refine lv_istore (pc := 21) (lv' := [(5, .int ((0 : Int32))), (4, .int u1), (0, .ref ((L 0))), (1, .int x1), (2, .int x2), (3, .int (bI x3))]) hx hb dX7_takeTwos_21 hl (by decide) rfl (fun ls hl => ?_)
    exact J23 FU x1 x2 ((0 : Int32)) b_plan _ _ _ hf hw (lv_sub hl [2, 3, 4, 0] rfl)
  · replace hf := if_f q2 hf
    refine lv_iload (pc := 17) hx hb dX7_takeTwos_17 (lv_at hl 0 rfl) ?_
    have hf := Option.some.inj hf
    subst hf
    exact zk_reti (pc := 19) (ww := [xU L b_seedNow b_keptSeed b_isKept, xSt ((L 5)) ((L 6)) ((L 7)) ((L 8)) ((L 9)) b_staff.1, xI cy ((L 6)) 8 b_staff.2.1, xI cy ((L 7)) 8 b_staff.2.2.1, xI cy ((L 8)) 8 b_staff.2.2.2.1, xI cy ((L 9)) 8 b_staff.2.2.2.2, xSh ((L 20)) ((L 21)) ((L 22)) ((L 23)), xI cy ((L 21)) 8 b_shelves.1, xI cy ((L 22)) 8 b_shelves.2.1, xRJ cy ((L 23)) 8 (fun j => [some ((L 24)), some ((L 25)), some ((L 26)), some ((L 27)), some ((L 28)), some ((L 29)), some ((L 30)), some ((L 31))].getD j none), xJ cy ((L 24)) 40 ((b_shelves.2.2 0)), xJ cy ((L 25)) 40 ((b_shelves.2.2 1)), xJ cy ((L 26)) 40 ((b_shelves.2.2 2)), xJ cy ((L 27)) 40 ((b_shelves.2.2 3)), xJ cy ((L 28)) 40 ((b_shelves.2.2 4)), xJ cy ((L 29)) 40 ((b_shelves.2.2 5)), xJ cy ((L 30)) 40 ((b_shelves.2.2 6)), xJ cy ((L 31)) 40 ((b_shelves.2.2 7)), xI cy ((L 46)) 48 b_plan]) C hw hr hQ dX7_takeTwos_19
def zf_X3_clear  (b_this : TTy) : Option (TTy) := some (((0 : Int32), (-1 : Int32), (-1 : Int32)))
abbrev zr_X3_clear : Room := { frames := 0, cells := 0, slots := 0, locals := 0 }
set_option maxHeartbeats 4000000 in
set_option maxRecDepth 100000 in
theorem c_X3_clear (l : Launch) (G : va_G) (cy : Nat → ClassId) (tt : Nat → Nat) (a0 : Nat)  (b_this : TTy) (res : TTy) (hf : zf_X3_clear b_this = some res) : zCT l yX3_clear cX3_clear 1 none zr_X3_clear G cy tt [.ref a0] [xTy a0 b_this] none [xTy a0 res] := by
  refine zk_start zn_X3 (Nat.le_of_ble_eq_true rfl) ?_
  intro p e s m args below meth c A ls Q C hr hQ hw hl
  have C : zCx p m c s args meth cX3_clear 1 RX3 G cy tt A := C
  have hx := C.1.1
  have hb := C.1.2.1
  have hl : lv_has ls 1 [(0, .ref a0)] := hl
  rw [zf_X3_clear] at hf
  refine lv_aload_n (pc := 0) hx hb dX3_clear_0 rfl (lv_at hl 0 rfl) ?_
  refine lv_iconst (pc := 1) (v := 0) hx hb dX3_clear_1 (by decide) ?_
  refine zk_put (pc := 2) (w' := [xTy a0 (((0 : Int32), b_this.2.1, b_this.2.2))]) C hw zp_X3_9 0 rfl rfl rfl (Nat.le_of_ble_eq_true rfl) rfl dX3_clear_2 (fun H locs hw => ?_)
  refine lv_aload_n (pc := 5) hx hb dX3_clear_5 rfl (lv_at hl 0 rfl) ?_
  refine lv_iconst (pc := 6) (v := -1) hx hb dX3_clear_6 (by decide) ?_
  refine zk_put (pc := 7) (w' := [xTy a0 (((0 : Int32), (-1 : Int32), b_this.2.2))]) C hw zp_X3_15 0 rfl rfl rfl (Nat.le_of_ble_eq_true rfl) rfl dX3_clear_7 (fun H locs hw => ?_)
  refine lv_aload_n (pc := 10) hx hb dX3_clear_10 rfl (lv_at hl 0 rfl) ?_
  refine lv_iconst (pc := 11) (v := -1) hx hb dX3_clear_11 (by decide) ?_
  refine zk_put (pc := 12) (w' := [xTy a0 (((0 : Int32), (-1 : Int32), (-1 : Int32)))]) C hw zp_X3_18 0 rfl rfl rfl (Nat.le_of_ble_eq_true rfl) rfl dX3_clear_12 (fun H locs hw => ?_)
  have hf := Option.some.inj hf
  subst hf
  exact zk_retv (pc := 15) (ww := [xTy a0 (((0 : Int32), (-1 : Int32), (-1 : Int32)))]) C hw hr hQ dX3_clear_15
def zf_X7_fitsTwos_75 (b_plan : Nat → Int32) (b_p2 : TSt) (k2 : Int32 → Int32 → TTe → Option (Bool × TTe)) (v1 : Int32) (v3 : Int32) (t0 : Bool) (t1 : Bool) (b_trial : TTe) : Option (Bool × TTe) := (if (bI t1) = (bI t0) then k2 v1 ((v3 + 1)) b_trial else some (false, b_trial))
def zf_X7_fitsTwos_52 (b_plan : Nat → Int32) (b_p2 : TSt) (k2 : Int32 → Int32 → TTe → Option (Bool × TTe)) (v1 : Int32) (v3 : Int32) (t0 : Bool) (b_trial : TTe) : Option (Bool × TTe) := (if ix ((((2 : Int32) * v3) + (1 : Int32))) 48 then (if (b_plan ((((2 : Int32) * v3) + (1 : Int32))).toNatClampNeg) = (1 : Int32) then zf_X7_fitsTwos_75 b_plan b_p2 k2 v1 v3 true t0 b_trial else zf_X7_fitsTwos_75 b_plan b_p2 k2 v1 v3 false t0 b_trial) else none)
def zf_X7_fitsTwos_2 (b_plan : Nat → Int32) (b_p2 : TSt) : Nat → Int32 → Int32 → TTe → Option (Bool × TTe)
  | 0, _, _, _ => none
  | n + 1, v1, v3, b_trial => (if v1 ≤ v3 then some (true, b_trial) else (if (48 : Int32) ≤ (((2 : Int32) * v3) + (1 : Int32)) then some (true, b_trial) else (if ix (((2 : Int32) * v3)) 48 then (Option.bind (zf_X5_pass (((b_plan (((2 : Int32) * v3)).toNatClampNeg))) b_trial b_p2) (fun u4 => (if u4.2.2.2.2.2.2 = (-1 : Int32) then zf_X7_fitsTwos_52 b_plan b_p2 (zf_X7_fitsTwos_2 b_plan b_p2 n) v1 v3 true u4 else zf_X7_fitsTwos_52 b_plan b_p2 (zf_X7_fitsTwos_2 b_plan b_p2 n) v1 v3 false u4))) else none)))
def zf_X7_fitsTwos (x1 : Int32) (b_trial : TTe) (b_plan : Nat → Int32) (b_p2 : TSt) : Option (Bool × TTe) := zf_X7_fitsTwos_2 b_plan b_p2 FU x1 ((0 : Int32)) b_trial
abbrev zr_X7_fitsTwos : Room := { frames := 3, cells := 0, slots := 0, locals := 68 }
set_option maxHeartbeats 4000000 in
set_option maxRecDepth 100000 in
theorem c_X7_fitsTwos (l : Launch) (G : va_G) (cy : Nat → ClassId) (tt : Nat → Nat) (L : Nat → Nat) (p2_0 p2_1 p2_2 p2_3 p2_4 : Nat) (b_seedNow : Int32) (b_keptSeed : Int32) (b_isKept : Bool) (x1 : Int32) (b_trial : TTe) (b_plan : Nat → Int32) (b_p2 : TSt) (res : Bool × TTe) (hf : zf_X7_fitsTwos x1 b_trial b_plan b_p2 = some res) : zCT l yX7_fitsTwos cX7_fitsTwos 5 (some .boolean) zr_X7_fitsTwos G cy tt [.ref ((L 0)), .int x1, .ref p2_0] [xU L b_seedNow b_keptSeed b_isKept, xTe ((L 2)) b_trial, xI cy ((L 46)) 48 b_plan, xSt p2_0 p2_1 p2_2 p2_3 p2_4 b_p2.1, xI cy p2_1 8 b_p2.2.1, xI cy p2_2 8 b_p2.2.2.1, xI cy p2_3 8 b_p2.2.2.2.1, xI cy p2_4 8 b_p2.2.2.2.2] (some (.int (bI res.1))) [xU L b_seedNow b_keptSeed b_isKept, xTe ((L 2)) res.2, xI cy ((L 46)) 48 b_plan, xSt p2_0 p2_1 p2_2 p2_3 p2_4 b_p2.1, xI cy p2_1 8 b_p2.2.1, xI cy p2_2 8 b_p2.2.2.1, xI cy p2_3 8 b_p2.2.2.2.1, xI cy p2_4 8 b_p2.2.2.2.2] := by
  refine zk_start zn_X7 (Nat.le_of_ble_eq_true rfl) ?_
  intro p e s m args below meth c A ls Q C hr hQ hw hl
  have C : zCx p m c s args meth cX7_fitsTwos 5 RX7 G cy tt A := C
  have hx := C.1.1
  have hb := C.1.2.1
  have hl : lv_has ls 5 [(0, .ref ((L 0))), (1, .int x1), (2, .ref p2_0)] := hl
  have J75 : ∀ (k2 : Int32 → Int32 → TTe → Option (Bool × TTe)) (K2 : ∀ (v1 : Int32) (v3 : Int32) (b_trial : TTe) (H : Heap) (locs : List Loc) (ls : Array Slot), k2 v1 v3 b_trial = some res → zWd G A s.heap H locs [xU L b_seedNow b_keptSeed b_isKept, xTe ((L 2)) b_trial, xI cy ((L 46)) 48 b_plan, xSt p2_0 p2_1 p2_2 p2_3 p2_4 b_p2.1, xI cy p2_1 8 b_p2.2.1, xI cy p2_2 8 b_p2.2.2.1, xI cy p2_3 8 b_p2.2.2.2.1, xI cy p2_4 8 b_p2.2.2.2.2] → lv_has ls 5 [(0, .ref ((L 0))), (1, .int v1), (2, .ref p2_0), (3, .int v3)] → W p l e zr_X7_fitsTwos s m args below meth c H locs 0 0 Q (F0 m 2 ls [])), ∀ (v1 : Int32) (v3 : Int32) (t0 : Bool) (t1 : Bool) (b_trial : TTe) (H : Heap) (locs : List Loc) (ls : Array Slot), zf_X7_fitsTwos_75 b_plan b_p2 k2 v1 v3 t0 t1 b_trial = some res → zWd G A s.heap H locs [xU L b_seedNow b_keptSeed b_isKept, xTe ((L 2)) b_trial, xI cy ((L 46)) 48 b_plan, xSt p2_0 p2_1 p2_2 p2_3 p2_4 b_p2.1, xI cy p2_1 8 b_p2.2.1, xI cy p2_2 8 b_p2.2.2.1, xI cy p2_3 8 b_p2.2.2.2.1, xI cy p2_4 8 b_p2.2.2.2.2] → lv_has ls 5 [(0, .ref ((L 0))), (1, .int v1), (2, .ref p2_0), (3, .int v3)] → W p l e zr_X7_fitsTwos s m args below meth c H locs 0 0 Q (F0 m 75 ls [.int (bI t0), .int (bI t1)]) := by
    intro k2 K2 v1 v3 t0 t1 b_trial H locs ls hf hw hl
    rw [zf_X7_fitsTwos_75] at hf
    refine lv_icmp_eq (pc := 75) (tgt := 80) hx hb dX7_fitsTwos_75 (by decide) (fun q8 => ?_) (fun q8 => ?_)
    · replace hf := if_t q8 hf
      refine lv_iinc (pc := 80) (v := (v3 + 1)) (lv' := [(3, .int ((v3 + 1))), (0, .ref ((L 0))), (1, .int v1), (2, .ref p2_0)]) hx hb dX7_fitsTwos_80 hl (k := 3) rfl rfl (by decide) rfl (fun ls hl => ?_)
      refine lv_goto (pc := 83) (tgt := 2) hx hb dX7_fitsTwos_83 (by decide) ?_
      exact K2 v1 ((v3 + 1)) b_trial _ _ _ hf hw (lv_sub hl [1, 2, 3, 0] rfl)
    · replace hf := if_f q8 hf
      refine lv_iconst (pc := 78) (v := 0) hx hb dX7_fitsTwos_78 (by decide) ?_
      have hf := Option.some.inj hf
      subst hf
      exact zk_retz (pc := 79) (b := false) (ww := [xU L b_seedNow b_keptSeed b_isKept, xTe ((L 2)) b_trial, xI cy ((L 46)) 48 b_plan, xSt p2_0 p2_1 p2_2 p2_3 p2_4 b_p2.1, xI cy p2_1 8 b_p2.2.1, xI cy p2_2 8 b_p2.2.2.1, xI cy p2_3 8 b_p2.2.2.2.1, xI cy p2_4 8 b_p2.2.2.2.2]) C hw hr hQ dX7_fitsTwos_79
  have J52 : ∀ (k2 : Int32 → Int32 → TTe → Option (Bool × TTe)) (K2 : ∀ (v1 : Int32) (v3 : Int32) (b_trial : TTe) (H : Heap) (locs : List Loc) (ls : Array Slot), k2 v1 v3 b_trial = some res → zWd G A s.heap H locs [xU L b_seedNow b_keptSeed b_isKept, xTe ((L 2)) b_trial, xI cy ((L 46)) 48 b_plan, xSt p2_0 p2_1 p2_2 p2_3 p2_4 b_p2.1, xI cy p2_1 8 b_p2.2.1, xI cy p2_2 8 b_p2.2.2.1, xI cy p2_3 8 b_p2.2.2.2.1, xI cy p2_4 8 b_p2.2.2.2.2] → lv_has ls 5 [(0, .ref ((L 0))), (1, .int v1), (2, .ref p2_0), (3, .int v3)] → W p l e zr_X7_fitsTwos s m args below meth c H locs 0 0 Q (F0 m 2 ls [])), ∀ (v1 : Int32) (v3 : Int32) (t0 : Bool) (b_trial : TTe) (H : Heap) (locs : List Loc) (ls : Array Slot), zf_X7_fitsTwos_52 b_plan b_p2 k2 v1 v3 t0 b_trial = some res → zWd G A s.heap H locs [xU L b_seedNow b_keptSeed b_isKept, xTe ((L 2)) b_trial, xI cy ((L 46)) 48 b_plan, xSt p2_0 p2_1 p2_2 p2_3 p2_4 b_p2.1, xI cy p2_1 8 b_p2.2.1, xI cy p2_2 8 b_p2.2.2.1, xI cy p2_3 8 b_p2.2.2.2.1, xI cy p2_4 8 b_p2.2.2.2.2] → lv_has ls 5 [(0, .ref ((L 0))), (1, .int v1), (2, .ref p2_0), (3, .int v3)] → W p l e zr_X7_fitsTwos s m args below meth c H locs 0 0 Q (F0 m 52 ls [.int (bI t0)]) := by
    intro k2 K2 v1 v3 t0 b_trial H locs ls hf hw hl
    rw [zf_X7_fitsTwos_52] at hf
    refine lv_istore (pc := 52) (lv' := [(4, .int (bI t0)), (0, .ref ((L 0))), (1, .int v1), (2, .ref p2_0), (3, .int v3)]) hx hb dX7_fitsTwos_52 hl (by decide) rfl (fun ls hl => ?_)
    refine lv_iload (pc := 54) hx hb dX7_fitsTwos_54 (lv_at hl 0 rfl) ?_
    refine lv_aload_n (pc := 56) hx hb dX7_fitsTwos_56 rfl (lv_at hl 1 rfl) ?_
    refine zk_gt (pc := 57) C hw zl_X7_73 0 rfl rfl dX7_fitsTwos_57 ?_
    refine lv_iconst (pc := 60) (v := 2) hx hb dX7_fitsTwos_60 (by decide) ?_
    refine lv_iload_n (pc := 61) hx hb dX7_fitsTwos_61 rfl (lv_at hl 4 rfl) ?_
    refine lv_imul (pc := 62) hx hb dX7_fitsTwos_62 ?_
    refine lv_iconst (pc := 63) (v := 1) hx hb dX7_fitsTwos_63 (by decide) ?_
    refine lv_iadd (pc := 64) hx hb dX7_fitsTwos_64 ?_
    obtain ⟨q6, hf⟩ := ck hf
    refine zk_iald (pc := 65) C hw 2 rfl q6 dX7_fitsTwos_65 ?_
    refine lv_iconst (pc := 66) (v := 1) hx hb dX7_fitsTwos_66 (by decide) ?_
    refine lv_icmp_ne (pc := 67) (tgt := 74) hx hb dX7_fitsTwos_67 (by decide) (fun q7 => ?_) (fun q7 => ?_)
    · replace hf := if_f q7 hf
      refine lv_iconst (pc := 74) (v := 0) hx hb dX7_fitsTwos_74 (by decide) ?_
      exact J75 k2 K2 v1 v3 false t0 b_trial _ _ _ hf hw (lv_sub hl [1, 2, 3, 4] rfl)
    · replace hf := if_t q7 hf
      refine lv_iconst (pc := 70) (v := 1) hx hb dX7_fitsTwos_70 (by decide) ?_
      refine lv_goto (pc := 71) (tgt := 75) hx hb dX7_fitsTwos_71 (by decide) ?_
      exact J75 k2 K2 v1 v3 true t0 b_trial _ _ _ hf hw (lv_sub hl [1, 2, 3, 4] rfl)
  have J2 : ∀ (n : Nat), ∀ (v1 : Int32) (v3 : Int32) (b_trial : TTe) (H : Heap) (locs : List Loc) (ls : Array Slot), zf_X7_fitsTwos_2 b_plan b_p2 n v1 v3 b_trial = some res → zWd G A s.heap H locs [xU L b_seedNow b_keptSeed b_isKept, xTe ((L 2)) b_trial, xI cy ((L 46)) 48 b_plan, xSt p2_0 p2_1 p2_2 p2_3 p2_4 b_p2.1, xI cy p2_1 8 b_p2.2.1, xI cy p2_2 8 b_p2.2.2.1, xI cy p2_3 8 b_p2.2.2.2.1, xI cy p2_4 8 b_p2.2.2.2.2] → lv_has ls 5 [(0, .ref ((L 0))), (1, .int v1), (2, .ref p2_0), (3, .int v3)] → W p l e zr_X7_fitsTwos s m args below meth c H locs 0 0 Q (F0 m 2 ls []) := by
    intro n
    induction n with
    | zero =>
      intro v1 v3 b_trial H locs ls hf hw hl
      rw [zf_X7_fitsTwos_2] at hf
      cases hf
    | succ n ih =>
      intro v1 v3 b_trial H locs ls hf hw hl
      rw [zf_X7_fitsTwos_2] at hf
      refine lv_iload_n (pc := 2) hx hb dX7_fitsTwos_2 rfl (lv_at hl 3 rfl) ?_
      refine lv_iload_n (pc := 3) hx hb dX7_fitsTwos_3 rfl (lv_at hl 1 rfl) ?_
      refine lv_icmp_ge (pc := 4) (tgt := 86) hx hb dX7_fitsTwos_4 (by decide) (fun q1 => ?_) (fun q1 => ?_)
      · replace hf := if_t q1 hf
        refine lv_iconst (pc := 86) (v := 1) hx hb dX7_fitsTwos_86 (by decide) ?_
        have hf := Option.some.inj hf
        subst hf
        exact zk_retz (pc := 87) (b := true) (ww := [xU L b_seedNow b_keptSeed b_isKept, xTe ((L 2)) b_trial, xI cy ((L 46)) 48 b_plan, xSt p2_0 p2_1 p2_2 p2_3 p2_4 b_p2.1, xI cy p2_1 8 b_p2.2.1, xI cy p2_2 8 b_p2.2.2.1, xI cy p2_3 8 b_p2.2.2.2.1, xI cy p2_4 8 b_p2.2.2.2.2]) C hw hr hQ dX7_fitsTwos_87
      · replace hf := if_f q1 hf
        refine lv_iconst (pc := 7) (v := 2) hx hb dX7_fitsTwos_7 (by decide) ?_
        refine lv_iload_n (pc := 8) hx hb dX7_fitsTwos_8 rfl (lv_at hl 3 rfl) ?_
        refine lv_imul (pc := 9) hx hb dX7_fitsTwos_9 ?_
        refine lv_iconst (pc := 10) (v := 1) hx hb dX7_fitsTwos_10 (by decide) ?_
        refine lv_iadd (pc := 11) hx hb dX7_fitsTwos_11 ?_
        refine lv_aload_n (pc := 12) hx hb dX7_fitsTwos_12 rfl (lv_at hl 0 rfl) ?_
        refine zk_gt (pc := 13) C hw zl_X7_73 0 rfl rfl dX7_fitsTwos_13 ?_
        refine zk_alen (pc := 16) (v := 48) C hw 2 0 rfl rfl rfl dX7_fitsTwos_16 ?_
        refine lv_icmp_ge (pc := 17) (tgt := 86) hx hb dX7_fitsTwos_17 (by decide) (fun q2 => ?_) (fun q2 => ?_)
        · replace hf := if_t q2 hf
          refine lv_iconst (pc := 86) (v := 1) hx hb dX7_fitsTwos_86 (by decide) ?_
          have hf := Option.some.inj hf
          subst hf
          exact zk_retz (pc := 87) (b := true) (ww := [xU L b_seedNow b_keptSeed b_isKept, xTe ((L 2)) b_trial, xI cy ((L 46)) 48 b_plan, xSt p2_0 p2_1 p2_2 p2_3 p2_4 b_p2.1, xI cy p2_1 8 b_p2.2.1, xI cy p2_2 8 b_p2.2.2.1, xI cy p2_3 8 b_p2.2.2.2.1, xI cy p2_4 8 b_p2.2.2.2.2]) C hw hr hQ dX7_fitsTwos_87
        · replace hf := if_f q2 hf
          refine lv_aload_n (pc := 20) hx hb dX7_fitsTwos_20 rfl (lv_at hl 0 rfl) ?_
          refine zk_gt (pc := 21) C hw zl_X7_16 0 rfl rfl dX7_fitsTwos_21 ?_
          refine lv_aload_n (pc := 24) hx hb dX7_fitsTwos_24 rfl (lv_at hl 0 rfl) ?_
          refine zk_gt (pc := 25) C hw zl_X7_73 0 rfl rfl dX7_fitsTwos_25 ?_
          refine lv_iconst (pc := 28) (v := 2) hx hb dX7_fitsTwos_28 (by decide) ?_
          refine lv_iload_n (pc := 29) hx hb dX7_fitsTwos_29 rfl (lv_at hl 3 rfl) ?_
          refine lv_imul (pc := 30) hx hb dX7_fitsTwos_30 ?_
          obtain ⟨q3, hf⟩ := ck hf
          refine zk_iald (pc := 31) C hw 2 rfl q3 dX7_fitsTwos_31 ?_
          refine lv_aload_n (pc := 32) hx hb dX7_fitsTwos_32 rfl (lv_at hl 2 rfl) ?_
          obtain ⟨u4, u4e, hf⟩ := bd hf
          refine zk_cV (pc := 33) (ci := 5) (q0 := 1) (rest := []) (st1 := []) (w' := [xU L b_seedNow b_keptSeed b_isKept, xTe ((L 2)) u4, xI cy ((L 46)) 48 b_plan, xSt p2_0 p2_1 p2_2 p2_3 p2_4 b_p2.1, xI cy p2_1 8 b_p2.2.1, xI cy p2_2 8 b_p2.2.2.1, xI cy p2_3 8 b_p2.2.2.2.1, xI cy p2_4 8 b_p2.2.2.2.2]) (mk := [none, some (xTe ((L 2)) u4), none, none, none, none, none, none]) C hw (c_X5_pass l G cy tt ((L 2)) p2_0 p2_1 p2_2 p2_3 p2_4 (((b_plan (((2 : Int32) * v3)).toNatClampNeg))) b_trial b_p2 _ u4e) zy_X5_pass zm_X7_307 rfl rfl rfl [1, 3, 4, 5, 6, 7] rfl rfl rfl rfl rfl rfl rfl rfl hl.1 ⟨rfl, rfl⟩ ⟨Nat.le_of_ble_eq_true rfl, Nat.le_of_ble_eq_true rfl⟩ rfl (Nat.le_of_ble_eq_true rfl) ⟨Nat.zero_le _, Nat.zero_le _⟩ dX7_fitsTwos_33 (fun H locs hw => ?_)
          refine lv_aload_n (pc := 36) hx hb dX7_fitsTwos_36 rfl (lv_at hl 0 rfl) ?_
          refine zk_gt (pc := 37) C hw zl_X7_16 0 rfl rfl dX7_fitsTwos_37 ?_
          refine zk_gt (pc := 40) C hw zl_X7_403 1 rfl rfl dX7_fitsTwos_40 ?_
          refine lv_iconst (pc := 43) (v := -1) hx hb dX7_fitsTwos_43 (by decide) ?_
          refine lv_icmp_ne (pc := 44) (tgt := 51) hx hb dX7_fitsTwos_44 (by decide) (fun q5 => ?_) (fun q5 => ?_)
          · replace hf := if_f q5 hf
            refine lv_iconst (pc := 51) (v := 0) hx hb dX7_fitsTwos_51 (by decide) ?_
            exact J52 (zf_X7_fitsTwos_2 b_plan b_p2 n) ih v1 v3 false u4 _ _ _ hf hw (lv_sub hl [0, 1, 2, 3] rfl)
          · replace hf := if_t q5 hf
            refine lv_iconst (pc := 47) (v := 1) hx hb dX7_fitsTwos_47 (by decide) ?_
            refine lv_goto (pc := 48) (tgt := 52) hx hb dX7_fitsTwos_48 (by decide) ?_
            exact J52 (zf_X7_fitsTwos_2 b_plan b_p2 n) ih v1 v3 true u4 _ _ _ hf hw (lv_sub hl [0, 1, 2, 3] rfl)
  rw [zf_X7_fitsTwos] at hf
  refine lv_iconst (pc := 0) (v := 0) hx hb dX7_fitsTwos_0 (by decide) ?_
  refine lv_istore_n (pc := 1) (lv' := [(3, .int ((0 : Int32))), (0, .ref ((L 0))), (1, .int x1), (2, .ref p2_0)]) hx hb dX7_fitsTwos_1 rfl hl (by decide) rfl (fun ls hl => ?_)
  exact J2 FU x1 ((0 : Int32)) b_trial _ _ _ hf hw (lv_sub hl [1, 2, 3, 0] rfl)
def zf_X3_add_12 (v1 : Int32) (b_this : TTy) : Option (TTy) := some (((b_this.1 + (1 : Int32)), b_this.2.1, v1))
def zf_X3_add (x1 : Int32) (b_this : TTy) : Option (TTy) := (if b_this.1 = 0 then zf_X3_add_12 x1 ((b_this.1, x1, b_this.2.2)) else zf_X3_add_12 x1 b_this)
abbrev zr_X3_add : Room := { frames := 0, cells := 0, slots := 0, locals := 0 }
set_option maxHeartbeats 4000000 in
set_option maxRecDepth 100000 in
theorem c_X3_add (l : Launch) (G : va_G) (cy : Nat → ClassId) (tt : Nat → Nat) (a0 : Nat) (x1 : Int32) (b_this : TTy) (res : TTy) (hf : zf_X3_add x1 b_this = some res) : zCT l yX3_add cX3_add 2 none zr_X3_add G cy tt [.ref a0, .int x1] [xTy a0 b_this] none [xTy a0 res] := by
  refine zk_start zn_X3 (Nat.le_of_ble_eq_true rfl) ?_
  intro p e s m args below meth c A ls Q C hr hQ hw hl
  have C : zCx p m c s args meth cX3_add 2 RX3 G cy tt A := C
  have hx := C.1.1
  have hb := C.1.2.1
  have hl : lv_has ls 2 [(0, .ref a0), (1, .int x1)] := hl
  have J12 : ∀ (v1 : Int32) (b_this : TTy) (H : Heap) (locs : List Loc) (ls : Array Slot), zf_X3_add_12 v1 b_this = some res → zWd G A s.heap H locs [xTy a0 b_this] → lv_has ls 2 [(0, .ref a0), (1, .int v1)] → W p l e zr_X3_add s m args below meth c H locs 0 0 Q (F0 m 12 ls []) := by
    intro v1 b_this H locs ls hf hw hl
    rw [zf_X3_add_12] at hf
    refine lv_aload_n (pc := 12) hx hb dX3_add_12 rfl (lv_at hl 0 rfl) ?_
    refine lv_iload_n (pc := 13) hx hb dX3_add_13 rfl (lv_at hl 1 rfl) ?_
    refine zk_put (pc := 14) (w' := [xTy a0 ((b_this.1, b_this.2.1, v1))]) C hw zp_X3_18 0 rfl rfl rfl (Nat.le_of_ble_eq_true rfl) rfl dX3_add_14 (fun H locs hw => ?_)
    refine lv_aload_n (pc := 17) hx hb dX3_add_17 rfl (lv_at hl 0 rfl) ?_
    refine lv_dup (pc := 18) hx hb dX3_add_18 rfl ?_
    refine zk_gt (pc := 19) C hw zl_X3_9 0 rfl rfl dX3_add_19 ?_
    refine lv_iconst (pc := 22) (v := 1) hx hb dX3_add_22 (by decide) ?_
    refine lv_iadd (pc := 23) hx hb dX3_add_23 ?_
    refine zk_put (pc := 24) (w' := [xTy a0 (((b_this.1 + (1 : Int32)), b_this.2.1, v1))]) C hw zp_X3_9 0 rfl rfl rfl (Nat.le_of_ble_eq_true rfl) rfl dX3_add_24 (fun H locs hw => ?_)
    have hf := Option.some.inj hf
    subst hf
    exact zk_retv (pc := 27) (ww := [xTy a0 (((b_this.1 + (1 : Int32)), b_this.2.1, v1))]) C hw hr hQ dX3_add_27
  rw [zf_X3_add] at hf
  refine lv_aload_n (pc := 0) hx hb dX3_add_0 rfl (lv_at hl 0 rfl) ?_
  refine zk_gt (pc := 1) C hw zl_X3_9 0 rfl rfl dX3_add_1 ?_
  refine lv_if_ne (pc := 4) (tgt := 12) hx hb dX3_add_4 (by decide) (fun q1 => ?_) (fun q1 => ?_)
  · replace hf := if_f q1 hf
    exact J12 x1 b_this _ _ _ hf hw (lv_sub hl [0, 1] rfl)
  · replace hf := if_t q1 hf
    refine lv_aload_n (pc := 7) hx hb dX3_add_7 rfl (lv_at hl 0 rfl) ?_
    refine lv_iload_n (pc := 8) hx hb dX3_add_8 rfl (lv_at hl 1 rfl) ?_
    refine zk_put (pc := 9) (w' := [xTy a0 ((b_this.1, x1, b_this.2.2))]) C hw zp_X3_15 0 rfl rfl rfl (Nat.le_of_ble_eq_true rfl) rfl dX3_add_9 (fun H locs hw => ?_)
    exact J12 x1 ((b_this.1, x1, b_this.2.2)) _ _ _ hf hw (lv_sub hl [0, 1] rfl)
def zf_X7_tallyRages_69 (b_now : TTe) (b_staff : TSt) (b_plan : Nat → Int32) (k9 : Int32 → Int32 → TTe → TTy → (Nat → Int32) → Option (TTe × TTy × (Nat → Int32))) (v1 : Int32) (v2 : Int32) (b_trial : TTe) (b_tally : TTy) (b_fitting : Nat → Int32) : Option (TTe × TTy × (Nat → Int32)) := k9 v1 ((v2 + 1)) b_trial b_tally b_fitting
def zf_X7_tallyRages_9 (b_now : TTe) (b_staff : TSt) (b_plan : Nat → Int32) : Nat → Int32 → Int32 → TTe → TTy → (Nat → Int32) → Option (TTe × TTy × (Nat → Int32))
  | 0, _, _, _, _, _ => none
  | n + 1, v1, v2, b_trial, b_tally, b_fitting => (if (100 : Int32) ≤ v2 then some (b_trial, b_tally, b_fitting) else (Option.bind (zf_X5_become b_trial b_now) (fun u3 => (Option.bind (zf_X7_fitsTwos v1 ((v2, u3.2.1, u3.2.2.1, u3.2.2.2.1, u3.2.2.2.2.1, u3.2.2.2.2.2.1, u3.2.2.2.2.2.2)) b_plan b_staff) (fun u4 => (if ix v2 100 then (if ix v2 100 then (if (((upd b_fitting v2.toNatClampNeg ((bI u4.1)))) v2.toNatClampNeg) = 0 then zf_X7_tallyRages_69 b_now b_staff b_plan (zf_X7_tallyRages_9 b_now b_staff b_plan n) v1 v2 u4.2 b_tally ((upd b_fitting v2.toNatClampNeg ((bI u4.1)))) else (Option.bind (zf_X3_add v2 b_tally) (fun u8 => zf_X7_tallyRages_69 b_now b_staff b_plan (zf_X7_tallyRages_9 b_now b_staff b_plan n) v1 v2 u4.2 u8 ((upd b_fitting v2.toNatClampNeg ((bI u4.1))))))) else none) else none))))))
def zf_X7_tallyRages (x1 : Int32) (b_now : TTe) (b_trial : TTe) (b_staff : TSt) (b_tally : TTy) (b_plan : Nat → Int32) (b_fitting : Nat → Int32) : Option (TTe × TTy × (Nat → Int32)) := (Option.bind (zf_X3_clear b_tally) (fun u1 => zf_X7_tallyRages_9 b_now b_staff b_plan FU x1 ((0 : Int32)) b_trial u1 b_fitting))
abbrev zr_X7_tallyRages : Room := { frames := 4, cells := 0, slots := 0, locals := 92 }
set_option maxHeartbeats 4000000 in
set_option maxRecDepth 100000 in
theorem c_X7_tallyRages (l : Launch) (G : va_G) (cy : Nat → ClassId) (tt : Nat → Nat) (L : Nat → Nat) (b_seedNow : Int32) (b_keptSeed : Int32) (b_isKept : Bool) (x1 : Int32) (b_now : TTe) (b_trial : TTe) (b_staff : TSt) (b_tally : TTy) (b_plan : Nat → Int32) (b_fitting : Nat → Int32) (res : TTe × TTy × (Nat → Int32)) (hf : zf_X7_tallyRages x1 b_now b_trial b_staff b_tally b_plan b_fitting = some res) : zCT l yX7_tallyRages cX7_tallyRages 3 none zr_X7_tallyRages G cy tt [.ref ((L 0)), .int x1] [xU L b_seedNow b_keptSeed b_isKept, xTe ((L 1)) b_now, xTe ((L 2)) b_trial, xSt ((L 5)) ((L 6)) ((L 7)) ((L 8)) ((L 9)) b_staff.1, xI cy ((L 6)) 8 b_staff.2.1, xI cy ((L 7)) 8 b_staff.2.2.1, xI cy ((L 8)) 8 b_staff.2.2.2.1, xI cy ((L 9)) 8 b_staff.2.2.2.2, xTy ((L 45)) b_tally, xI cy ((L 46)) 48 b_plan, xZ cy ((L 47)) 100 b_fitting] none [xU L b_seedNow b_keptSeed b_isKept, xTe ((L 1)) b_now, xTe ((L 2)) res.1, xSt ((L 5)) ((L 6)) ((L 7)) ((L 8)) ((L 9)) b_staff.1, xI cy ((L 6)) 8 b_staff.2.1, xI cy ((L 7)) 8 b_staff.2.2.1, xI cy ((L 8)) 8 b_staff.2.2.2.1, xI cy ((L 9)) 8 b_staff.2.2.2.2, xTy ((L 45)) res.2.1, xI cy ((L 46)) 48 b_plan, xZ cy ((L 47)) 100 res.2.2] := by
  refine zk_start zn_X7 (Nat.le_of_ble_eq_true rfl) ?_
  intro p e s m args below meth c A ls Q C hr hQ hw hl
  have C : zCx p m c s args meth cX7_tallyRages 3 RX7 G cy tt A := C
  have hx := C.1.1
  have hb := C.1.2.1
  have hl : lv_has ls 3 [(0, .ref ((L 0))), (1, .int x1)] := hl
  have J69 : ∀ (k9 : Int32 → Int32 → TTe → TTy → (Nat → Int32) → Option (TTe × TTy × (Nat → Int32))) (K9 : ∀ (v1 : Int32) (v2 : Int32) (b_trial : TTe) (b_tally : TTy) (b_fitting : Nat → Int32) (H : Heap) (locs : List Loc) (ls : Array Slot), k9 v1 v2 b_trial b_tally b_fitting = some res → zWd G A s.heap H locs [xU L b_seedNow b_keptSeed b_isKept, xTe ((L 1)) b_now, xTe ((L 2)) b_trial, xSt ((L 5)) ((L 6)) ((L 7)) ((L 8)) ((L 9)) b_staff.1, xI cy ((L 6)) 8 b_staff.2.1, xI cy ((L 7)) 8 b_staff.2.2.1, xI cy ((L 8)) 8 b_staff.2.2.2.1, xI cy ((L 9)) 8 b_staff.2.2.2.2, xTy ((L 45)) b_tally, xI cy ((L 46)) 48 b_plan, xZ cy ((L 47)) 100 b_fitting] → lv_has ls 3 [(0, .ref ((L 0))), (1, .int v1), (2, .int v2)] → W p l e zr_X7_tallyRages s m args below meth c H locs 0 0 Q (F0 m 9 ls [])), ∀ (v1 : Int32) (v2 : Int32) (b_trial : TTe) (b_tally : TTy) (b_fitting : Nat → Int32) (H : Heap) (locs : List Loc) (ls : Array Slot), zf_X7_tallyRages_69 b_now b_staff b_plan k9 v1 v2 b_trial b_tally b_fitting = some res → zWd G A s.heap H locs [xU L b_seedNow b_keptSeed b_isKept, xTe ((L 1)) b_now, xTe ((L 2)) b_trial, xSt ((L 5)) ((L 6)) ((L 7)) ((L 8)) ((L 9)) b_staff.1, xI cy ((L 6)) 8 b_staff.2.1, xI cy ((L 7)) 8 b_staff.2.2.1, xI cy ((L 8)) 8 b_staff.2.2.2.1, xI cy ((L 9)) 8 b_staff.2.2.2.2, xTy ((L 45)) b_tally, xI cy ((L 46)) 48 b_plan, xZ cy ((L 47)) 100 b_fitting] → lv_has ls 3 [(0, .ref ((L 0))), (1, .int v1), (2, .int v2)] → W p l e zr_X7_tallyRages s m args below meth c H locs 0 0 Q (F0 m 69 ls []) := by
    intro k9 K9 v1 v2 b_trial b_tally b_fitting H locs ls hf hw hl
    rw [zf_X7_tallyRages_69] at hf
    refine lv_iinc (pc := 69) (v := (v2 + 1)) (lv' := [(2, .int ((v2 + 1))), (0, .ref ((L 0))), (1, .int v1)]) hx hb dX7_tallyRages_69 hl (k := 2) rfl rfl (by decide) rfl (fun ls hl => ?_)
    refine lv_goto (pc := 72) (tgt := 9) hx hb dX7_tallyRages_72 (by decide) ?_
    exact K9 v1 ((v2 + 1)) b_trial b_tally b_fitting _ _ _ hf hw (lv_sub hl [1, 2, 0] rfl)
  have J9 : ∀ (n : Nat), ∀ (v1 : Int32) (v2 : Int32) (b_trial : TTe) (b_tally : TTy) (b_fitting : Nat → Int32) (H : Heap) (locs : List Loc) (ls : Array Slot), zf_X7_tallyRages_9 b_now b_staff b_plan n v1 v2 b_trial b_tally b_fitting = some res → zWd G A s.heap H locs [xU L b_seedNow b_keptSeed b_isKept, xTe ((L 1)) b_now, xTe ((L 2)) b_trial, xSt ((L 5)) ((L 6)) ((L 7)) ((L 8)) ((L 9)) b_staff.1, xI cy ((L 6)) 8 b_staff.2.1, xI cy ((L 7)) 8 b_staff.2.2.1, xI cy ((L 8)) 8 b_staff.2.2.2.1, xI cy ((L 9)) 8 b_staff.2.2.2.2, xTy ((L 45)) b_tally, xI cy ((L 46)) 48 b_plan, xZ cy ((L 47)) 100 b_fitting] → lv_has ls 3 [(0, .ref ((L 0))), (1, .int v1), (2, .int v2)] → W p l e zr_X7_tallyRages s m args below meth c H locs 0 0 Q (F0 m 9 ls []) := by
    intro n
    induction n with
    | zero =>
      intro v1 v2 b_trial b_tally b_fitting H locs ls hf hw hl
      rw [zf_X7_tallyRages_9] at hf
      cases hf
    | succ n ih =>
      intro v1 v2 b_trial b_tally b_fitting H locs ls hf hw hl
      rw [zf_X7_tallyRages_9] at hf
      refine lv_iload_n (pc := 9) hx hb dX7_tallyRages_9 rfl (lv_at hl 2 rfl) ?_
      refine lv_aload_n (pc := 10) hx hb dX7_tallyRages_10 rfl (lv_at hl 0 rfl) ?_
      refine zk_gt (pc := 11) C hw zl_X7_77 0 rfl rfl dX7_tallyRages_11 ?_
      refine zk_alen (pc := 14) (v := 100) C hw 10 2 rfl rfl rfl dX7_tallyRages_14 ?_
      refine lv_icmp_ge (pc := 15) (tgt := 75) hx hb dX7_tallyRages_15 (by decide) (fun q2 => ?_) (fun q2 => ?_)
      · replace hf := if_t q2 hf
        have hf := Option.some.inj hf
        subst hf
        exact zk_retv (pc := 75) (ww := [xU L b_seedNow b_keptSeed b_isKept, xTe ((L 1)) b_now, xTe ((L 2)) b_trial, xSt ((L 5)) ((L 6)) ((L 7)) ((L 8)) ((L 9)) b_staff.1, xI cy ((L 6)) 8 b_staff.2.1, xI cy ((L 7)) 8 b_staff.2.2.1, xI cy ((L 8)) 8 b_staff.2.2.2.1, xI cy ((L 9)) 8 b_staff.2.2.2.2, xTy ((L 45)) b_tally, xI cy ((L 46)) 48 b_plan, xZ cy ((L 47)) 100 b_fitting]) C hw hr hQ dX7_tallyRages_75
      · replace hf := if_f q2 hf
        refine lv_aload_n (pc := 18) hx hb dX7_tallyRages_18 rfl (lv_at hl 0 rfl) ?_
        refine zk_gt (pc := 19) C hw zl_X7_16 0 rfl rfl dX7_tallyRages_19 ?_
        refine lv_aload_n (pc := 22) hx hb dX7_tallyRages_22 rfl (lv_at hl 0 rfl) ?_
        refine zk_gt (pc := 23) C hw zl_X7_10 0 rfl rfl dX7_tallyRages_23 ?_
        obtain ⟨u3, u3e, hf⟩ := bd hf
        refine zk_cV (pc := 26) (ci := 5) (q0 := 2) (rest := []) (st1 := []) (w' := [xU L b_seedNow b_keptSeed b_isKept, xTe ((L 1)) b_now, xTe ((L 2)) u3, xSt ((L 5)) ((L 6)) ((L 7)) ((L 8)) ((L 9)) b_staff.1, xI cy ((L 6)) 8 b_staff.2.1, xI cy ((L 7)) 8 b_staff.2.2.1, xI cy ((L 8)) 8 b_staff.2.2.2.1, xI cy ((L 9)) 8 b_staff.2.2.2.2, xTy ((L 45)) b_tally, xI cy ((L 46)) 48 b_plan, xZ cy ((L 47)) 100 b_fitting]) (mk := [none, none, some (xTe ((L 2)) u3), none, none, none, none, none, none, none, none]) C hw (c_X5_become l G cy tt ((L 2)) ((L 1)) b_trial b_now _ u3e) zy_X5_become zm_X7_193 rfl rfl rfl [2, 1] rfl rfl rfl rfl rfl rfl rfl rfl hl.1 ⟨rfl, rfl⟩ ⟨Nat.le_of_ble_eq_true rfl, Nat.le_of_ble_eq_true rfl⟩ rfl (Nat.le_of_ble_eq_true rfl) ⟨Nat.zero_le _, Nat.zero_le _⟩ dX7_tallyRages_26 (fun H locs hw => ?_)
        refine lv_aload_n (pc := 29) hx hb dX7_tallyRages_29 rfl (lv_at hl 0 rfl) ?_
        refine zk_gt (pc := 30) C hw zl_X7_16 0 rfl rfl dX7_tallyRages_30 ?_
        refine lv_iload_n (pc := 33) hx hb dX7_tallyRages_33 rfl (lv_at hl 2 rfl) ?_
        refine zk_put (pc := 34) (w' := [xU L b_seedNow b_keptSeed b_isKept, xTe ((L 1)) b_now, xTe ((L 2)) ((v2, u3.2.1, u3.2.2.1, u3.2.2.2.1, u3.2.2.2.2.1, u3.2.2.2.2.2.1, u3.2.2.2.2.2.2)), xSt ((L 5)) ((L 6)) ((L 7)) ((L 8)) ((L 9)) b_staff.1, xI cy ((L 6)) 8 b_staff.2.1, xI cy ((L 7)) 8 b_staff.2.2.1, xI cy ((L 8)) 8 b_staff.2.2.2.1, xI cy ((L 9)) 8 b_staff.2.2.2.2, xTy ((L 45)) b_tally, xI cy ((L 46)) 48 b_plan, xZ cy ((L 47)) 100 b_fitting]) C hw zp_X7_330 2 rfl rfl rfl (Nat.le_of_ble_eq_true rfl) rfl dX7_tallyRages_34 (fun H locs hw => ?_)
        refine lv_aload_n (pc := 37) hx hb dX7_tallyRages_37 rfl (lv_at hl 0 rfl) ?_
        refine zk_gt (pc := 38) C hw zl_X7_77 0 rfl rfl dX7_tallyRages_38 ?_
        refine lv_iload_n (pc := 41) hx hb dX7_tallyRages_41 rfl (lv_at hl 2 rfl) ?_
        refine lv_aload_n (pc := 42) hx hb dX7_tallyRages_42 rfl (lv_at hl 0 rfl) ?_
        refine lv_iload_n (pc := 43) hx hb dX7_tallyRages_43 rfl (lv_at hl 1 rfl) ?_
        refine lv_aload_n (pc := 44) hx hb dX7_tallyRages_44 rfl (lv_at hl 0 rfl) ?_
        refine zk_gt (pc := 45) C hw zl_X7_28 0 rfl rfl dX7_tallyRages_45 ?_
        obtain ⟨u4, u4e, hf⟩ := bd hf
        refine zk_cV (pc := 48) (ci := 7) (q0 := 0) (rest := [.int v2, .ref ((L 47))]) (st1 := [.int (bI u4.1), .int v2, .ref ((L 47))]) (w' := [xU L b_seedNow b_keptSeed b_isKept, xTe ((L 1)) b_now, xTe ((L 2)) u4.2, xSt ((L 5)) ((L 6)) ((L 7)) ((L 8)) ((L 9)) b_staff.1, xI cy ((L 6)) 8 b_staff.2.1, xI cy ((L 7)) 8 b_staff.2.2.1, xI cy ((L 8)) 8 b_staff.2.2.2.1, xI cy ((L 9)) 8 b_staff.2.2.2.2, xTy ((L 45)) b_tally, xI cy ((L 46)) 48 b_plan, xZ cy ((L 47)) 100 b_fitting]) (mk := [none, none, some (xTe ((L 2)) u4.2), none, none, none, none, none, none, none, none]) C hw (c_X7_fitsTwos l G cy tt L ((L 5)) ((L 6)) ((L 7)) ((L 8)) ((L 9)) b_seedNow b_keptSeed b_isKept v1 ((v2, u3.2.1, u3.2.2.1, u3.2.2.2.1, u3.2.2.2.2.1, u3.2.2.2.2.2.1, u3.2.2.2.2.2.2)) b_plan b_staff _ u4e) zy_X7_fitsTwos zm_X7_294 rfl rfl rfl [0, 2, 9, 3, 4, 5, 6, 7] rfl rfl rfl rfl rfl rfl rfl rfl hl.1 ⟨rfl, rfl⟩ ⟨Nat.le_of_ble_eq_true rfl, Nat.le_of_ble_eq_true rfl⟩ rfl (Nat.le_of_ble_eq_true rfl) ⟨Nat.zero_le _, Nat.zero_le _⟩ dX7_tallyRages_48 (fun H locs hw => ?_)
        obtain ⟨q5, hf⟩ := ck hf
        refine zk_zast (pc := 51) (bb := u4.1) (w' := [xU L b_seedNow b_keptSeed b_isKept, xTe ((L 1)) b_now, xTe ((L 2)) u4.2, xSt ((L 5)) ((L 6)) ((L 7)) ((L 8)) ((L 9)) b_staff.1, xI cy ((L 6)) 8 b_staff.2.1, xI cy ((L 7)) 8 b_staff.2.2.1, xI cy ((L 8)) 8 b_staff.2.2.2.1, xI cy ((L 9)) 8 b_staff.2.2.2.2, xTy ((L 45)) b_tally, xI cy ((L 46)) 48 b_plan, xZ cy ((L 47)) 100 ((upd b_fitting v2.toNatClampNeg ((bI u4.1))))]) C hw 10 rfl q5 rfl dX7_tallyRages_51 (fun H locs hw => ?_)
        refine lv_aload_n (pc := 52) hx hb dX7_tallyRages_52 rfl (lv_at hl 0 rfl) ?_
        refine zk_gt (pc := 53) C hw zl_X7_77 0 rfl rfl dX7_tallyRages_53 ?_
        refine lv_iload_n (pc := 56) hx hb dX7_tallyRages_56 rfl (lv_at hl 2 rfl) ?_
        obtain ⟨q6, hf⟩ := ck hf
        refine zk_zald (pc := 57) C hw 10 rfl q6 dX7_tallyRages_57 ?_
        refine lv_if_eq (pc := 58) (tgt := 69) hx hb dX7_tallyRages_58 (by decide) (fun q7 => ?_) (fun q7 => ?_)
        · replace hf := if_t q7 hf
          exact J69 (zf_X7_tallyRages_9 b_now b_staff b_plan n) ih v1 v2 u4.2 b_tally ((upd b_fitting v2.toNatClampNeg ((bI u4.1)))) _ _ _ hf hw (lv_sub hl [0, 1, 2] rfl)
        · replace hf := if_f q7 hf
          refine lv_aload_n (pc := 61) hx hb dX7_tallyRages_61 rfl (lv_at hl 0 rfl) ?_
          refine zk_gt (pc := 62) C hw zl_X7_69 0 rfl rfl dX7_tallyRages_62 ?_
          refine lv_iload_n (pc := 65) hx hb dX7_tallyRages_65 rfl (lv_at hl 2 rfl) ?_
          obtain ⟨u8, u8e, hf⟩ := bd hf
          refine zk_cV (pc := 66) (ci := 3) (q0 := 8) (rest := []) (st1 := []) (w' := [xU L b_seedNow b_keptSeed b_isKept, xTe ((L 1)) b_now, xTe ((L 2)) u4.2, xSt ((L 5)) ((L 6)) ((L 7)) ((L 8)) ((L 9)) b_staff.1, xI cy ((L 6)) 8 b_staff.2.1, xI cy ((L 7)) 8 b_staff.2.2.1, xI cy ((L 8)) 8 b_staff.2.2.2.1, xI cy ((L 9)) 8 b_staff.2.2.2.2, xTy ((L 45)) u8, xI cy ((L 46)) 48 b_plan, xZ cy ((L 47)) 100 ((upd b_fitting v2.toNatClampNeg ((bI u4.1))))]) (mk := [none, none, none, none, none, none, none, none, some (xTy ((L 45)) u8), none, none]) C hw (c_X3_add l G cy tt ((L 45)) v2 b_tally _ u8e) zy_X3_add zm_X7_298 rfl rfl rfl [8] rfl rfl rfl rfl rfl rfl rfl rfl hl.1 ⟨rfl, rfl⟩ ⟨Nat.le_of_ble_eq_true rfl, Nat.le_of_ble_eq_true rfl⟩ rfl (Nat.le_of_ble_eq_true rfl) ⟨Nat.zero_le _, Nat.zero_le _⟩ dX7_tallyRages_66 (fun H locs hw => ?_)
          exact J69 (zf_X7_tallyRages_9 b_now b_staff b_plan n) ih v1 v2 u4.2 u8 ((upd b_fitting v2.toNatClampNeg ((bI u4.1)))) _ _ _ hf hw (lv_sub hl [0, 1, 2] rfl)
  rw [zf_X7_tallyRages] at hf
  refine lv_aload_n (pc := 0) hx hb dX7_tallyRages_0 rfl (lv_at hl 0 rfl) ?_
  refine zk_gt (pc := 1) C hw zl_X7_69 0 rfl rfl dX7_tallyRages_1 ?_
  obtain ⟨u1, u1e, hf⟩ := bd hf
  refine zk_cV (pc := 4) (ci := 3) (q0 := 8) (rest := []) (st1 := []) (w' := [xU L b_seedNow b_keptSeed b_isKept, xTe ((L 1)) b_now, xTe ((L 2)) b_trial, xSt ((L 5)) ((L 6)) ((L 7)) ((L 8)) ((L 9)) b_staff.1, xI cy ((L 6)) 8 b_staff.2.1, xI cy ((L 7)) 8 b_staff.2.2.1, xI cy ((L 8)) 8 b_staff.2.2.2.1, xI cy ((L 9)) 8 b_staff.2.2.2.2, xTy ((L 45)) u1, xI cy ((L 46)) 48 b_plan, xZ cy ((L 47)) 100 b_fitting]) (mk := [none, none, none, none, none, none, none, none, some (xTy ((L 45)) u1), none, none]) C hw (c_X3_clear l G cy tt ((L 45)) b_tally _ u1e) zy_X3_clear zm_X7_292 rfl rfl rfl [8] rfl rfl rfl rfl rfl rfl rfl rfl hl.1 ⟨rfl, rfl⟩ ⟨Nat.le_of_ble_eq_true rfl, Nat.le_of_ble_eq_true rfl⟩ rfl (Nat.le_of_ble_eq_true rfl) ⟨Nat.zero_le _, Nat.zero_le _⟩ dX7_tallyRages_4 (fun H locs hw => ?_)
  refine lv_iconst (pc := 7) (v := 0) hx hb dX7_tallyRages_7 (by decide) ?_
  refine lv_istore_n (pc := 8) (lv' := [(2, .int ((0 : Int32))), (0, .ref ((L 0))), (1, .int x1)]) hx hb dX7_tallyRages_8 rfl hl (by decide) rfl (fun ls hl => ?_)
  exact J9 FU x1 ((0 : Int32)) b_trial u1 b_fitting _ _ _ hf hw (lv_sub hl [1, 2, 0] rfl)
def zf_X3_told (x1 : Int32) (b_this : TTy) : Option (Int32) := (if x1 = 0 then some (b_this.1) else (if x1 = 1 then some (b_this.2.1) else some (b_this.2.2)))
abbrev zr_X3_told : Room := { frames := 0, cells := 0, slots := 0, locals := 0 }
set_option maxHeartbeats 4000000 in
set_option maxRecDepth 100000 in
theorem c_X3_told (l : Launch) (G : va_G) (cy : Nat → ClassId) (tt : Nat → Nat) (a0 : Nat) (x1 : Int32) (b_this : TTy) (res : Int32) (hf : zf_X3_told x1 b_this = some res) : zCT l yX3_told cX3_told 2 (some .int) zr_X3_told G cy tt [.ref a0, .int x1] [xTy a0 b_this] (some (.int res)) [xTy a0 b_this] := by
  refine zk_start zn_X3 (Nat.le_of_ble_eq_true rfl) ?_
  intro p e s m args below meth c A ls Q C hr hQ hw hl
  have C : zCx p m c s args meth cX3_told 2 RX3 G cy tt A := C
  have hx := C.1.1
  have hb := C.1.2.1
  have hl : lv_has ls 2 [(0, .ref a0), (1, .int x1)] := hl
  rw [zf_X3_told] at hf
  refine lv_iload_n (pc := 0) hx hb dX3_told_0 rfl (lv_at hl 1 rfl) ?_
  by_cases q1 : x1 = (0 : Int32)
  · replace hf := if_t q1 hf
    refine zk_lkIn (pc := 1) (off := 27) (tgt := 28) q1 C dX3_told_1 (by decide +kernel) (by decide +kernel) (by decide) ?_
    refine lv_aload_n (pc := 28) hx hb dX3_told_28 rfl (lv_at hl 0 rfl) ?_
    refine zk_gt (pc := 29) C hw zl_X3_9 0 rfl rfl dX3_told_29 ?_
    have hf := Option.some.inj hf
    subst hf
    exact zk_reti (pc := 32) (ww := [xTy a0 b_this]) C hw hr hQ dX3_told_32
  · replace hf := if_f q1 hf
    by_cases q2 : x1 = (1 : Int32)
    · replace hf := if_t q2 hf
      refine zk_lkIn (pc := 1) (off := 32) (tgt := 33) q2 C dX3_told_1 (by decide +kernel) (by decide +kernel) (by decide) ?_
      refine lv_aload_n (pc := 33) hx hb dX3_told_33 rfl (lv_at hl 0 rfl) ?_
      refine zk_gt (pc := 34) C hw zl_X3_15 0 rfl rfl dX3_told_34 ?_
      have hf := Option.some.inj hf
      subst hf
      exact zk_reti (pc := 37) (ww := [xTy a0 b_this]) C hw hr hQ dX3_told_37
    · replace hf := if_f q2 hf
      have eq1 := i32_ne (n := 0) (by decide) q1
      have eq2 := i32_ne (n := 1) (by decide) q2
      refine lv_lookup (pc := 1) (off := 37) (tgt := 38) hx hb dX3_told_1 (by decide +kernel) (by simp [Op.lookupswitch.offset, Ne.symm eq1, Ne.symm eq2]; done) (by decide) ?_
      refine lv_aload_n (pc := 38) hx hb dX3_told_38 rfl (lv_at hl 0 rfl) ?_
      refine zk_gt (pc := 39) C hw zl_X3_18 0 rfl rfl dX3_told_39 ?_
      have hf := Option.some.inj hf
      subst hf
      exact zk_reti (pc := 42) (ww := [xTy a0 b_this]) C hw hr hQ dX3_told_42
def zf_X7_rages (x1 : Int32) (x2 : Int32) (x3 : Int32) (b_now : TTe) (b_trial : TTe) (b_staff : TSt) (b_shelves : TSh) (b_tally : TTy) (b_plan : Nat → Int32) (b_fitting : Nat → Int32) (b_refusals : Nat → Int32) : Option (Int32 × TTe × TTy × (Nat → Int32) × (Nat → Int32) × (Nat → Int32)) := (Option.bind (zf_X7_isWithin x3 (((0 : Int32))) (((2 : Int32)))) (fun u1 => (Option.bind (zf_X7_takeTwos x1 x2 u1 b_staff b_shelves b_plan) (fun u2 => (if u2.1 = 0 then (Option.bind (zf_X7_tallyRages x2 b_now b_trial b_staff b_tally u2.2 b_fitting) (fun u4 => (Option.bind (zf_X3_told x3 u4.2.1) (fun u5 => some (u5, u4.1, u4.2.1, u2.2, u4.2.2, b_refusals))))) else (Option.bind (zf_X7_refused u2.1 b_refusals) (fun u6 => some (u6.1, b_trial, b_tally, u2.2, b_fitting, u6.2))))))))
abbrev zr_X7_rages : Room := { frames := 6, cells := 0, slots := 0, locals := 137 }
set_option maxHeartbeats 4000000 in
set_option maxRecDepth 100000 in
theorem c_X7_rages (l : Launch) (G : va_G) (cy : Nat → ClassId) (tt : Nat → Nat) (L : Nat → Nat) (b_seedNow : Int32) (b_keptSeed : Int32) (b_isKept : Bool) (x1 : Int32) (x2 : Int32) (x3 : Int32) (b_now : TTe) (b_trial : TTe) (b_staff : TSt) (b_shelves : TSh) (b_tally : TTy) (b_plan : Nat → Int32) (b_fitting : Nat → Int32) (b_refusals : Nat → Int32) (res : Int32 × TTe × TTy × (Nat → Int32) × (Nat → Int32) × (Nat → Int32)) (hf : zf_X7_rages x1 x2 x3 b_now b_trial b_staff b_shelves b_tally b_plan b_fitting b_refusals = some res) : zCT l yX7_rages cX7_rages 5 (some .int) zr_X7_rages G cy tt [.ref ((L 0)), .int x1, .int x2, .int x3] [xU L b_seedNow b_keptSeed b_isKept, xTe ((L 1)) b_now, xTe ((L 2)) b_trial, xSt ((L 5)) ((L 6)) ((L 7)) ((L 8)) ((L 9)) b_staff.1, xI cy ((L 6)) 8 b_staff.2.1, xI cy ((L 7)) 8 b_staff.2.2.1, xI cy ((L 8)) 8 b_staff.2.2.2.1, xI cy ((L 9)) 8 b_staff.2.2.2.2, xSh ((L 20)) ((L 21)) ((L 22)) ((L 23)), xI cy ((L 21)) 8 b_shelves.1, xI cy ((L 22)) 8 b_shelves.2.1, xRJ cy ((L 23)) 8 (fun j => [some ((L 24)), some ((L 25)), some ((L 26)), some ((L 27)), some ((L 28)), some ((L 29)), some ((L 30)), some ((L 31))].getD j none), xJ cy ((L 24)) 40 ((b_shelves.2.2 0)), xJ cy ((L 25)) 40 ((b_shelves.2.2 1)), xJ cy ((L 26)) 40 ((b_shelves.2.2 2)), xJ cy ((L 27)) 40 ((b_shelves.2.2 3)), xJ cy ((L 28)) 40 ((b_shelves.2.2 4)), xJ cy ((L 29)) 40 ((b_shelves.2.2 5)), xJ cy ((L 30)) 40 ((b_shelves.2.2 6)), xJ cy ((L 31)) 40 ((b_shelves.2.2 7)), xTy ((L 45)) b_tally, xI cy ((L 46)) 48 b_plan, xZ cy ((L 47)) 100 b_fitting, xI cy ((L 48)) 5 b_refusals] (some (.int res.1)) [xU L b_seedNow b_keptSeed b_isKept, xTe ((L 1)) b_now, xTe ((L 2)) res.2.1, xSt ((L 5)) ((L 6)) ((L 7)) ((L 8)) ((L 9)) b_staff.1, xI cy ((L 6)) 8 b_staff.2.1, xI cy ((L 7)) 8 b_staff.2.2.1, xI cy ((L 8)) 8 b_staff.2.2.2.1, xI cy ((L 9)) 8 b_staff.2.2.2.2, xSh ((L 20)) ((L 21)) ((L 22)) ((L 23)), xI cy ((L 21)) 8 b_shelves.1, xI cy ((L 22)) 8 b_shelves.2.1, xRJ cy ((L 23)) 8 (fun j => [some ((L 24)), some ((L 25)), some ((L 26)), some ((L 27)), some ((L 28)), some ((L 29)), some ((L 30)), some ((L 31))].getD j none), xJ cy ((L 24)) 40 ((b_shelves.2.2 0)), xJ cy ((L 25)) 40 ((b_shelves.2.2 1)), xJ cy ((L 26)) 40 ((b_shelves.2.2 2)), xJ cy ((L 27)) 40 ((b_shelves.2.2 3)), xJ cy ((L 28)) 40 ((b_shelves.2.2 4)), xJ cy ((L 29)) 40 ((b_shelves.2.2 5)), xJ cy ((L 30)) 40 ((b_shelves.2.2 6)), xJ cy ((L 31)) 40 ((b_shelves.2.2 7)), xTy ((L 45)) res.2.2.1, xI cy ((L 46)) 48 res.2.2.2.1, xZ cy ((L 47)) 100 res.2.2.2.2.1, xI cy ((L 48)) 5 res.2.2.2.2.2] := by
  refine zk_start zn_X7 (Nat.le_of_ble_eq_true rfl) ?_
  intro p e s m args below meth c A ls Q C hr hQ hw hl
  have C : zCx p m c s args meth cX7_rages 5 RX7 G cy tt A := C
  have hx := C.1.1
  have hb := C.1.2.1
  have hl : lv_has ls 5 [(0, .ref ((L 0))), (1, .int x1), (2, .int x2), (3, .int x3)] := hl
  rw [zf_X7_rages] at hf
  refine lv_aload_n (pc := 0) hx hb dX7_rages_0 rfl (lv_at hl 0 rfl) ?_
  refine lv_iload_n (pc := 1) hx hb dX7_rages_1 rfl (lv_at hl 1 rfl) ?_
  refine lv_iload_n (pc := 2) hx hb dX7_rages_2 rfl (lv_at hl 2 rfl) ?_
  refine lv_iload_n (pc := 3) hx hb dX7_rages_3 rfl (lv_at hl 3 rfl) ?_
  refine lv_iconst (pc := 4) (v := 0) hx hb dX7_rages_4 (by decide) ?_
  refine lv_iconst (pc := 5) (v := 2) hx hb dX7_rages_5 (by decide) ?_
  obtain ⟨u1, u1e, hf⟩ := bd hf
  refine zk_cS (pc := 6) (rest := [.int x2, .int x1, .ref ((L 0))]) (st1 := [.int (bI u1), .int x2, .int x1, .ref ((L 0))]) (w' := [xU L b_seedNow b_keptSeed b_isKept, xTe ((L 1)) b_now, xTe ((L 2)) b_trial, xSt ((L 5)) ((L 6)) ((L 7)) ((L 8)) ((L 9)) b_staff.1, xI cy ((L 6)) 8 b_staff.2.1, xI cy ((L 7)) 8 b_staff.2.2.1, xI cy ((L 8)) 8 b_staff.2.2.2.1, xI cy ((L 9)) 8 b_staff.2.2.2.2, xSh ((L 20)) ((L 21)) ((L 22)) ((L 23)), xI cy ((L 21)) 8 b_shelves.1, xI cy ((L 22)) 8 b_shelves.2.1, xRJ cy ((L 23)) 8 (fun j => [some ((L 24)), some ((L 25)), some ((L 26)), some ((L 27)), some ((L 28)), some ((L 29)), some ((L 30)), some ((L 31))].getD j none), xJ cy ((L 24)) 40 ((b_shelves.2.2 0)), xJ cy ((L 25)) 40 ((b_shelves.2.2 1)), xJ cy ((L 26)) 40 ((b_shelves.2.2 2)), xJ cy ((L 27)) 40 ((b_shelves.2.2 3)), xJ cy ((L 28)) 40 ((b_shelves.2.2 4)), xJ cy ((L 29)) 40 ((b_shelves.2.2 5)), xJ cy ((L 30)) 40 ((b_shelves.2.2 6)), xJ cy ((L 31)) 40 ((b_shelves.2.2 7)), xTy ((L 45)) b_tally, xI cy ((L 46)) 48 b_plan, xZ cy ((L 47)) 100 b_fitting, xI cy ((L 48)) 5 b_refusals]) (mk := [none, none, none, none, none, none, none, none, none, none, none, none, none, none, none, none, none, none, none, none, none, none, none, none]) C hw (c_X7_isWithin l G cy tt x3 (((0 : Int32))) (((2 : Int32))) _ u1e) zy_X7_isWithin zm_X7_99 [] rfl rfl rfl rfl rfl rfl rfl rfl hl.1 ⟨rfl, rfl⟩ ⟨Nat.le_of_ble_eq_true rfl, Nat.le_of_ble_eq_true rfl⟩ rfl (Nat.le_of_ble_eq_true rfl) ⟨Nat.zero_le _, Nat.zero_le _⟩ dX7_rages_6 (fun H locs hw => ?_)
  obtain ⟨u2, u2e, hf⟩ := bd hf
  refine zk_cV (pc := 9) (ci := 7) (q0 := 0) (rest := []) (st1 := [.int u2.1]) (w' := [xU L b_seedNow b_keptSeed b_isKept, xTe ((L 1)) b_now, xTe ((L 2)) b_trial, xSt ((L 5)) ((L 6)) ((L 7)) ((L 8)) ((L 9)) b_staff.1, xI cy ((L 6)) 8 b_staff.2.1, xI cy ((L 7)) 8 b_staff.2.2.1, xI cy ((L 8)) 8 b_staff.2.2.2.1, xI cy ((L 9)) 8 b_staff.2.2.2.2, xSh ((L 20)) ((L 21)) ((L 22)) ((L 23)), xI cy ((L 21)) 8 b_shelves.1, xI cy ((L 22)) 8 b_shelves.2.1, xRJ cy ((L 23)) 8 (fun j => [some ((L 24)), some ((L 25)), some ((L 26)), some ((L 27)), some ((L 28)), some ((L 29)), some ((L 30)), some ((L 31))].getD j none), xJ cy ((L 24)) 40 ((b_shelves.2.2 0)), xJ cy ((L 25)) 40 ((b_shelves.2.2 1)), xJ cy ((L 26)) 40 ((b_shelves.2.2 2)), xJ cy ((L 27)) 40 ((b_shelves.2.2 3)), xJ cy ((L 28)) 40 ((b_shelves.2.2 4)), xJ cy ((L 29)) 40 ((b_shelves.2.2 5)), xJ cy ((L 30)) 40 ((b_shelves.2.2 6)), xJ cy ((L 31)) 40 ((b_shelves.2.2 7)), xTy ((L 45)) b_tally, xI cy ((L 46)) 48 u2.2, xZ cy ((L 47)) 100 b_fitting, xI cy ((L 48)) 5 b_refusals]) (mk := [none, none, none, none, none, none, none, none, none, none, none, none, none, none, none, none, none, none, none, none, none, some (xI cy ((L 46)) 48 u2.2), none, none]) C hw (c_X7_takeTwos l G cy tt L b_seedNow b_keptSeed b_isKept x1 x2 u1 b_staff b_shelves b_plan _ u2e) zy_X7_takeTwos zm_X7_283 rfl rfl rfl [0, 3, 4, 5, 6, 7, 8, 9, 10, 11, 12, 13, 14, 15, 16, 17, 18, 19, 21] rfl rfl rfl rfl rfl rfl rfl rfl hl.1 ⟨rfl, rfl⟩ ⟨Nat.le_of_ble_eq_true rfl, Nat.le_of_ble_eq_true rfl⟩ rfl (Nat.le_of_ble_eq_true rfl) ⟨Nat.zero_le _, Nat.zero_le _⟩ dX7_rages_9 (fun H locs hw => ?_)
  refine lv_istore (pc := 12) (lv' := [(4, .int u2.1), (0, .ref ((L 0))), (1, .int x1), (2, .int x2), (3, .int x3)]) hx hb dX7_rages_12 hl (by decide) rfl (fun ls hl => ?_)
  refine lv_iload (pc := 14) hx hb dX7_rages_14 (lv_at hl 0 rfl) ?_
  refine lv_if_eq (pc := 16) (tgt := 26) hx hb dX7_rages_16 (by decide) (fun q3 => ?_) (fun q3 => ?_)
  · replace hf := if_t q3 hf
    refine lv_aload_n (pc := 26) hx hb dX7_rages_26 rfl (lv_at hl 1 rfl) ?_
    refine lv_iload_n (pc := 27) hx hb dX7_rages_27 rfl (lv_at hl 3 rfl) ?_
    obtain ⟨u4, u4e, hf⟩ := bd hf
    refine zk_cV (pc := 28) (ci := 7) (q0 := 0) (rest := []) (st1 := []) (w' := [xU L b_seedNow b_keptSeed b_isKept, xTe ((L 1)) b_now, xTe ((L 2)) u4.1, xSt ((L 5)) ((L 6)) ((L 7)) ((L 8)) ((L 9)) b_staff.1, xI cy ((L 6)) 8 b_staff.2.1, xI cy ((L 7)) 8 b_staff.2.2.1, xI cy ((L 8)) 8 b_staff.2.2.2.1, xI cy ((L 9)) 8 b_staff.2.2.2.2, xSh ((L 20)) ((L 21)) ((L 22)) ((L 23)), xI cy ((L 21)) 8 b_shelves.1, xI cy ((L 22)) 8 b_shelves.2.1, xRJ cy ((L 23)) 8 (fun j => [some ((L 24)), some ((L 25)), some ((L 26)), some ((L 27)), some ((L 28)), some ((L 29)), some ((L 30)), some ((L 31))].getD j none), xJ cy ((L 24)) 40 ((b_shelves.2.2 0)), xJ cy ((L 25)) 40 ((b_shelves.2.2 1)), xJ cy ((L 26)) 40 ((b_shelves.2.2 2)), xJ cy ((L 27)) 40 ((b_shelves.2.2 3)), xJ cy ((L 28)) 40 ((b_shelves.2.2 4)), xJ cy ((L 29)) 40 ((b_shelves.2.2 5)), xJ cy ((L 30)) 40 ((b_shelves.2.2 6)), xJ cy ((L 31)) 40 ((b_shelves.2.2 7)), xTy ((L 45)) u4.2.1, xI cy ((L 46)) 48 u2.2, xZ cy ((L 47)) 100 u4.2.2, xI cy ((L 48)) 5 b_refusals]) (mk := [none, none, some (xTe ((L 2)) u4.1), none, none, none, none, none, none, none, none, none, none, none, none, none, none, none, none, none, some (xTy ((L 45)) u4.2.1), none, some (xZ cy ((L 47)) 100 u4.2.2), none]) C hw (c_X7_tallyRages l G cy tt L b_seedNow b_keptSeed b_isKept x2 b_now b_trial b_staff b_tally u2.2 b_fitting _ u4e) zy_X7_tallyRages zm_X7_286 rfl rfl rfl [0, 1, 2, 3, 4, 5, 6, 7, 20, 21, 22] rfl rfl rfl rfl rfl rfl rfl rfl hl.1 ⟨rfl, rfl⟩ ⟨Nat.le_of_ble_eq_true rfl, Nat.le_of_ble_eq_true rfl⟩ rfl (Nat.le_of_ble_eq_true rfl) ⟨Nat.zero_le _, Nat.zero_le _⟩ dX7_rages_28 (fun H locs hw => ?_)
    refine lv_aload_n (pc := 31) hx hb dX7_rages_31 rfl (lv_at hl 1 rfl) ?_
    refine zk_gt (pc := 32) C hw zl_X7_69 0 rfl rfl dX7_rages_32 ?_
    refine lv_iload_n (pc := 35) hx hb dX7_rages_35 rfl (lv_at hl 4 rfl) ?_
    obtain ⟨u5, u5e, hf⟩ := bd hf
    refine zk_cV (pc := 36) (ci := 3) (q0 := 20) (rest := []) (st1 := [.int u5]) (w' := [xU L b_seedNow b_keptSeed b_isKept, xTe ((L 1)) b_now, xTe ((L 2)) u4.1, xSt ((L 5)) ((L 6)) ((L 7)) ((L 8)) ((L 9)) b_staff.1, xI cy ((L 6)) 8 b_staff.2.1, xI cy ((L 7)) 8 b_staff.2.2.1, xI cy ((L 8)) 8 b_staff.2.2.2.1, xI cy ((L 9)) 8 b_staff.2.2.2.2, xSh ((L 20)) ((L 21)) ((L 22)) ((L 23)), xI cy ((L 21)) 8 b_shelves.1, xI cy ((L 22)) 8 b_shelves.2.1, xRJ cy ((L 23)) 8 (fun j => [some ((L 24)), some ((L 25)), some ((L 26)), some ((L 27)), some ((L 28)), some ((L 29)), some ((L 30)), some ((L 31))].getD j none), xJ cy ((L 24)) 40 ((b_shelves.2.2 0)), xJ cy ((L 25)) 40 ((b_shelves.2.2 1)), xJ cy ((L 26)) 40 ((b_shelves.2.2 2)), xJ cy ((L 27)) 40 ((b_shelves.2.2 3)), xJ cy ((L 28)) 40 ((b_shelves.2.2 4)), xJ cy ((L 29)) 40 ((b_shelves.2.2 5)), xJ cy ((L 30)) 40 ((b_shelves.2.2 6)), xJ cy ((L 31)) 40 ((b_shelves.2.2 7)), xTy ((L 45)) u4.2.1, xI cy ((L 46)) 48 u2.2, xZ cy ((L 47)) 100 u4.2.2, xI cy ((L 48)) 5 b_refusals]) (mk := [none, none, none, none, none, none, none, none, none, none, none, none, none, none, none, none, none, none, none, none, none, none, none, none]) C hw (c_X3_told l G cy tt ((L 45)) x3 u4.2.1 _ u5e) zy_X3_told zm_X7_289 rfl rfl rfl [20] rfl rfl rfl rfl rfl rfl rfl rfl hl.1 ⟨rfl, rfl⟩ ⟨Nat.le_of_ble_eq_true rfl, Nat.le_of_ble_eq_true rfl⟩ rfl (Nat.le_of_ble_eq_true rfl) ⟨Nat.zero_le _, Nat.zero_le _⟩ dX7_rages_36 (fun H locs hw => ?_)
    have hf := Option.some.inj hf
    subst hf
    exact zk_reti (pc := 39) (ww := [xU L b_seedNow b_keptSeed b_isKept, xTe ((L 1)) b_now, xTe ((L 2)) u4.1, xSt ((L 5)) ((L 6)) ((L 7)) ((L 8)) ((L 9)) b_staff.1, xI cy ((L 6)) 8 b_staff.2.1, xI cy ((L 7)) 8 b_staff.2.2.1, xI cy ((L 8)) 8 b_staff.2.2.2.1, xI cy ((L 9)) 8 b_staff.2.2.2.2, xSh ((L 20)) ((L 21)) ((L 22)) ((L 23)), xI cy ((L 21)) 8 b_shelves.1, xI cy ((L 22)) 8 b_shelves.2.1, xRJ cy ((L 23)) 8 (fun j => [some ((L 24)), some ((L 25)), some ((L 26)), some ((L 27)), some ((L 28)), some ((L 29)), some ((L 30)), some ((L 31))].getD j none), xJ cy ((L 24)) 40 ((b_shelves.2.2 0)), xJ cy ((L 25)) 40 ((b_shelves.2.2 1)), xJ cy ((L 26)) 40 ((b_shelves.2.2 2)), xJ cy ((L 27)) 40 ((b_shelves.2.2 3)), xJ cy ((L 28)) 40 ((b_shelves.2.2 4)), xJ cy ((L 29)) 40 ((b_shelves.2.2 5)), xJ cy ((L 30)) 40 ((b_shelves.2.2 6)), xJ cy ((L 31)) 40 ((b_shelves.2.2 7)), xTy ((L 45)) u4.2.1, xI cy ((L 46)) 48 u2.2, xZ cy ((L 47)) 100 u4.2.2, xI cy ((L 48)) 5 b_refusals]) C hw hr hQ dX7_rages_39
  · replace hf := if_f q3 hf
    refine lv_aload_n (pc := 19) hx hb dX7_rages_19 rfl (lv_at hl 1 rfl) ?_
    refine lv_iload (pc := 20) hx hb dX7_rages_20 (lv_at hl 0 rfl) ?_
    obtain ⟨u6, u6e, hf⟩ := bd hf
    refine zk_cV (pc := 22) (ci := 7) (q0 := 0) (rest := []) (st1 := [.int u6.1]) (w' := [xU L b_seedNow b_keptSeed b_isKept, xTe ((L 1)) b_now, xTe ((L 2)) b_trial, xSt ((L 5)) ((L 6)) ((L 7)) ((L 8)) ((L 9)) b_staff.1, xI cy ((L 6)) 8 b_staff.2.1, xI cy ((L 7)) 8 b_staff.2.2.1, xI cy ((L 8)) 8 b_staff.2.2.2.1, xI cy ((L 9)) 8 b_staff.2.2.2.2, xSh ((L 20)) ((L 21)) ((L 22)) ((L 23)), xI cy ((L 21)) 8 b_shelves.1, xI cy ((L 22)) 8 b_shelves.2.1, xRJ cy ((L 23)) 8 (fun j => [some ((L 24)), some ((L 25)), some ((L 26)), some ((L 27)), some ((L 28)), some ((L 29)), some ((L 30)), some ((L 31))].getD j none), xJ cy ((L 24)) 40 ((b_shelves.2.2 0)), xJ cy ((L 25)) 40 ((b_shelves.2.2 1)), xJ cy ((L 26)) 40 ((b_shelves.2.2 2)), xJ cy ((L 27)) 40 ((b_shelves.2.2 3)), xJ cy ((L 28)) 40 ((b_shelves.2.2 4)), xJ cy ((L 29)) 40 ((b_shelves.2.2 5)), xJ cy ((L 30)) 40 ((b_shelves.2.2 6)), xJ cy ((L 31)) 40 ((b_shelves.2.2 7)), xTy ((L 45)) b_tally, xI cy ((L 46)) 48 u2.2, xZ cy ((L 47)) 100 b_fitting, xI cy ((L 48)) 5 u6.2]) (mk := [none, none, none, none, none, none, none, none, none, none, none, none, none, none, none, none, none, none, none, none, none, none, none, some (xI cy ((L 48)) 5 u6.2)]) C hw (c_X7_refused l G cy tt L b_seedNow b_keptSeed b_isKept u2.1 b_refusals _ u6e) zy_X7_refused zm_X7_103 rfl rfl rfl [0, 23] rfl rfl rfl rfl rfl rfl rfl rfl hl.1 ⟨rfl, rfl⟩ ⟨Nat.le_of_ble_eq_true rfl, Nat.le_of_ble_eq_true rfl⟩ rfl (Nat.le_of_ble_eq_true rfl) ⟨Nat.zero_le _, Nat.zero_le _⟩ dX7_rages_22 (fun H locs hw => ?_)
    have hf := Option.some.inj hf
    subst hf
    exact zk_reti (pc := 25) (ww := [xU L b_seedNow b_keptSeed b_isKept, xTe ((L 1)) b_now, xTe ((L 2)) b_trial, xSt ((L 5)) ((L 6)) ((L 7)) ((L 8)) ((L 9)) b_staff.1, xI cy ((L 6)) 8 b_staff.2.1, xI cy ((L 7)) 8 b_staff.2.2.1, xI cy ((L 8)) 8 b_staff.2.2.2.1, xI cy ((L 9)) 8 b_staff.2.2.2.2, xSh ((L 20)) ((L 21)) ((L 22)) ((L 23)), xI cy ((L 21)) 8 b_shelves.1, xI cy ((L 22)) 8 b_shelves.2.1, xRJ cy ((L 23)) 8 (fun j => [some ((L 24)), some ((L 25)), some ((L 26)), some ((L 27)), some ((L 28)), some ((L 29)), some ((L 30)), some ((L 31))].getD j none), xJ cy ((L 24)) 40 ((b_shelves.2.2 0)), xJ cy ((L 25)) 40 ((b_shelves.2.2 1)), xJ cy ((L 26)) 40 ((b_shelves.2.2 2)), xJ cy ((L 27)) 40 ((b_shelves.2.2 3)), xJ cy ((L 28)) 40 ((b_shelves.2.2 4)), xJ cy ((L 29)) 40 ((b_shelves.2.2 5)), xJ cy ((L 30)) 40 ((b_shelves.2.2 6)), xJ cy ((L 31)) 40 ((b_shelves.2.2 7)), xTy ((L 45)) b_tally, xI cy ((L 46)) 48 u2.2, xZ cy ((L 47)) 100 b_fitting, xI cy ((L 48)) 5 u6.2]) C hw hr hQ dX7_rages_25
def zf_X7_nerves_116 (b_now : TTe) (b_staff : TSt) (b_shelves : TSh) (k67 : Int32 → Int32 → Int32 → Int32 → TTe → TSt → TTy → (Nat → Int32) → (Nat → Int32) → Option (Int32 × TTe × TSt × TTy × (Nat → Int32) × (Nat → Int32))) (v2 : Int32) (v3 : Int32) (v4 : Int32) (v6 : Int32) (b_trial : TTe) (b_trialStaff : TSt) (b_tally : TTy) (b_plan : Nat → Int32) (b_refusals : Nat → Int32) : Option (Int32 × TTe × TSt × TTy × (Nat → Int32) × (Nat → Int32)) := k67 v2 v3 v4 ((v6 + 1)) b_trial b_trialStaff b_tally b_plan b_refusals
def zf_X7_nerves_67 (b_now : TTe) (b_staff : TSt) (b_shelves : TSh) : Nat → Int32 → Int32 → Int32 → Int32 → TTe → TSt → TTy → (Nat → Int32) → (Nat → Int32) → Option (Int32 × TTe × TSt × TTy × (Nat → Int32) × (Nat → Int32))
  | 0, _, _, _, _, _, _, _, _, _ => none
  | n + 1, v2, v3, v4, v6, b_trial, b_trialStaff, b_tally, b_plan, b_refusals => (if (40 : Int32) < v6 then (Option.bind (zf_X3_told v4 b_tally) (fun u11 => some (u11, b_trial, b_trialStaff, b_tally, b_plan, b_refusals))) else (Option.bind (zf_X2_putNerve v3 v6 b_trialStaff) (fun u12 => (Option.bind (zf_X5_become b_trial b_now) (fun u13 => (Option.bind (zf_X7_fitsTwos v2 u13 b_plan u12) (fun u14 => (if u14.1 then (Option.bind (zf_X3_add v6 b_tally) (fun u16 => zf_X7_nerves_116 b_now b_staff b_shelves (zf_X7_nerves_67 b_now b_staff b_shelves n) v2 v3 v4 v6 u14.2 u12 u16 b_plan b_refusals)) else zf_X7_nerves_116 b_now b_staff b_shelves (zf_X7_nerves_67 b_now b_staff b_shelves n) v2 v3 v4 v6 u14.2 u12 b_tally b_plan b_refusals))))))))
def zf_X7_nerves_29 (b_now : TTe) (b_staff : TSt) (b_shelves : TSh) (v2 : Int32) (v3 : Int32) (v4 : Int32) (t0 : Bool) (t1 : Int32) (t2 : Int32) (b_trial : TTe) (b_trialStaff : TSt) (b_tally : TTy) (b_plan : Nat → Int32) (b_refusals : Nat → Int32) : Option (Int32 × TTe × TSt × TTy × (Nat → Int32) × (Nat → Int32)) := (Option.bind (zf_X7_takeTwos t2 t1 t0 b_staff b_shelves b_plan) (fun u5 => (if u5.1 = 0 then (Option.bind (zf_X3_clear b_tally) (fun u7 => (Option.bind (zf_X2_become b_trialStaff b_staff) (fun u8 => zf_X7_nerves_67 b_now b_staff b_shelves FU v2 v3 v4 ((0 : Int32)) b_trial u8 u7 u5.2 b_refusals)))) else (Option.bind (zf_X7_refused u5.1 b_refusals) (fun u9 => some (u9.1, b_trial, b_trialStaff, b_tally, u5.2, u9.2))))))
def zf_X7_nerves_28 (b_now : TTe) (b_staff : TSt) (b_shelves : TSh) (v2 : Int32) (v3 : Int32) (v4 : Int32) (t0 : Int32) (t1 : Int32) (b_trial : TTe) (b_trialStaff : TSt) (b_tally : TTy) (b_plan : Nat → Int32) (b_refusals : Nat → Int32) : Option (Int32 × TTe × TSt × TTy × (Nat → Int32) × (Nat → Int32)) := zf_X7_nerves_29 b_now b_staff b_shelves v2 v3 v4 false t0 t1 b_trial b_trialStaff b_tally b_plan b_refusals
def zf_X7_nerves (x1 : Int32) (x2 : Int32) (x3 : Int32) (x4 : Int32) (b_now : TTe) (b_trial : TTe) (b_staff : TSt) (b_trialStaff : TSt) (b_shelves : TSh) (b_tally : TTy) (b_plan : Nat → Int32) (b_refusals : Nat → Int32) : Option (Int32 × TTe × TSt × TTy × (Nat → Int32) × (Nat → Int32)) := (Option.bind (zf_X2_has x3 b_staff) (fun u1 => (if u1 then (Option.bind (zf_X7_isWithin x4 (((0 : Int32))) (((2 : Int32)))) (fun u3 => (if u3 then zf_X7_nerves_29 b_now b_staff b_shelves x2 x3 x4 true x2 x1 b_trial b_trialStaff b_tally b_plan b_refusals else zf_X7_nerves_28 b_now b_staff b_shelves x2 x3 x4 x2 x1 b_trial b_trialStaff b_tally b_plan b_refusals))) else zf_X7_nerves_28 b_now b_staff b_shelves x2 x3 x4 x2 x1 b_trial b_trialStaff b_tally b_plan b_refusals)))
abbrev zr_X7_nerves : Room := { frames := 6, cells := 0, slots := 0, locals := 137 }
set_option maxHeartbeats 4000000 in
set_option maxRecDepth 100000 in
theorem c_X7_nerves (l : Launch) (G : va_G) (cy : Nat → ClassId) (tt : Nat → Nat) (L : Nat → Nat) (b_seedNow : Int32) (b_keptSeed : Int32) (b_isKept : Bool) (x1 : Int32) (x2 : Int32) (x3 : Int32) (x4 : Int32) (b_now : TTe) (b_trial : TTe) (b_staff : TSt) (b_trialStaff : TSt) (b_shelves : TSh) (b_tally : TTy) (b_plan : Nat → Int32) (b_refusals : Nat → Int32) (res : Int32 × TTe × TSt × TTy × (Nat → Int32) × (Nat → Int32)) (hf : zf_X7_nerves x1 x2 x3 x4 b_now b_trial b_staff b_trialStaff b_shelves b_tally b_plan b_refusals = some res) : zCT l yX7_nerves cX7_nerves 7 (some .int) zr_X7_nerves G cy tt [.ref ((L 0)), .int x1, .int x2, .int x3, .int x4] [xU L b_seedNow b_keptSeed b_isKept, xTe ((L 1)) b_now, xTe ((L 2)) b_trial, xSt ((L 5)) ((L 6)) ((L 7)) ((L 8)) ((L 9)) b_staff.1, xI cy ((L 6)) 8 b_staff.2.1, xI cy ((L 7)) 8 b_staff.2.2.1, xI cy ((L 8)) 8 b_staff.2.2.2.1, xI cy ((L 9)) 8 b_staff.2.2.2.2, xSt ((L 10)) ((L 11)) ((L 12)) ((L 13)) ((L 14)) b_trialStaff.1, xI cy ((L 11)) 8 b_trialStaff.2.1, xI cy ((L 12)) 8 b_trialStaff.2.2.1, xI cy ((L 13)) 8 b_trialStaff.2.2.2.1, xI cy ((L 14)) 8 b_trialStaff.2.2.2.2, xSh ((L 20)) ((L 21)) ((L 22)) ((L 23)), xI cy ((L 21)) 8 b_shelves.1, xI cy ((L 22)) 8 b_shelves.2.1, xRJ cy ((L 23)) 8 (fun j => [some ((L 24)), some ((L 25)), some ((L 26)), some ((L 27)), some ((L 28)), some ((L 29)), some ((L 30)), some ((L 31))].getD j none), xJ cy ((L 24)) 40 ((b_shelves.2.2 0)), xJ cy ((L 25)) 40 ((b_shelves.2.2 1)), xJ cy ((L 26)) 40 ((b_shelves.2.2 2)), xJ cy ((L 27)) 40 ((b_shelves.2.2 3)), xJ cy ((L 28)) 40 ((b_shelves.2.2 4)), xJ cy ((L 29)) 40 ((b_shelves.2.2 5)), xJ cy ((L 30)) 40 ((b_shelves.2.2 6)), xJ cy ((L 31)) 40 ((b_shelves.2.2 7)), xTy ((L 45)) b_tally, xI cy ((L 46)) 48 b_plan, xI cy ((L 48)) 5 b_refusals] (some (.int res.1)) [xU L b_seedNow b_keptSeed b_isKept, xTe ((L 1)) b_now, xTe ((L 2)) res.2.1, xSt ((L 5)) ((L 6)) ((L 7)) ((L 8)) ((L 9)) b_staff.1, xI cy ((L 6)) 8 b_staff.2.1, xI cy ((L 7)) 8 b_staff.2.2.1, xI cy ((L 8)) 8 b_staff.2.2.2.1, xI cy ((L 9)) 8 b_staff.2.2.2.2, xSt ((L 10)) ((L 11)) ((L 12)) ((L 13)) ((L 14)) res.2.2.1.1, xI cy ((L 11)) 8 res.2.2.1.2.1, xI cy ((L 12)) 8 res.2.2.1.2.2.1, xI cy ((L 13)) 8 res.2.2.1.2.2.2.1, xI cy ((L 14)) 8 res.2.2.1.2.2.2.2, xSh ((L 20)) ((L 21)) ((L 22)) ((L 23)), xI cy ((L 21)) 8 b_shelves.1, xI cy ((L 22)) 8 b_shelves.2.1, xRJ cy ((L 23)) 8 (fun j => [some ((L 24)), some ((L 25)), some ((L 26)), some ((L 27)), some ((L 28)), some ((L 29)), some ((L 30)), some ((L 31))].getD j none), xJ cy ((L 24)) 40 ((b_shelves.2.2 0)), xJ cy ((L 25)) 40 ((b_shelves.2.2 1)), xJ cy ((L 26)) 40 ((b_shelves.2.2 2)), xJ cy ((L 27)) 40 ((b_shelves.2.2 3)), xJ cy ((L 28)) 40 ((b_shelves.2.2 4)), xJ cy ((L 29)) 40 ((b_shelves.2.2 5)), xJ cy ((L 30)) 40 ((b_shelves.2.2 6)), xJ cy ((L 31)) 40 ((b_shelves.2.2 7)), xTy ((L 45)) res.2.2.2.1, xI cy ((L 46)) 48 res.2.2.2.2.1, xI cy ((L 48)) 5 res.2.2.2.2.2] := by
  refine zk_start zn_X7 (Nat.le_of_ble_eq_true rfl) ?_
  intro p e s m args below meth c A ls Q C hr hQ hw hl
  have C : zCx p m c s args meth cX7_nerves 7 RX7 G cy tt A := C
  have hx := C.1.1
  have hb := C.1.2.1
  have hl : lv_has ls 7 [(0, .ref ((L 0))), (1, .int x1), (2, .int x2), (3, .int x3), (4, .int x4)] := hl
  have J116 : ∀ (k67 : Int32 → Int32 → Int32 → Int32 → TTe → TSt → TTy → (Nat → Int32) → (Nat → Int32) → Option (Int32 × TTe × TSt × TTy × (Nat → Int32) × (Nat → Int32))) (K67 : ∀ (v2 : Int32) (v3 : Int32) (v4 : Int32) (v6 : Int32) (b_trial : TTe) (b_trialStaff : TSt) (b_tally : TTy) (b_plan : Nat → Int32) (b_refusals : Nat → Int32) (H : Heap) (locs : List Loc) (ls : Array Slot), k67 v2 v3 v4 v6 b_trial b_trialStaff b_tally b_plan b_refusals = some res → zWd G A s.heap H locs [xU L b_seedNow b_keptSeed b_isKept, xTe ((L 1)) b_now, xTe ((L 2)) b_trial, xSt ((L 5)) ((L 6)) ((L 7)) ((L 8)) ((L 9)) b_staff.1, xI cy ((L 6)) 8 b_staff.2.1, xI cy ((L 7)) 8 b_staff.2.2.1, xI cy ((L 8)) 8 b_staff.2.2.2.1, xI cy ((L 9)) 8 b_staff.2.2.2.2, xSt ((L 10)) ((L 11)) ((L 12)) ((L 13)) ((L 14)) b_trialStaff.1, xI cy ((L 11)) 8 b_trialStaff.2.1, xI cy ((L 12)) 8 b_trialStaff.2.2.1, xI cy ((L 13)) 8 b_trialStaff.2.2.2.1, xI cy ((L 14)) 8 b_trialStaff.2.2.2.2, xSh ((L 20)) ((L 21)) ((L 22)) ((L 23)), xI cy ((L 21)) 8 b_shelves.1, xI cy ((L 22)) 8 b_shelves.2.1, xRJ cy ((L 23)) 8 (fun j => [some ((L 24)), some ((L 25)), some ((L 26)), some ((L 27)), some ((L 28)), some ((L 29)), some ((L 30)), some ((L 31))].getD j none), xJ cy ((L 24)) 40 ((b_shelves.2.2 0)), xJ cy ((L 25)) 40 ((b_shelves.2.2 1)), xJ cy ((L 26)) 40 ((b_shelves.2.2 2)), xJ cy ((L 27)) 40 ((b_shelves.2.2 3)), xJ cy ((L 28)) 40 ((b_shelves.2.2 4)), xJ cy ((L 29)) 40 ((b_shelves.2.2 5)), xJ cy ((L 30)) 40 ((b_shelves.2.2 6)), xJ cy ((L 31)) 40 ((b_shelves.2.2 7)), xTy ((L 45)) b_tally, xI cy ((L 46)) 48 b_plan, xI cy ((L 48)) 5 b_refusals] → lv_has ls 7 [(0, .ref ((L 0))), (2, .int v2), (3, .int v3), (4, .int v4), (6, .int v6)] → W p l e zr_X7_nerves s m args below meth c H locs 0 0 Q (F0 m 67 ls [])), ∀ (v2 : Int32) (v3 : Int32) (v4 : Int32) (v6 : Int32) (b_trial : TTe) (b_trialStaff : TSt) (b_tally : TTy) (b_plan : Nat → Int32) (b_refusals : Nat → Int32) (H : Heap) (locs : List Loc) (ls : Array Slot), zf_X7_nerves_116 b_now b_staff b_shelves k67 v2 v3 v4 v6 b_trial b_trialStaff b_tally b_plan b_refusals = some res → zWd G A s.heap H locs [xU L b_seedNow b_keptSeed b_isKept, xTe ((L 1)) b_now, xTe ((L 2)) b_trial, xSt ((L 5)) ((L 6)) ((L 7)) ((L 8)) ((L 9)) b_staff.1, xI cy ((L 6)) 8 b_staff.2.1, xI cy ((L 7)) 8 b_staff.2.2.1, xI cy ((L 8)) 8 b_staff.2.2.2.1, xI cy ((L 9)) 8 b_staff.2.2.2.2, xSt ((L 10)) ((L 11)) ((L 12)) ((L 13)) ((L 14)) b_trialStaff.1, xI cy ((L 11)) 8 b_trialStaff.2.1, xI cy ((L 12)) 8 b_trialStaff.2.2.1, xI cy ((L 13)) 8 b_trialStaff.2.2.2.1, xI cy ((L 14)) 8 b_trialStaff.2.2.2.2, xSh ((L 20)) ((L 21)) ((L 22)) ((L 23)), xI cy ((L 21)) 8 b_shelves.1, xI cy ((L 22)) 8 b_shelves.2.1, xRJ cy ((L 23)) 8 (fun j => [some ((L 24)), some ((L 25)), some ((L 26)), some ((L 27)), some ((L 28)), some ((L 29)), some ((L 30)), some ((L 31))].getD j none), xJ cy ((L 24)) 40 ((b_shelves.2.2 0)), xJ cy ((L 25)) 40 ((b_shelves.2.2 1)), xJ cy ((L 26)) 40 ((b_shelves.2.2 2)), xJ cy ((L 27)) 40 ((b_shelves.2.2 3)), xJ cy ((L 28)) 40 ((b_shelves.2.2 4)), xJ cy ((L 29)) 40 ((b_shelves.2.2 5)), xJ cy ((L 30)) 40 ((b_shelves.2.2 6)), xJ cy ((L 31)) 40 ((b_shelves.2.2 7)), xTy ((L 45)) b_tally, xI cy ((L 46)) 48 b_plan, xI cy ((L 48)) 5 b_refusals] → lv_has ls 7 [(0, .ref ((L 0))), (2, .int v2), (3, .int v3), (4, .int v4), (6, .int v6)] → W p l e zr_X7_nerves s m args below meth c H locs 0 0 Q (F0 m 116 ls []) := by
    intro k67 K67 v2 v3 v4 v6 b_trial b_trialStaff b_tally b_plan b_refusals H locs ls hf hw hl
    rw [zf_X7_nerves_116] at hf
    refine lv_iinc (pc := 116) (v := (v6 + 1)) (lv' := [(6, .int ((v6 + 1))), (0, .ref ((L 0))), (2, .int v2), (3, .int v3), (4, .int v4)]) hx hb dX7_nerves_116 hl (k := 4) rfl rfl (by decide) rfl (fun ls hl => ?_)
    refine lv_goto (pc := 119) (tgt := 67) hx hb dX7_nerves_119 (by decide) ?_
    exact K67 v2 v3 v4 ((v6 + 1)) b_trial b_trialStaff b_tally b_plan b_refusals _ _ _ hf hw (lv_sub hl [1, 2, 3, 4, 0] rfl)
  have J67 : ∀ (n : Nat), ∀ (v2 : Int32) (v3 : Int32) (v4 : Int32) (v6 : Int32) (b_trial : TTe) (b_trialStaff : TSt) (b_tally : TTy) (b_plan : Nat → Int32) (b_refusals : Nat → Int32) (H : Heap) (locs : List Loc) (ls : Array Slot), zf_X7_nerves_67 b_now b_staff b_shelves n v2 v3 v4 v6 b_trial b_trialStaff b_tally b_plan b_refusals = some res → zWd G A s.heap H locs [xU L b_seedNow b_keptSeed b_isKept, xTe ((L 1)) b_now, xTe ((L 2)) b_trial, xSt ((L 5)) ((L 6)) ((L 7)) ((L 8)) ((L 9)) b_staff.1, xI cy ((L 6)) 8 b_staff.2.1, xI cy ((L 7)) 8 b_staff.2.2.1, xI cy ((L 8)) 8 b_staff.2.2.2.1, xI cy ((L 9)) 8 b_staff.2.2.2.2, xSt ((L 10)) ((L 11)) ((L 12)) ((L 13)) ((L 14)) b_trialStaff.1, xI cy ((L 11)) 8 b_trialStaff.2.1, xI cy ((L 12)) 8 b_trialStaff.2.2.1, xI cy ((L 13)) 8 b_trialStaff.2.2.2.1, xI cy ((L 14)) 8 b_trialStaff.2.2.2.2, xSh ((L 20)) ((L 21)) ((L 22)) ((L 23)), xI cy ((L 21)) 8 b_shelves.1, xI cy ((L 22)) 8 b_shelves.2.1, xRJ cy ((L 23)) 8 (fun j => [some ((L 24)), some ((L 25)), some ((L 26)), some ((L 27)), some ((L 28)), some ((L 29)), some ((L 30)), some ((L 31))].getD j none), xJ cy ((L 24)) 40 ((b_shelves.2.2 0)), xJ cy ((L 25)) 40 ((b_shelves.2.2 1)), xJ cy ((L 26)) 40 ((b_shelves.2.2 2)), xJ cy ((L 27)) 40 ((b_shelves.2.2 3)), xJ cy ((L 28)) 40 ((b_shelves.2.2 4)), xJ cy ((L 29)) 40 ((b_shelves.2.2 5)), xJ cy ((L 30)) 40 ((b_shelves.2.2 6)), xJ cy ((L 31)) 40 ((b_shelves.2.2 7)), xTy ((L 45)) b_tally, xI cy ((L 46)) 48 b_plan, xI cy ((L 48)) 5 b_refusals] → lv_has ls 7 [(0, .ref ((L 0))), (2, .int v2), (3, .int v3), (4, .int v4), (6, .int v6)] → W p l e zr_X7_nerves s m args below meth c H locs 0 0 Q (F0 m 67 ls []) := by
    intro n
    induction n with
    | zero =>
      intro v2 v3 v4 v6 b_trial b_trialStaff b_tally b_plan b_refusals H locs ls hf hw hl
      rw [zf_X7_nerves_67] at hf
      cases hf
    | succ n ih =>
      intro v2 v3 v4 v6 b_trial b_trialStaff b_tally b_plan b_refusals H locs ls hf hw hl
      rw [zf_X7_nerves_67] at hf
      refine lv_iload (pc := 67) hx hb dX7_nerves_67 (lv_at hl 4 rfl) ?_
      refine lv_bipush (pc := 69) (v := 40) hx hb dX7_nerves_69 (by decide) ?_
      refine lv_icmp_gt (pc := 71) (tgt := 122) hx hb dX7_nerves_71 (by decide) (fun q10 => ?_) (fun q10 => ?_)
      · replace hf := if_t q10 hf
        refine lv_aload_n (pc := 122) hx hb dX7_nerves_122 rfl (lv_at hl 0 rfl) ?_
        refine zk_gt (pc := 123) C hw zl_X7_69 0 rfl rfl dX7_nerves_123 ?_
        refine lv_iload (pc := 126) hx hb dX7_nerves_126 (lv_at hl 3 rfl) ?_
        obtain ⟨u11, u11e, hf⟩ := bd hf
        refine zk_cV (pc := 128) (ci := 3) (q0 := 25) (rest := []) (st1 := [.int u11]) (w' := [xU L b_seedNow b_keptSeed b_isKept, xTe ((L 1)) b_now, xTe ((L 2)) b_trial, xSt ((L 5)) ((L 6)) ((L 7)) ((L 8)) ((L 9)) b_staff.1, xI cy ((L 6)) 8 b_staff.2.1, xI cy ((L 7)) 8 b_staff.2.2.1, xI cy ((L 8)) 8 b_staff.2.2.2.1, xI cy ((L 9)) 8 b_staff.2.2.2.2, xSt ((L 10)) ((L 11)) ((L 12)) ((L 13)) ((L 14)) b_trialStaff.1, xI cy ((L 11)) 8 b_trialStaff.2.1, xI cy ((L 12)) 8 b_trialStaff.2.2.1, xI cy ((L 13)) 8 b_trialStaff.2.2.2.1, xI cy ((L 14)) 8 b_trialStaff.2.2.2.2, xSh ((L 20)) ((L 21)) ((L 22)) ((L 23)), xI cy ((L 21)) 8 b_shelves.1, xI cy ((L 22)) 8 b_shelves.2.1, xRJ cy ((L 23)) 8 (fun j => [some ((L 24)), some ((L 25)), some ((L 26)), some ((L 27)), some ((L 28)), some ((L 29)), some ((L 30)), some ((L 31))].getD j none), xJ cy ((L 24)) 40 ((b_shelves.2.2 0)), xJ cy ((L 25)) 40 ((b_shelves.2.2 1)), xJ cy ((L 26)) 40 ((b_shelves.2.2 2)), xJ cy ((L 27)) 40 ((b_shelves.2.2 3)), xJ cy ((L 28)) 40 ((b_shelves.2.2 4)), xJ cy ((L 29)) 40 ((b_shelves.2.2 5)), xJ cy ((L 30)) 40 ((b_shelves.2.2 6)), xJ cy ((L 31)) 40 ((b_shelves.2.2 7)), xTy ((L 45)) b_tally, xI cy ((L 46)) 48 b_plan, xI cy ((L 48)) 5 b_refusals]) (mk := [none, none, none, none, none, none, none, none, none, none, none, none, none, none, none, none, none, none, none, none, none, none, none, none, none, none, none, none]) C hw (c_X3_told l G cy tt ((L 45)) v4 b_tally _ u11e) zy_X3_told zm_X7_289 rfl rfl rfl [25] rfl rfl rfl rfl rfl rfl rfl rfl hl.1 ⟨rfl, rfl⟩ ⟨Nat.le_of_ble_eq_true rfl, Nat.le_of_ble_eq_true rfl⟩ rfl (Nat.le_of_ble_eq_true rfl) ⟨Nat.zero_le _, Nat.zero_le _⟩ dX7_nerves_128 (fun H locs hw => ?_)
        have hf := Option.some.inj hf
        subst hf
        exact zk_reti (pc := 131) (ww := [xU L b_seedNow b_keptSeed b_isKept, xTe ((L 1)) b_now, xTe ((L 2)) b_trial, xSt ((L 5)) ((L 6)) ((L 7)) ((L 8)) ((L 9)) b_staff.1, xI cy ((L 6)) 8 b_staff.2.1, xI cy ((L 7)) 8 b_staff.2.2.1, xI cy ((L 8)) 8 b_staff.2.2.2.1, xI cy ((L 9)) 8 b_staff.2.2.2.2, xSt ((L 10)) ((L 11)) ((L 12)) ((L 13)) ((L 14)) b_trialStaff.1, xI cy ((L 11)) 8 b_trialStaff.2.1, xI cy ((L 12)) 8 b_trialStaff.2.2.1, xI cy ((L 13)) 8 b_trialStaff.2.2.2.1, xI cy ((L 14)) 8 b_trialStaff.2.2.2.2, xSh ((L 20)) ((L 21)) ((L 22)) ((L 23)), xI cy ((L 21)) 8 b_shelves.1, xI cy ((L 22)) 8 b_shelves.2.1, xRJ cy ((L 23)) 8 (fun j => [some ((L 24)), some ((L 25)), some ((L 26)), some ((L 27)), some ((L 28)), some ((L 29)), some ((L 30)), some ((L 31))].getD j none), xJ cy ((L 24)) 40 ((b_shelves.2.2 0)), xJ cy ((L 25)) 40 ((b_shelves.2.2 1)), xJ cy ((L 26)) 40 ((b_shelves.2.2 2)), xJ cy ((L 27)) 40 ((b_shelves.2.2 3)), xJ cy ((L 28)) 40 ((b_shelves.2.2 4)), xJ cy ((L 29)) 40 ((b_shelves.2.2 5)), xJ cy ((L 30)) 40 ((b_shelves.2.2 6)), xJ cy ((L 31)) 40 ((b_shelves.2.2 7)), xTy ((L 45)) b_tally, xI cy ((L 46)) 48 b_plan, xI cy ((L 48)) 5 b_refusals]) C hw hr hQ dX7_nerves_131
      · replace hf := if_f q10 hf
        refine lv_aload_n (pc := 74) hx hb dX7_nerves_74 rfl (lv_at hl 0 rfl) ?_
        refine zk_gt (pc := 75) C hw zl_X7_32 0 rfl rfl dX7_nerves_75 ?_
        refine lv_iload_n (pc := 78) hx hb dX7_nerves_78 rfl (lv_at hl 2 rfl) ?_
        refine lv_iload (pc := 79) hx hb dX7_nerves_79 (lv_at hl 4 rfl) ?_
        obtain ⟨u12, u12e, hf⟩ := bd hf
        refine zk_cV (pc := 81) (ci := 2) (q0 := 8) (rest := []) (st1 := []) (w' := [xU L b_seedNow b_keptSeed b_isKept, xTe ((L 1)) b_now, xTe ((L 2)) b_trial, xSt ((L 5)) ((L 6)) ((L 7)) ((L 8)) ((L 9)) b_staff.1, xI cy ((L 6)) 8 b_staff.2.1, xI cy ((L 7)) 8 b_staff.2.2.1, xI cy ((L 8)) 8 b_staff.2.2.2.1, xI cy ((L 9)) 8 b_staff.2.2.2.2, xSt ((L 10)) ((L 11)) ((L 12)) ((L 13)) ((L 14)) u12.1, xI cy ((L 11)) 8 u12.2.1, xI cy ((L 12)) 8 u12.2.2.1, xI cy ((L 13)) 8 u12.2.2.2.1, xI cy ((L 14)) 8 u12.2.2.2.2, xSh ((L 20)) ((L 21)) ((L 22)) ((L 23)), xI cy ((L 21)) 8 b_shelves.1, xI cy ((L 22)) 8 b_shelves.2.1, xRJ cy ((L 23)) 8 (fun j => [some ((L 24)), some ((L 25)), some ((L 26)), some ((L 27)), some ((L 28)), some ((L 29)), some ((L 30)), some ((L 31))].getD j none), xJ cy ((L 24)) 40 ((b_shelves.2.2 0)), xJ cy ((L 25)) 40 ((b_shelves.2.2 1)), xJ cy ((L 26)) 40 ((b_shelves.2.2 2)), xJ cy ((L 27)) 40 ((b_shelves.2.2 3)), xJ cy ((L 28)) 40 ((b_shelves.2.2 4)), xJ cy ((L 29)) 40 ((b_shelves.2.2 5)), xJ cy ((L 30)) 40 ((b_shelves.2.2 6)), xJ cy ((L 31)) 40 ((b_shelves.2.2 7)), xTy ((L 45)) b_tally, xI cy ((L 46)) 48 b_plan, xI cy ((L 48)) 5 b_refusals]) (mk := [none, none, none, none, none, none, none, none, some (xSt ((L 10)) ((L 11)) ((L 12)) ((L 13)) ((L 14)) u12.1), some (xI cy ((L 11)) 8 u12.2.1), some (xI cy ((L 12)) 8 u12.2.2.1), some (xI cy ((L 13)) 8 u12.2.2.2.1), some (xI cy ((L 14)) 8 u12.2.2.2.2), none, none, none, none, none, none, none, none, none, none, none, none, none, none, none]) C hw (c_X2_putNerve l G cy tt ((L 10)) ((L 11)) ((L 12)) ((L 13)) ((L 14)) v3 v6 b_trialStaff _ u12e) zy_X2_putNerve zm_X7_174 rfl rfl rfl [8, 9, 10, 11, 12] rfl rfl rfl rfl rfl rfl rfl rfl hl.1 ⟨rfl, rfl⟩ ⟨Nat.le_of_ble_eq_true rfl, Nat.le_of_ble_eq_true rfl⟩ rfl (Nat.le_of_ble_eq_true rfl) ⟨Nat.zero_le _, Nat.zero_le _⟩ dX7_nerves_81 (fun H locs hw => ?_)
        refine lv_aload_n (pc := 84) hx hb dX7_nerves_84 rfl (lv_at hl 0 rfl) ?_
        refine zk_gt (pc := 85) C hw zl_X7_16 0 rfl rfl dX7_nerves_85 ?_
        refine lv_aload_n (pc := 88) hx hb dX7_nerves_88 rfl (lv_at hl 0 rfl) ?_
        refine zk_gt (pc := 89) C hw zl_X7_10 0 rfl rfl dX7_nerves_89 ?_
        obtain ⟨u13, u13e, hf⟩ := bd hf
        refine zk_cV (pc := 92) (ci := 5) (q0 := 2) (rest := []) (st1 := []) (w' := [xU L b_seedNow b_keptSeed b_isKept, xTe ((L 1)) b_now, xTe ((L 2)) u13, xSt ((L 5)) ((L 6)) ((L 7)) ((L 8)) ((L 9)) b_staff.1, xI cy ((L 6)) 8 b_staff.2.1, xI cy ((L 7)) 8 b_staff.2.2.1, xI cy ((L 8)) 8 b_staff.2.2.2.1, xI cy ((L 9)) 8 b_staff.2.2.2.2, xSt ((L 10)) ((L 11)) ((L 12)) ((L 13)) ((L 14)) u12.1, xI cy ((L 11)) 8 u12.2.1, xI cy ((L 12)) 8 u12.2.2.1, xI cy ((L 13)) 8 u12.2.2.2.1, xI cy ((L 14)) 8 u12.2.2.2.2, xSh ((L 20)) ((L 21)) ((L 22)) ((L 23)), xI cy ((L 21)) 8 b_shelves.1, xI cy ((L 22)) 8 b_shelves.2.1, xRJ cy ((L 23)) 8 (fun j => [some ((L 24)), some ((L 25)), some ((L 26)), some ((L 27)), some ((L 28)), some ((L 29)), some ((L 30)), some ((L 31))].getD j none), xJ cy ((L 24)) 40 ((b_shelves.2.2 0)), xJ cy ((L 25)) 40 ((b_shelves.2.2 1)), xJ cy ((L 26)) 40 ((b_shelves.2.2 2)), xJ cy ((L 27)) 40 ((b_shelves.2.2 3)), xJ cy ((L 28)) 40 ((b_shelves.2.2 4)), xJ cy ((L 29)) 40 ((b_shelves.2.2 5)), xJ cy ((L 30)) 40 ((b_shelves.2.2 6)), xJ cy ((L 31)) 40 ((b_shelves.2.2 7)), xTy ((L 45)) b_tally, xI cy ((L 46)) 48 b_plan, xI cy ((L 48)) 5 b_refusals]) (mk := [none, none, some (xTe ((L 2)) u13), none, none, none, none, none, none, none, none, none, none, none, none, none, none, none, none, none, none, none, none, none, none, none, none, none]) C hw (c_X5_become l G cy tt ((L 2)) ((L 1)) b_trial b_now _ u13e) zy_X5_become zm_X7_193 rfl rfl rfl [2, 1] rfl rfl rfl rfl rfl rfl rfl rfl hl.1 ⟨rfl, rfl⟩ ⟨Nat.le_of_ble_eq_true rfl, Nat.le_of_ble_eq_true rfl⟩ rfl (Nat.le_of_ble_eq_true rfl) ⟨Nat.zero_le _, Nat.zero_le _⟩ dX7_nerves_92 (fun H locs hw => ?_)
        refine lv_aload_n (pc := 95) hx hb dX7_nerves_95 rfl (lv_at hl 0 rfl) ?_
        refine lv_iload_n (pc := 96) hx hb dX7_nerves_96 rfl (lv_at hl 1 rfl) ?_
        refine lv_aload_n (pc := 97) hx hb dX7_nerves_97 rfl (lv_at hl 0 rfl) ?_
        refine zk_gt (pc := 98) C hw zl_X7_32 0 rfl rfl dX7_nerves_98 ?_
        obtain ⟨u14, u14e, hf⟩ := bd hf
        refine zk_cV (pc := 101) (ci := 7) (q0 := 0) (rest := []) (st1 := [.int (bI u14.1)]) (w' := [xU L b_seedNow b_keptSeed b_isKept, xTe ((L 1)) b_now, xTe ((L 2)) u14.2, xSt ((L 5)) ((L 6)) ((L 7)) ((L 8)) ((L 9)) b_staff.1, xI cy ((L 6)) 8 b_staff.2.1, xI cy ((L 7)) 8 b_staff.2.2.1, xI cy ((L 8)) 8 b_staff.2.2.2.1, xI cy ((L 9)) 8 b_staff.2.2.2.2, xSt ((L 10)) ((L 11)) ((L 12)) ((L 13)) ((L 14)) u12.1, xI cy ((L 11)) 8 u12.2.1, xI cy ((L 12)) 8 u12.2.2.1, xI cy ((L 13)) 8 u12.2.2.2.1, xI cy ((L 14)) 8 u12.2.2.2.2, xSh ((L 20)) ((L 21)) ((L 22)) ((L 23)), xI cy ((L 21)) 8 b_shelves.1, xI cy ((L 22)) 8 b_shelves.2.1, xRJ cy ((L 23)) 8 (fun j => [some ((L 24)), some ((L 25)), some ((L 26)), some ((L 27)), some ((L 28)), some ((L 29)), some ((L 30)), some ((L 31))].getD j none), xJ cy ((L 24)) 40 ((b_shelves.2.2 0)), xJ cy ((L 25)) 40 ((b_shelves.2.2 1)), xJ cy ((L 26)) 40 ((b_shelves.2.2 2)), xJ cy ((L 27)) 40 ((b_shelves.2.2 3)), xJ cy ((L 28)) 40 ((b_shelves.2.2 4)), xJ cy ((L 29)) 40 ((b_shelves.2.2 5)), xJ cy ((L 30)) 40 ((b_shelves.2.2 6)), xJ cy ((L 31)) 40 ((b_shelves.2.2 7)), xTy ((L 45)) b_tally, xI cy ((L 46)) 48 b_plan, xI cy ((L 48)) 5 b_refusals]) (mk := [none, none, some (xTe ((L 2)) u14.2), none, none, none, none, none, none, none, none, none, none, none, none, none, none, none, none, none, none, none, none, none, none, none, none, none]) C hw (c_X7_fitsTwos l G cy tt L ((L 10)) ((L 11)) ((L 12)) ((L 13)) ((L 14)) b_seedNow b_keptSeed b_isKept v2 u13 b_plan u12 _ u14e) zy_X7_fitsTwos zm_X7_294 rfl rfl rfl [0, 2, 26, 8, 9, 10, 11, 12] rfl rfl rfl rfl rfl rfl rfl rfl hl.1 ⟨rfl, rfl⟩ ⟨Nat.le_of_ble_eq_true rfl, Nat.le_of_ble_eq_true rfl⟩ rfl (Nat.le_of_ble_eq_true rfl) ⟨Nat.zero_le _, Nat.zero_le _⟩ dX7_nerves_101 (fun H locs hw => ?_)
        refine zk_ifz (pc := 104) (tgt := 116) hx hb dX7_nerves_104 (by decide) (fun q15 => ?_) (fun q15 => ?_)
        · replace hf := if_f q15 hf
          exact J116 (zf_X7_nerves_67 b_now b_staff b_shelves n) ih v2 v3 v4 v6 u14.2 u12 b_tally b_plan b_refusals _ _ _ hf hw (lv_sub hl [0, 1, 2, 3, 4] rfl)
        · replace hf := if_t q15 hf
          refine lv_aload_n (pc := 107) hx hb dX7_nerves_107 rfl (lv_at hl 0 rfl) ?_
          refine zk_gt (pc := 108) C hw zl_X7_69 0 rfl rfl dX7_nerves_108 ?_
          refine lv_iload (pc := 111) hx hb dX7_nerves_111 (lv_at hl 4 rfl) ?_
          obtain ⟨u16, u16e, hf⟩ := bd hf
          refine zk_cV (pc := 113) (ci := 3) (q0 := 25) (rest := []) (st1 := []) (w' := [xU L b_seedNow b_keptSeed b_isKept, xTe ((L 1)) b_now, xTe ((L 2)) u14.2, xSt ((L 5)) ((L 6)) ((L 7)) ((L 8)) ((L 9)) b_staff.1, xI cy ((L 6)) 8 b_staff.2.1, xI cy ((L 7)) 8 b_staff.2.2.1, xI cy ((L 8)) 8 b_staff.2.2.2.1, xI cy ((L 9)) 8 b_staff.2.2.2.2, xSt ((L 10)) ((L 11)) ((L 12)) ((L 13)) ((L 14)) u12.1, xI cy ((L 11)) 8 u12.2.1, xI cy ((L 12)) 8 u12.2.2.1, xI cy ((L 13)) 8 u12.2.2.2.1, xI cy ((L 14)) 8 u12.2.2.2.2, xSh ((L 20)) ((L 21)) ((L 22)) ((L 23)), xI cy ((L 21)) 8 b_shelves.1, xI cy ((L 22)) 8 b_shelves.2.1, xRJ cy ((L 23)) 8 (fun j => [some ((L 24)), some ((L 25)), some ((L 26)), some ((L 27)), some ((L 28)), some ((L 29)), some ((L 30)), some ((L 31))].getD j none), xJ cy ((L 24)) 40 ((b_shelves.2.2 0)), xJ cy ((L 25)) 40 ((b_shelves.2.2 1)), xJ cy ((L 26)) 40 ((b_shelves.2.2 2)), xJ cy ((L 27)) 40 ((b_shelves.2.2 3)), xJ cy ((L 28)) 40 ((b_shelves.2.2 4)), xJ cy ((L 29)) 40 ((b_shelves.2.2 5)), xJ cy ((L 30)) 40 ((b_shelves.2.2 6)), xJ cy ((L 31)) 40 ((b_shelves.2.2 7)), xTy ((L 45)) u16, xI cy ((L 46)) 48 b_plan, xI cy ((L 48)) 5 b_refusals]) (mk := [none, none, none, none, none, none, none, none, none, none, none, none, none, none, none, none, none, none, none, none, none, none, none, none, none, some (xTy ((L 45)) u16), none, none]) C hw (c_X3_add l G cy tt ((L 45)) v6 b_tally _ u16e) zy_X3_add zm_X7_298 rfl rfl rfl [25] rfl rfl rfl rfl rfl rfl rfl rfl hl.1 ⟨rfl, rfl⟩ ⟨Nat.le_of_ble_eq_true rfl, Nat.le_of_ble_eq_true rfl⟩ rfl (Nat.le_of_ble_eq_true rfl) ⟨Nat.zero_le _, Nat.zero_le _⟩ dX7_nerves_113 (fun H locs hw => ?_)
          exact J116 (zf_X7_nerves_67 b_now b_staff b_shelves n) ih v2 v3 v4 v6 u14.2 u12 u16 b_plan b_refusals _ _ _ hf hw (lv_sub hl [0, 1, 2, 3, 4] rfl)
  have J29 : ∀ (v2 : Int32) (v3 : Int32) (v4 : Int32) (t0 : Bool) (t1 : Int32) (t2 : Int32) (b_trial : TTe) (b_trialStaff : TSt) (b_tally : TTy) (b_plan : Nat → Int32) (b_refusals : Nat → Int32) (H : Heap) (locs : List Loc) (ls : Array Slot), zf_X7_nerves_29 b_now b_staff b_shelves v2 v3 v4 t0 t1 t2 b_trial b_trialStaff b_tally b_plan b_refusals = some res → zWd G A s.heap H locs [xU L b_seedNow b_keptSeed b_isKept, xTe ((L 1)) b_now, xTe ((L 2)) b_trial, xSt ((L 5)) ((L 6)) ((L 7)) ((L 8)) ((L 9)) b_staff.1, xI cy ((L 6)) 8 b_staff.2.1, xI cy ((L 7)) 8 b_staff.2.2.1, xI cy ((L 8)) 8 b_staff.2.2.2.1, xI cy ((L 9)) 8 b_staff.2.2.2.2, xSt ((L 10)) ((L 11)) ((L 12)) ((L 13)) ((L 14)) b_trialStaff.1, xI cy ((L 11)) 8 b_trialStaff.2.1, xI cy ((L 12)) 8 b_trialStaff.2.2.1, xI cy ((L 13)) 8 b_trialStaff.2.2.2.1, xI cy ((L 14)) 8 b_trialStaff.2.2.2.2, xSh ((L 20)) ((L 21)) ((L 22)) ((L 23)), xI cy ((L 21)) 8 b_shelves.1, xI cy ((L 22)) 8 b_shelves.2.1, xRJ cy ((L 23)) 8 (fun j => [some ((L 24)), some ((L 25)), some ((L 26)), some ((L 27)), some ((L 28)), some ((L 29)), some ((L 30)), some ((L 31))].getD j none), xJ cy ((L 24)) 40 ((b_shelves.2.2 0)), xJ cy ((L 25)) 40 ((b_shelves.2.2 1)), xJ cy ((L 26)) 40 ((b_shelves.2.2 2)), xJ cy ((L 27)) 40 ((b_shelves.2.2 3)), xJ cy ((L 28)) 40 ((b_shelves.2.2 4)), xJ cy ((L 29)) 40 ((b_shelves.2.2 5)), xJ cy ((L 30)) 40 ((b_shelves.2.2 6)), xJ cy ((L 31)) 40 ((b_shelves.2.2 7)), xTy ((L 45)) b_tally, xI cy ((L 46)) 48 b_plan, xI cy ((L 48)) 5 b_refusals] → lv_has ls 7 [(0, .ref ((L 0))), (2, .int v2), (3, .int v3), (4, .int v4)] → W p l e zr_X7_nerves s m args below meth c H locs 0 0 Q (F0 m 29 ls [.int (bI t0), .int t1, .int t2, .ref ((L 0))]) := by
    intro v2 v3 v4 t0 t1 t2 b_trial b_trialStaff b_tally b_plan b_refusals H locs ls hf hw hl
    rw [zf_X7_nerves_29] at hf
    obtain ⟨u5, u5e, hf⟩ := bd hf
    refine zk_cV (pc := 29) (ci := 7) (q0 := 0) (rest := []) (st1 := [.int u5.1]) (w' := [xU L b_seedNow b_keptSeed b_isKept, xTe ((L 1)) b_now, xTe ((L 2)) b_trial, xSt ((L 5)) ((L 6)) ((L 7)) ((L 8)) ((L 9)) b_staff.1, xI cy ((L 6)) 8 b_staff.2.1, xI cy ((L 7)) 8 b_staff.2.2.1, xI cy ((L 8)) 8 b_staff.2.2.2.1, xI cy ((L 9)) 8 b_staff.2.2.2.2, xSt ((L 10)) ((L 11)) ((L 12)) ((L 13)) ((L 14)) b_trialStaff.1, xI cy ((L 11)) 8 b_trialStaff.2.1, xI cy ((L 12)) 8 b_trialStaff.2.2.1, xI cy ((L 13)) 8 b_trialStaff.2.2.2.1, xI cy ((L 14)) 8 b_trialStaff.2.2.2.2, xSh ((L 20)) ((L 21)) ((L 22)) ((L 23)), xI cy ((L 21)) 8 b_shelves.1, xI cy ((L 22)) 8 b_shelves.2.1, xRJ cy ((L 23)) 8 (fun j => [some ((L 24)), some ((L 25)), some ((L 26)), some ((L 27)), some ((L 28)), some ((L 29)), some ((L 30)), some ((L 31))].getD j none), xJ cy ((L 24)) 40 ((b_shelves.2.2 0)), xJ cy ((L 25)) 40 ((b_shelves.2.2 1)), xJ cy ((L 26)) 40 ((b_shelves.2.2 2)), xJ cy ((L 27)) 40 ((b_shelves.2.2 3)), xJ cy ((L 28)) 40 ((b_shelves.2.2 4)), xJ cy ((L 29)) 40 ((b_shelves.2.2 5)), xJ cy ((L 30)) 40 ((b_shelves.2.2 6)), xJ cy ((L 31)) 40 ((b_shelves.2.2 7)), xTy ((L 45)) b_tally, xI cy ((L 46)) 48 u5.2, xI cy ((L 48)) 5 b_refusals]) (mk := [none, none, none, none, none, none, none, none, none, none, none, none, none, none, none, none, none, none, none, none, none, none, none, none, none, none, some (xI cy ((L 46)) 48 u5.2), none]) C hw (c_X7_takeTwos l G cy tt L b_seedNow b_keptSeed b_isKept t2 t1 t0 b_staff b_shelves b_plan _ u5e) zy_X7_takeTwos zm_X7_283 rfl rfl rfl [0, 3, 4, 5, 6, 7, 13, 14, 15, 16, 17, 18, 19, 20, 21, 22, 23, 24, 26] rfl rfl rfl rfl rfl rfl rfl rfl hl.1 ⟨rfl, rfl⟩ ⟨Nat.le_of_ble_eq_true rfl, Nat.le_of_ble_eq_true rfl⟩ rfl (Nat.le_of_ble_eq_true rfl) ⟨Nat.zero_le _, Nat.zero_le _⟩ dX7_nerves_29 (fun H locs hw => ?_)
    refine lv_istore (pc := 32) (lv' := [(5, .int u5.1), (0, .ref ((L 0))), (2, .int v2), (3, .int v3), (4, .int v4)]) hx hb dX7_nerves_32 hl (by decide) rfl (fun ls hl => ?_)
    refine lv_iload (pc := 34) hx hb dX7_nerves_34 (lv_at hl 0 rfl) ?_
    refine lv_if_eq (pc := 36) (tgt := 46) hx hb dX7_nerves_36 (by decide) (fun q6 => ?_) (fun q6 => ?_)
    · replace hf := if_t q6 hf
      refine lv_aload_n (pc := 46) hx hb dX7_nerves_46 rfl (lv_at hl 1 rfl) ?_
      refine zk_gt (pc := 47) C hw zl_X7_69 0 rfl rfl dX7_nerves_47 ?_
      obtain ⟨u7, u7e, hf⟩ := bd hf
      refine zk_cV (pc := 50) (ci := 3) (q0 := 25) (rest := []) (st1 := []) (w' := [xU L b_seedNow b_keptSeed b_isKept, xTe ((L 1)) b_now, xTe ((L 2)) b_trial, xSt ((L 5)) ((L 6)) ((L 7)) ((L 8)) ((L 9)) b_staff.1, xI cy ((L 6)) 8 b_staff.2.1, xI cy ((L 7)) 8 b_staff.2.2.1, xI cy ((L 8)) 8 b_staff.2.2.2.1, xI cy ((L 9)) 8 b_staff.2.2.2.2, xSt ((L 10)) ((L 11)) ((L 12)) ((L 13)) ((L 14)) b_trialStaff.1, xI cy ((L 11)) 8 b_trialStaff.2.1, xI cy ((L 12)) 8 b_trialStaff.2.2.1, xI cy ((L 13)) 8 b_trialStaff.2.2.2.1, xI cy ((L 14)) 8 b_trialStaff.2.2.2.2, xSh ((L 20)) ((L 21)) ((L 22)) ((L 23)), xI cy ((L 21)) 8 b_shelves.1, xI cy ((L 22)) 8 b_shelves.2.1, xRJ cy ((L 23)) 8 (fun j => [some ((L 24)), some ((L 25)), some ((L 26)), some ((L 27)), some ((L 28)), some ((L 29)), some ((L 30)), some ((L 31))].getD j none), xJ cy ((L 24)) 40 ((b_shelves.2.2 0)), xJ cy ((L 25)) 40 ((b_shelves.2.2 1)), xJ cy ((L 26)) 40 ((b_shelves.2.2 2)), xJ cy ((L 27)) 40 ((b_shelves.2.2 3)), xJ cy ((L 28)) 40 ((b_shelves.2.2 4)), xJ cy ((L 29)) 40 ((b_shelves.2.2 5)), xJ cy ((L 30)) 40 ((b_shelves.2.2 6)), xJ cy ((L 31)) 40 ((b_shelves.2.2 7)), xTy ((L 45)) u7, xI cy ((L 46)) 48 u5.2, xI cy ((L 48)) 5 b_refusals]) (mk := [none, none, none, none, none, none, none, none, none, none, none, none, none, none, none, none, none, none, none, none, none, none, none, none, none, some (xTy ((L 45)) u7), none, none]) C hw (c_X3_clear l G cy tt ((L 45)) b_tally _ u7e) zy_X3_clear zm_X7_292 rfl rfl rfl [25] rfl rfl rfl rfl rfl rfl rfl rfl hl.1 ⟨rfl, rfl⟩ ⟨Nat.le_of_ble_eq_true rfl, Nat.le_of_ble_eq_true rfl⟩ rfl (Nat.le_of_ble_eq_true rfl) ⟨Nat.zero_le _, Nat.zero_le _⟩ dX7_nerves_50 (fun H locs hw => ?_)
      refine lv_aload_n (pc := 53) hx hb dX7_nerves_53 rfl (lv_at hl 1 rfl) ?_
      refine zk_gt (pc := 54) C hw zl_X7_32 0 rfl rfl dX7_nerves_54 ?_
      refine lv_aload_n (pc := 57) hx hb dX7_nerves_57 rfl (lv_at hl 1 rfl) ?_
      refine zk_gt (pc := 58) C hw zl_X7_28 0 rfl rfl dX7_nerves_58 ?_
      obtain ⟨u8, u8e, hf⟩ := bd hf
      refine zk_cV (pc := 61) (ci := 2) (q0 := 8) (rest := []) (st1 := []) (w' := [xU L b_seedNow b_keptSeed b_isKept, xTe ((L 1)) b_now, xTe ((L 2)) b_trial, xSt ((L 5)) ((L 6)) ((L 7)) ((L 8)) ((L 9)) b_staff.1, xI cy ((L 6)) 8 b_staff.2.1, xI cy ((L 7)) 8 b_staff.2.2.1, xI cy ((L 8)) 8 b_staff.2.2.2.1, xI cy ((L 9)) 8 b_staff.2.2.2.2, xSt ((L 10)) ((L 11)) ((L 12)) ((L 13)) ((L 14)) u8.1, xI cy ((L 11)) 8 u8.2.1, xI cy ((L 12)) 8 u8.2.2.1, xI cy ((L 13)) 8 u8.2.2.2.1, xI cy ((L 14)) 8 u8.2.2.2.2, xSh ((L 20)) ((L 21)) ((L 22)) ((L 23)), xI cy ((L 21)) 8 b_shelves.1, xI cy ((L 22)) 8 b_shelves.2.1, xRJ cy ((L 23)) 8 (fun j => [some ((L 24)), some ((L 25)), some ((L 26)), some ((L 27)), some ((L 28)), some ((L 29)), some ((L 30)), some ((L 31))].getD j none), xJ cy ((L 24)) 40 ((b_shelves.2.2 0)), xJ cy ((L 25)) 40 ((b_shelves.2.2 1)), xJ cy ((L 26)) 40 ((b_shelves.2.2 2)), xJ cy ((L 27)) 40 ((b_shelves.2.2 3)), xJ cy ((L 28)) 40 ((b_shelves.2.2 4)), xJ cy ((L 29)) 40 ((b_shelves.2.2 5)), xJ cy ((L 30)) 40 ((b_shelves.2.2 6)), xJ cy ((L 31)) 40 ((b_shelves.2.2 7)), xTy ((L 45)) u7, xI cy ((L 46)) 48 u5.2, xI cy ((L 48)) 5 b_refusals]) (mk := [none, none, none, none, none, none, none, none, some (xSt ((L 10)) ((L 11)) ((L 12)) ((L 13)) ((L 14)) u8.1), some (xI cy ((L 11)) 8 u8.2.1), some (xI cy ((L 12)) 8 u8.2.2.1), some (xI cy ((L 13)) 8 u8.2.2.2.1), some (xI cy ((L 14)) 8 u8.2.2.2.2), none, none, none, none, none, none, none, none, none, none, none, none, none, none, none]) C hw (c_X2_become l G cy tt ((L 10)) ((L 11)) ((L 12)) ((L 13)) ((L 14)) ((L 5)) ((L 6)) ((L 7)) ((L 8)) ((L 9)) b_trialStaff b_staff _ u8e) zy_X2_become zm_X7_197 rfl rfl rfl [8, 9, 10, 11, 12, 3, 4, 5, 6, 7] rfl rfl rfl rfl rfl rfl rfl rfl hl.1 ⟨rfl, rfl⟩ ⟨Nat.le_of_ble_eq_true rfl, Nat.le_of_ble_eq_true rfl⟩ rfl (Nat.le_of_ble_eq_true rfl) ⟨Nat.zero_le _, Nat.zero_le _⟩ dX7_nerves_61 (fun H locs hw => ?_)
      refine lv_iconst (pc := 64) (v := 0) hx hb dX7_nerves_64 (by decide) ?_
      refine lv_istore (pc := 65) (lv' := [(6, .int ((0 : Int32))), (5, .int u5.1), (0, .ref ((L 0))), (2, .int v2), (3, .int v3), (4, .int v4)]) hx hb dX7_nerves_65 hl (by decide) rfl (fun ls hl => ?_)
      exact J67 FU v2 v3 v4 ((0 : Int32)) b_trial u8 u7 u5.2 b_refusals _ _ _ hf hw (lv_sub hl [2, 3, 4, 5, 0] rfl)
    · replace hf := if_f q6 hf
      refine lv_aload_n (pc := 39) hx hb dX7_nerves_39 rfl (lv_at hl 1 rfl) ?_
      refine lv_iload (pc := 40) hx hb dX7_nerves_40 (lv_at hl 0 rfl) ?_
      obtain ⟨u9, u9e, hf⟩ := bd hf
      refine zk_cV (pc := 42) (ci := 7) (q0 := 0) (rest := []) (st1 := [.int u9.1]) (w' := [xU L b_seedNow b_keptSeed b_isKept, xTe ((L 1)) b_now, xTe ((L 2)) b_trial, xSt ((L 5)) ((L 6)) ((L 7)) ((L 8)) ((L 9)) b_staff.1, xI cy ((L 6)) 8 b_staff.2.1, xI cy ((L 7)) 8 b_staff.2.2.1, xI cy ((L 8)) 8 b_staff.2.2.2.1, xI cy ((L 9)) 8 b_staff.2.2.2.2, xSt ((L 10)) ((L 11)) ((L 12)) ((L 13)) ((L 14)) b_trialStaff.1, xI cy ((L 11)) 8 b_trialStaff.2.1, xI cy ((L 12)) 8 b_trialStaff.2.2.1, xI cy ((L 13)) 8 b_trialStaff.2.2.2.1, xI cy ((L 14)) 8 b_trialStaff.2.2.2.2, xSh ((L 20)) ((L 21)) ((L 22)) ((L 23)), xI cy ((L 21)) 8 b_shelves.1, xI cy ((L 22)) 8 b_shelves.2.1, xRJ cy ((L 23)) 8 (fun j => [some ((L 24)), some ((L 25)), some ((L 26)), some ((L 27)), some ((L 28)), some ((L 29)), some ((L 30)), some ((L 31))].getD j none), xJ cy ((L 24)) 40 ((b_shelves.2.2 0)), xJ cy ((L 25)) 40 ((b_shelves.2.2 1)), xJ cy ((L 26)) 40 ((b_shelves.2.2 2)), xJ cy ((L 27)) 40 ((b_shelves.2.2 3)), xJ cy ((L 28)) 40 ((b_shelves.2.2 4)), xJ cy ((L 29)) 40 ((b_shelves.2.2 5)), xJ cy ((L 30)) 40 ((b_shelves.2.2 6)), xJ cy ((L 31)) 40 ((b_shelves.2.2 7)), xTy ((L 45)) b_tally, xI cy ((L 46)) 48 u5.2, xI cy ((L 48)) 5 u9.2]) (mk := [none, none, none, none, none, none, none, none, none, none, none, none, none, none, none, none, none, none, none, none, none, none, none, none, none, none, none, some (xI cy ((L 48)) 5 u9.2)]) C hw (c_X7_refused l G cy tt L b_seedNow b_keptSeed b_isKept u5.1 b_refusals _ u9e) zy_X7_refused zm_X7_103 rfl rfl rfl [0, 27] rfl rfl rfl rfl rfl rfl rfl rfl hl.1 ⟨rfl, rfl⟩ ⟨Nat.le_of_ble_eq_true rfl, Nat.le_of_ble_eq_true rfl⟩ rfl (Nat.le_of_ble_eq_true rfl) ⟨Nat.zero_le _, Nat.zero_le _⟩ dX7_nerves_42 (fun H locs hw => ?_)
      have hf := Option.some.inj hf
      subst hf
      exact zk_reti (pc := 45) (ww := [xU L b_seedNow b_keptSeed b_isKept, xTe ((L 1)) b_now, xTe ((L 2)) b_trial, xSt ((L 5)) ((L 6)) ((L 7)) ((L 8)) ((L 9)) b_staff.1, xI cy ((L 6)) 8 b_staff.2.1, xI cy ((L 7)) 8 b_staff.2.2.1, xI cy ((L 8)) 8 b_staff.2.2.2.1, xI cy ((L 9)) 8 b_staff.2.2.2.2, xSt ((L 10)) ((L 11)) ((L 12)) ((L 13)) ((L 14)) b_trialStaff.1, xI cy ((L 11)) 8 b_trialStaff.2.1, xI cy ((L 12)) 8 b_trialStaff.2.2.1, xI cy ((L 13)) 8 b_trialStaff.2.2.2.1, xI cy ((L 14)) 8 b_trialStaff.2.2.2.2, xSh ((L 20)) ((L 21)) ((L 22)) ((L 23)), xI cy ((L 21)) 8 b_shelves.1, xI cy ((L 22)) 8 b_shelves.2.1, xRJ cy ((L 23)) 8 (fun j => [some ((L 24)), some ((L 25)), some ((L 26)), some ((L 27)), some ((L 28)), some ((L 29)), some ((L 30)), some ((L 31))].getD j none), xJ cy ((L 24)) 40 ((b_shelves.2.2 0)), xJ cy ((L 25)) 40 ((b_shelves.2.2 1)), xJ cy ((L 26)) 40 ((b_shelves.2.2 2)), xJ cy ((L 27)) 40 ((b_shelves.2.2 3)), xJ cy ((L 28)) 40 ((b_shelves.2.2 4)), xJ cy ((L 29)) 40 ((b_shelves.2.2 5)), xJ cy ((L 30)) 40 ((b_shelves.2.2 6)), xJ cy ((L 31)) 40 ((b_shelves.2.2 7)), xTy ((L 45)) b_tally, xI cy ((L 46)) 48 u5.2, xI cy ((L 48)) 5 u9.2]) C hw hr hQ dX7_nerves_45
  have J28 : ∀ (v2 : Int32) (v3 : Int32) (v4 : Int32) (t0 : Int32) (t1 : Int32) (b_trial : TTe) (b_trialStaff : TSt) (b_tally : TTy) (b_plan : Nat → Int32) (b_refusals : Nat → Int32) (H : Heap) (locs : List Loc) (ls : Array Slot), zf_X7_nerves_28 b_now b_staff b_shelves v2 v3 v4 t0 t1 b_trial b_trialStaff b_tally b_plan b_refusals = some res → zWd G A s.heap H locs [xU L b_seedNow b_keptSeed b_isKept, xTe ((L 1)) b_now, xTe ((L 2)) b_trial, xSt ((L 5)) ((L 6)) ((L 7)) ((L 8)) ((L 9)) b_staff.1, xI cy ((L 6)) 8 b_staff.2.1, xI cy ((L 7)) 8 b_staff.2.2.1, xI cy ((L 8)) 8 b_staff.2.2.2.1, xI cy ((L 9)) 8 b_staff.2.2.2.2, xSt ((L 10)) ((L 11)) ((L 12)) ((L 13)) ((L 14)) b_trialStaff.1, xI cy ((L 11)) 8 b_trialStaff.2.1, xI cy ((L 12)) 8 b_trialStaff.2.2.1, xI cy ((L 13)) 8 b_trialStaff.2.2.2.1, xI cy ((L 14)) 8 b_trialStaff.2.2.2.2, xSh ((L 20)) ((L 21)) ((L 22)) ((L 23)), xI cy ((L 21)) 8 b_shelves.1, xI cy ((L 22)) 8 b_shelves.2.1, xRJ cy ((L 23)) 8 (fun j => [some ((L 24)), some ((L 25)), some ((L 26)), some ((L 27)), some ((L 28)), some ((L 29)), some ((L 30)), some ((L 31))].getD j none), xJ cy ((L 24)) 40 ((b_shelves.2.2 0)), xJ cy ((L 25)) 40 ((b_shelves.2.2 1)), xJ cy ((L 26)) 40 ((b_shelves.2.2 2)), xJ cy ((L 27)) 40 ((b_shelves.2.2 3)), xJ cy ((L 28)) 40 ((b_shelves.2.2 4)), xJ cy ((L 29)) 40 ((b_shelves.2.2 5)), xJ cy ((L 30)) 40 ((b_shelves.2.2 6)), xJ cy ((L 31)) 40 ((b_shelves.2.2 7)), xTy ((L 45)) b_tally, xI cy ((L 46)) 48 b_plan, xI cy ((L 48)) 5 b_refusals] → lv_has ls 7 [(0, .ref ((L 0))), (2, .int v2), (3, .int v3), (4, .int v4)] → W p l e zr_X7_nerves s m args below meth c H locs 0 0 Q (F0 m 28 ls [.int t0, .int t1, .ref ((L 0))]) := by
    intro v2 v3 v4 t0 t1 b_trial b_trialStaff b_tally b_plan b_refusals H locs ls hf hw hl
    rw [zf_X7_nerves_28] at hf
    refine lv_iconst (pc := 28) (v := 0) hx hb dX7_nerves_28 (by decide) ?_
    exact J29 v2 v3 v4 false t0 t1 b_trial b_trialStaff b_tally b_plan b_refusals _ _ _ hf hw (lv_sub hl [0, 1, 2, 3] rfl)
  rw [zf_X7_nerves] at hf
  refine lv_aload_n (pc := 0) hx hb dX7_nerves_0 rfl (lv_at hl 0 rfl) ?_
  refine lv_iload_n (pc := 1) hx hb dX7_nerves_1 rfl (lv_at hl 1 rfl) ?_
  refine lv_iload_n (pc := 2) hx hb dX7_nerves_2 rfl (lv_at hl 2 rfl) ?_
  refine lv_aload_n (pc := 3) hx hb dX7_nerves_3 rfl (lv_at hl 0 rfl) ?_
  refine zk_gt (pc := 4) C hw zl_X7_28 0 rfl rfl dX7_nerves_4 ?_
  refine lv_iload_n (pc := 7) hx hb dX7_nerves_7 rfl (lv_at hl 3 rfl) ?_
  obtain ⟨u1, u1e, hf⟩ := bd hf
  refine zk_cV (pc := 8) (ci := 2) (q0 := 3) (rest := [.int x2, .int x1, .ref ((L 0))]) (st1 := [.int (bI u1), .int x2, .int x1, .ref ((L 0))]) (w' := [xU L b_seedNow b_keptSeed b_isKept, xTe ((L 1)) b_now, xTe ((L 2)) b_trial, xSt ((L 5)) ((L 6)) ((L 7)) ((L 8)) ((L 9)) b_staff.1, xI cy ((L 6)) 8 b_staff.2.1, xI cy ((L 7)) 8 b_staff.2.2.1, xI cy ((L 8)) 8 b_staff.2.2.2.1, xI cy ((L 9)) 8 b_staff.2.2.2.2, xSt ((L 10)) ((L 11)) ((L 12)) ((L 13)) ((L 14)) b_trialStaff.1, xI cy ((L 11)) 8 b_trialStaff.2.1, xI cy ((L 12)) 8 b_trialStaff.2.2.1, xI cy ((L 13)) 8 b_trialStaff.2.2.2.1, xI cy ((L 14)) 8 b_trialStaff.2.2.2.2, xSh ((L 20)) ((L 21)) ((L 22)) ((L 23)), xI cy ((L 21)) 8 b_shelves.1, xI cy ((L 22)) 8 b_shelves.2.1, xRJ cy ((L 23)) 8 (fun j => [some ((L 24)), some ((L 25)), some ((L 26)), some ((L 27)), some ((L 28)), some ((L 29)), some ((L 30)), some ((L 31))].getD j none), xJ cy ((L 24)) 40 ((b_shelves.2.2 0)), xJ cy ((L 25)) 40 ((b_shelves.2.2 1)), xJ cy ((L 26)) 40 ((b_shelves.2.2 2)), xJ cy ((L 27)) 40 ((b_shelves.2.2 3)), xJ cy ((L 28)) 40 ((b_shelves.2.2 4)), xJ cy ((L 29)) 40 ((b_shelves.2.2 5)), xJ cy ((L 30)) 40 ((b_shelves.2.2 6)), xJ cy ((L 31)) 40 ((b_shelves.2.2 7)), xTy ((L 45)) b_tally, xI cy ((L 46)) 48 b_plan, xI cy ((L 48)) 5 b_refusals]) (mk := [none, none, none, none, none, none, none, none, none, none, none, none, none, none, none, none, none, none, none, none, none, none, none, none, none, none, none, none]) C hw (c_X2_has l G cy tt ((L 5)) ((L 6)) ((L 7)) ((L 8)) ((L 9)) x3 b_staff _ u1e) zy_X2_has zm_X7_146 rfl rfl rfl [3, 4, 5, 6, 7] rfl rfl rfl rfl rfl rfl rfl rfl hl.1 ⟨rfl, rfl⟩ ⟨Nat.le_of_ble_eq_true rfl, Nat.le_of_ble_eq_true rfl⟩ rfl (Nat.le_of_ble_eq_true rfl) ⟨Nat.zero_le _, Nat.zero_le _⟩ dX7_nerves_8 (fun H locs hw => ?_)
  refine zk_ifz (pc := 11) (tgt := 28) hx hb dX7_nerves_11 (by decide) (fun q2 => ?_) (fun q2 => ?_)
  · replace hf := if_f q2 hf
    exact J28 x2 x3 x4 x2 x1 b_trial b_trialStaff b_tally b_plan b_refusals _ _ _ hf hw (lv_sub hl [0, 2, 3, 4] rfl)
  · replace hf := if_t q2 hf
    refine lv_iload (pc := 14) hx hb dX7_nerves_14 (lv_at hl 4 rfl) ?_
    refine lv_iconst (pc := 16) (v := 0) hx hb dX7_nerves_16 (by decide) ?_
    refine lv_iconst (pc := 17) (v := 2) hx hb dX7_nerves_17 (by decide) ?_
    obtain ⟨u3, u3e, hf⟩ := bd hf
    refine zk_cS (pc := 18) (rest := [.int x2, .int x1, .ref ((L 0))]) (st1 := [.int (bI u3), .int x2, .int x1, .ref ((L 0))]) (w' := [xU L b_seedNow b_keptSeed b_isKept, xTe ((L 1)) b_now, xTe ((L 2)) b_trial, xSt ((L 5)) ((L 6)) ((L 7)) ((L 8)) ((L 9)) b_staff.1, xI cy ((L 6)) 8 b_staff.2.1, xI cy ((L 7)) 8 b_staff.2.2.1, xI cy ((L 8)) 8 b_staff.2.2.2.1, xI cy ((L 9)) 8 b_staff.2.2.2.2, xSt ((L 10)) ((L 11)) ((L 12)) ((L 13)) ((L 14)) b_trialStaff.1, xI cy ((L 11)) 8 b_trialStaff.2.1, xI cy ((L 12)) 8 b_trialStaff.2.2.1, xI cy ((L 13)) 8 b_trialStaff.2.2.2.1, xI cy ((L 14)) 8 b_trialStaff.2.2.2.2, xSh ((L 20)) ((L 21)) ((L 22)) ((L 23)), xI cy ((L 21)) 8 b_shelves.1, xI cy ((L 22)) 8 b_shelves.2.1, xRJ cy ((L 23)) 8 (fun j => [some ((L 24)), some ((L 25)), some ((L 26)), some ((L 27)), some ((L 28)), some ((L 29)), some ((L 30)), some ((L 31))].getD j none), xJ cy ((L 24)) 40 ((b_shelves.2.2 0)), xJ cy ((L 25)) 40 ((b_shelves.2.2 1)), xJ cy ((L 26)) 40 ((b_shelves.2.2 2)), xJ cy ((L 27)) 40 ((b_shelves.2.2 3)), xJ cy ((L 28)) 40 ((b_shelves.2.2 4)), xJ cy ((L 29)) 40 ((b_shelves.2.2 5)), xJ cy ((L 30)) 40 ((b_shelves.2.2 6)), xJ cy ((L 31)) 40 ((b_shelves.2.2 7)), xTy ((L 45)) b_tally, xI cy ((L 46)) 48 b_plan, xI cy ((L 48)) 5 b_refusals]) (mk := [none, none, none, none, none, none, none, none, none, none, none, none, none, none, none, none, none, none, none, none, none, none, none, none, none, none, none, none]) C hw (c_X7_isWithin l G cy tt x4 (((0 : Int32))) (((2 : Int32))) _ u3e) zy_X7_isWithin zm_X7_99 [] rfl rfl rfl rfl rfl rfl rfl rfl hl.1 ⟨rfl, rfl⟩ ⟨Nat.le_of_ble_eq_true rfl, Nat.le_of_ble_eq_true rfl⟩ rfl (Nat.le_of_ble_eq_true rfl) ⟨Nat.zero_le _, Nat.zero_le _⟩ dX7_nerves_18 (fun H locs hw => ?_)
    refine zk_ifz (pc := 21) (tgt := 28) hx hb dX7_nerves_21 (by decide) (fun q4 => ?_) (fun q4 => ?_)
    · replace hf := if_f q4 hf
      exact J28 x2 x3 x4 x2 x1 b_trial b_trialStaff b_tally b_plan b_refusals _ _ _ hf hw (lv_sub hl [0, 2, 3, 4] rfl)
    · replace hf := if_t q4 hf
      refine lv_iconst (pc := 24) (v := 1) hx hb dX7_nerves_24 (by decide) ?_
      refine lv_goto (pc := 25) (tgt := 29) hx hb dX7_nerves_25 (by decide) ?_
      exact J29 x2 x3 x4 true x2 x1 b_trial b_trialStaff b_tally b_plan b_refusals _ _ _ hf hw (lv_sub hl [0, 2, 3, 4] rfl)
def zf_X7_mostLeftBy_59 (b_now : TTe) (b_staff : TSt) (b_tally : TTy) (b_fitting : Nat → Int32) (k15 : Int32 → Int32 → Int32 → TTe → Option (Int32 × TTe)) (v1 : Int32) (v2 : Int32) (v3 : Int32) (b_trial : TTe) : Option (Int32 × TTe) := k15 v1 v2 ((v3 + 1)) b_trial
def zf_X7_mostLeftBy_15 (b_now : TTe) (b_staff : TSt) (b_tally : TTy) (b_fitting : Nat → Int32) : Nat → Int32 → Int32 → Int32 → TTe → Option (Int32 × TTe)
  | 0, _, _, _, _ => none
  | n + 1, v1, v2, v3, b_trial => (if (100 : Int32) ≤ v3 then some ((if v2 < (b_tally.1 - v2) then (b_tally.1 - v2) else v2), b_trial) else (if ix v3 100 then (if (b_fitting v3.toNatClampNeg) = 0 then zf_X7_mostLeftBy_59 b_now b_staff b_tally b_fitting (zf_X7_mostLeftBy_15 b_now b_staff b_tally b_fitting n) v1 v2 v3 ((v3, b_trial.2.1, b_trial.2.2.1, b_trial.2.2.2.1, b_trial.2.2.2.2.1, b_trial.2.2.2.2.2.1, b_trial.2.2.2.2.2.2)) else (Option.bind (zf_X2_remains v1 b_staff ((v3, b_trial.2.1, b_trial.2.2.1, b_trial.2.2.2.1, b_trial.2.2.2.2.1, b_trial.2.2.2.2.2.1, b_trial.2.2.2.2.2.2))) (fun u5 => (if u5 then zf_X7_mostLeftBy_59 b_now b_staff b_tally b_fitting (zf_X7_mostLeftBy_15 b_now b_staff b_tally b_fitting n) v1 ((v2 + 1)) v3 ((v3, b_trial.2.1, b_trial.2.2.1, b_trial.2.2.2.1, b_trial.2.2.2.2.1, b_trial.2.2.2.2.2.1, b_trial.2.2.2.2.2.2)) else zf_X7_mostLeftBy_59 b_now b_staff b_tally b_fitting (zf_X7_mostLeftBy_15 b_now b_staff b_tally b_fitting n) v1 v2 v3 ((v3, b_trial.2.1, b_trial.2.2.1, b_trial.2.2.2.1, b_trial.2.2.2.2.1, b_trial.2.2.2.2.2.1, b_trial.2.2.2.2.2.2)))))) else none))
def zf_X7_mostLeftBy (x1 : Int32) (b_now : TTe) (b_trial : TTe) (b_staff : TSt) (b_tally : TTy) (b_fitting : Nat → Int32) : Option (Int32 × TTe) := (Option.bind (zf_X5_become b_trial b_now) (fun u1 => zf_X7_mostLeftBy_15 b_now b_staff b_tally b_fitting FU x1 ((0 : Int32)) ((0 : Int32)) u1))
abbrev zr_X7_mostLeftBy : Room := { frames := 2, cells := 0, slots := 0, locals := 44 }
set_option maxHeartbeats 4000000 in
set_option maxRecDepth 100000 in
theorem c_X7_mostLeftBy (l : Launch) (G : va_G) (cy : Nat → ClassId) (tt : Nat → Nat) (L : Nat → Nat) (b_seedNow : Int32) (b_keptSeed : Int32) (b_isKept : Bool) (x1 : Int32) (b_now : TTe) (b_trial : TTe) (b_staff : TSt) (b_tally : TTy) (b_fitting : Nat → Int32) (res : Int32 × TTe) (hf : zf_X7_mostLeftBy x1 b_now b_trial b_staff b_tally b_fitting = some res) : zCT l yX7_mostLeftBy cX7_mostLeftBy 4 (some .int) zr_X7_mostLeftBy G cy tt [.ref ((L 0)), .int x1] [xU L b_seedNow b_keptSeed b_isKept, xTe ((L 1)) b_now, xTe ((L 2)) b_trial, xSt ((L 5)) ((L 6)) ((L 7)) ((L 8)) ((L 9)) b_staff.1, xI cy ((L 6)) 8 b_staff.2.1, xI cy ((L 7)) 8 b_staff.2.2.1, xI cy ((L 8)) 8 b_staff.2.2.2.1, xI cy ((L 9)) 8 b_staff.2.2.2.2, xTy ((L 45)) b_tally, xZ cy ((L 47)) 100 b_fitting] (some (.int res.1)) [xU L b_seedNow b_keptSeed b_isKept, xTe ((L 1)) b_now, xTe ((L 2)) res.2, xSt ((L 5)) ((L 6)) ((L 7)) ((L 8)) ((L 9)) b_staff.1, xI cy ((L 6)) 8 b_staff.2.1, xI cy ((L 7)) 8 b_staff.2.2.1, xI cy ((L 8)) 8 b_staff.2.2.2.1, xI cy ((L 9)) 8 b_staff.2.2.2.2, xTy ((L 45)) b_tally, xZ cy ((L 47)) 100 b_fitting] := by
  refine zk_start zn_X7 (Nat.le_of_ble_eq_true rfl) ?_
  intro p e s m args below meth c A ls Q C hr hQ hw hl
  have C : zCx p m c s args meth cX7_mostLeftBy 4 RX7 G cy tt A := C
  have hx := C.1.1
  have hb := C.1.2.1
  have hl : lv_has ls 4 [(0, .ref ((L 0))), (1, .int x1)] := hl
  have J59 : ∀ (k15 : Int32 → Int32 → Int32 → TTe → Option (Int32 × TTe)) (K15 : ∀ (v1 : Int32) (v2 : Int32) (v3 : Int32) (b_trial : TTe) (H : Heap) (locs : List Loc) (ls : Array Slot), k15 v1 v2 v3 b_trial = some res → zWd G A s.heap H locs [xU L b_seedNow b_keptSeed b_isKept, xTe ((L 1)) b_now, xTe ((L 2)) b_trial, xSt ((L 5)) ((L 6)) ((L 7)) ((L 8)) ((L 9)) b_staff.1, xI cy ((L 6)) 8 b_staff.2.1, xI cy ((L 7)) 8 b_staff.2.2.1, xI cy ((L 8)) 8 b_staff.2.2.2.1, xI cy ((L 9)) 8 b_staff.2.2.2.2, xTy ((L 45)) b_tally, xZ cy ((L 47)) 100 b_fitting] → lv_has ls 4 [(0, .ref ((L 0))), (1, .int v1), (2, .int v2), (3, .int v3)] → W p l e zr_X7_mostLeftBy s m args below meth c H locs 0 0 Q (F0 m 15 ls [])), ∀ (v1 : Int32) (v2 : Int32) (v3 : Int32) (b_trial : TTe) (H : Heap) (locs : List Loc) (ls : Array Slot), zf_X7_mostLeftBy_59 b_now b_staff b_tally b_fitting k15 v1 v2 v3 b_trial = some res → zWd G A s.heap H locs [xU L b_seedNow b_keptSeed b_isKept, xTe ((L 1)) b_now, xTe ((L 2)) b_trial, xSt ((L 5)) ((L 6)) ((L 7)) ((L 8)) ((L 9)) b_staff.1, xI cy ((L 6)) 8 b_staff.2.1, xI cy ((L 7)) 8 b_staff.2.2.1, xI cy ((L 8)) 8 b_staff.2.2.2.1, xI cy ((L 9)) 8 b_staff.2.2.2.2, xTy ((L 45)) b_tally, xZ cy ((L 47)) 100 b_fitting] → lv_has ls 4 [(0, .ref ((L 0))), (1, .int v1), (2, .int v2), (3, .int v3)] → W p l e zr_X7_mostLeftBy s m args below meth c H locs 0 0 Q (F0 m 59 ls []) := by
    intro k15 K15 v1 v2 v3 b_trial H locs ls hf hw hl
    rw [zf_X7_mostLeftBy_59] at hf
    refine lv_iinc (pc := 59) (v := (v3 + 1)) (lv' := [(3, .int ((v3 + 1))), (0, .ref ((L 0))), (1, .int v1), (2, .int v2)]) hx hb dX7_mostLeftBy_59 hl (k := 3) rfl rfl (by decide) rfl (fun ls hl => ?_)
    refine lv_goto (pc := 62) (tgt := 15) hx hb dX7_mostLeftBy_62 (by decide) ?_
    exact K15 v1 v2 ((v3 + 1)) b_trial _ _ _ hf hw (lv_sub hl [1, 2, 3, 0] rfl)
  have J15 : ∀ (n : Nat), ∀ (v1 : Int32) (v2 : Int32) (v3 : Int32) (b_trial : TTe) (H : Heap) (locs : List Loc) (ls : Array Slot), zf_X7_mostLeftBy_15 b_now b_staff b_tally b_fitting n v1 v2 v3 b_trial = some res → zWd G A s.heap H locs [xU L b_seedNow b_keptSeed b_isKept, xTe ((L 1)) b_now, xTe ((L 2)) b_trial, xSt ((L 5)) ((L 6)) ((L 7)) ((L 8)) ((L 9)) b_staff.1, xI cy ((L 6)) 8 b_staff.2.1, xI cy ((L 7)) 8 b_staff.2.2.1, xI cy ((L 8)) 8 b_staff.2.2.2.1, xI cy ((L 9)) 8 b_staff.2.2.2.2, xTy ((L 45)) b_tally, xZ cy ((L 47)) 100 b_fitting] → lv_has ls 4 [(0, .ref ((L 0))), (1, .int v1), (2, .int v2), (3, .int v3)] → W p l e zr_X7_mostLeftBy s m args below meth c H locs 0 0 Q (F0 m 15 ls []) := by
    intro n
    induction n with
    | zero =>
      intro v1 v2 v3 b_trial H locs ls hf hw hl
      rw [zf_X7_mostLeftBy_15] at hf
      cases hf
    | succ n ih =>
      intro v1 v2 v3 b_trial H locs ls hf hw hl
      rw [zf_X7_mostLeftBy_15] at hf
      refine lv_iload_n (pc := 15) hx hb dX7_mostLeftBy_15 rfl (lv_at hl 3 rfl) ?_
      refine lv_aload_n (pc := 16) hx hb dX7_mostLeftBy_16 rfl (lv_at hl 0 rfl) ?_
      refine zk_gt (pc := 17) C hw zl_X7_77 0 rfl rfl dX7_mostLeftBy_17 ?_
      refine zk_alen (pc := 20) (v := 100) C hw 9 2 rfl rfl rfl dX7_mostLeftBy_20 ?_
      refine lv_icmp_ge (pc := 21) (tgt := 65) hx hb dX7_mostLeftBy_21 (by decide) (fun q2 => ?_) (fun q2 => ?_)
      · replace hf := if_t q2 hf
        refine lv_iload_n (pc := 65) hx hb dX7_mostLeftBy_65 rfl (lv_at hl 2 rfl) ?_
        refine lv_aload_n (pc := 66) hx hb dX7_mostLeftBy_66 rfl (lv_at hl 0 rfl) ?_
        refine zk_gt (pc := 67) C hw zl_X7_69 0 rfl rfl dX7_mostLeftBy_67 ?_
        refine zk_gt (pc := 70) C hw zl_X7_300 8 rfl rfl dX7_mostLeftBy_70 ?_
        refine lv_iload_n (pc := 73) hx hb dX7_mostLeftBy_73 rfl (lv_at hl 2 rfl) ?_
        refine lv_isub (pc := 74) hx hb dX7_mostLeftBy_74 ?_
        refine zk_max (pc := 75) C hl.1 zm_X7_406 ⟨Nat.le_of_ble_eq_true rfl, Nat.le_of_ble_eq_true rfl⟩ ⟨Nat.zero_le _, Nat.zero_le _⟩ dX7_mostLeftBy_75 ?_
        have hf := Option.some.inj hf
        subst hf
        exact zk_reti (pc := 78) (ww := [xU L b_seedNow b_keptSeed b_isKept, xTe ((L 1)) b_now, xTe ((L 2)) b_trial, xSt ((L 5)) ((L 6)) ((L 7)) ((L 8)) ((L 9)) b_staff.1, xI cy ((L 6)) 8 b_staff.2.1, xI cy ((L 7)) 8 b_staff.2.2.1, xI cy ((L 8)) 8 b_staff.2.2.2.1, xI cy ((L 9)) 8 b_staff.2.2.2.2, xTy ((L 45)) b_tally, xZ cy ((L 47)) 100 b_fitting]) C hw hr hQ dX7_mostLeftBy_78
      · replace hf := if_f q2 hf
        refine lv_aload_n (pc := 24) hx hb dX7_mostLeftBy_24 rfl (lv_at hl 0 rfl) ?_
        refine zk_gt (pc := 25) C hw zl_X7_16 0 rfl rfl dX7_mostLeftBy_25 ?_
        refine lv_iload_n (pc := 28) hx hb dX7_mostLeftBy_28 rfl (lv_at hl 3 rfl) ?_
        refine zk_put (pc := 29) (w' := [xU L b_seedNow b_keptSeed b_isKept, xTe ((L 1)) b_now, xTe ((L 2)) ((v3, b_trial.2.1, b_trial.2.2.1, b_trial.2.2.2.1, b_trial.2.2.2.2.1, b_trial.2.2.2.2.2.1, b_trial.2.2.2.2.2.2)), xSt ((L 5)) ((L 6)) ((L 7)) ((L 8)) ((L 9)) b_staff.1, xI cy ((L 6)) 8 b_staff.2.1, xI cy ((L 7)) 8 b_staff.2.2.1, xI cy ((L 8)) 8 b_staff.2.2.2.1, xI cy ((L 9)) 8 b_staff.2.2.2.2, xTy ((L 45)) b_tally, xZ cy ((L 47)) 100 b_fitting]) C hw zp_X7_330 2 rfl rfl rfl (Nat.le_of_ble_eq_true rfl) rfl dX7_mostLeftBy_29 (fun H locs hw => ?_)
        refine lv_aload_n (pc := 32) hx hb dX7_mostLeftBy_32 rfl (lv_at hl 0 rfl) ?_
        refine zk_gt (pc := 33) C hw zl_X7_77 0 rfl rfl dX7_mostLeftBy_33 ?_
        refine lv_iload_n (pc := 36) hx hb dX7_mostLeftBy_36 rfl (lv_at hl 3 rfl) ?_
        obtain ⟨q3, hf⟩ := ck hf
        refine zk_zald (pc := 37) C hw 9 rfl q3 dX7_mostLeftBy_37 ?_
        refine lv_if_eq (pc := 38) (tgt := 59) hx hb dX7_mostLeftBy_38 (by decide) (fun q4 => ?_) (fun q4 => ?_)
        · replace hf := if_t q4 hf
          exact J59 (zf_X7_mostLeftBy_15 b_now b_staff b_tally b_fitting n) ih v1 v2 v3 ((v3, b_trial.2.1, b_trial.2.2.1, b_trial.2.2.2.1, b_trial.2.2.2.2.1, b_trial.2.2.2.2.2.1, b_trial.2.2.2.2.2.2)) _ _ _ hf hw (lv_sub hl [0, 1, 2, 3] rfl)
        · replace hf := if_f q4 hf
          refine lv_aload_n (pc := 41) hx hb dX7_mostLeftBy_41 rfl (lv_at hl 0 rfl) ?_
          refine zk_gt (pc := 42) C hw zl_X7_28 0 rfl rfl dX7_mostLeftBy_42 ?_
          refine lv_iload_n (pc := 45) hx hb dX7_mostLeftBy_45 rfl (lv_at hl 1 rfl) ?_
          refine lv_aload_n (pc := 46) hx hb dX7_mostLeftBy_46 rfl (lv_at hl 0 rfl) ?_
          refine zk_gt (pc := 47) C hw zl_X7_16 0 rfl rfl dX7_mostLeftBy_47 ?_
          obtain ⟨u5, u5e, hf⟩ := bd hf
          refine zk_cV (pc := 50) (ci := 2) (q0 := 3) (rest := []) (st1 := [.int (bI u5)]) (w' := [xU L b_seedNow b_keptSeed b_isKept, xTe ((L 1)) b_now, xTe ((L 2)) ((v3, b_trial.2.1, b_trial.2.2.1, b_trial.2.2.2.1, b_trial.2.2.2.2.1, b_trial.2.2.2.2.2.1, b_trial.2.2.2.2.2.2)), xSt ((L 5)) ((L 6)) ((L 7)) ((L 8)) ((L 9)) b_staff.1, xI cy ((L 6)) 8 b_staff.2.1, xI cy ((L 7)) 8 b_staff.2.2.1, xI cy ((L 8)) 8 b_staff.2.2.2.1, xI cy ((L 9)) 8 b_staff.2.2.2.2, xTy ((L 45)) b_tally, xZ cy ((L 47)) 100 b_fitting]) (mk := [none, none, none, none, none, none, none, none, none, none]) C hw (c_X2_remains l G cy tt ((L 5)) ((L 6)) ((L 7)) ((L 8)) ((L 9)) ((L 2)) v1 b_staff ((v3, b_trial.2.1, b_trial.2.2.1, b_trial.2.2.2.1, b_trial.2.2.2.2.1, b_trial.2.2.2.2.2.1, b_trial.2.2.2.2.2.2)) _ u5e) zy_X2_remains zm_X7_213 rfl rfl rfl [3, 4, 5, 6, 7, 2] rfl rfl rfl rfl rfl rfl rfl rfl hl.1 ⟨rfl, rfl⟩ ⟨Nat.le_of_ble_eq_true rfl, Nat.le_of_ble_eq_true rfl⟩ rfl (Nat.le_of_ble_eq_true rfl) ⟨Nat.zero_le _, Nat.zero_le _⟩ dX7_mostLeftBy_50 (fun H locs hw => ?_)
          refine zk_ifz (pc := 53) (tgt := 59) hx hb dX7_mostLeftBy_53 (by decide) (fun q6 => ?_) (fun q6 => ?_)
          · replace hf := if_f q6 hf
            exact J59 (zf_X7_mostLeftBy_15 b_now b_staff b_tally b_fitting n) ih v1 v2 v3 ((v3, b_trial.2.1, b_trial.2.2.1, b_trial.2.2.2.1, b_trial.2.2.2.2.1, b_trial.2.2.2.2.2.1, b_trial.2.2.2.2.2.2)) _ _ _ hf hw (lv_sub hl [0, 1, 2, 3] rfl)
          · replace hf := if_t q6 hf
            refine lv_iinc (pc := 56) (v := (v2 + 1)) (lv' := [(2, .int ((v2 + 1))), (0, .ref ((L 0))), (1, .int v1), (3, .int v3)]) hx hb dX7_mostLeftBy_56 hl (k := 2) rfl rfl (by decide) rfl (fun ls hl => ?_)
            exact J59 (zf_X7_mostLeftBy_15 b_now b_staff b_tally b_fitting n) ih v1 ((v2 + 1)) v3 ((v3, b_trial.2.1, b_trial.2.2.1, b_trial.2.2.2.1, b_trial.2.2.2.2.1, b_trial.2.2.2.2.2.1, b_trial.2.2.2.2.2.2)) _ _ _ hf hw (lv_sub hl [1, 2, 0, 3] rfl)
  rw [zf_X7_mostLeftBy] at hf
  refine lv_iconst (pc := 0) (v := 0) hx hb dX7_mostLeftBy_0 (by decide) ?_
  refine lv_istore_n (pc := 1) (lv' := [(2, .int ((0 : Int32))), (0, .ref ((L 0))), (1, .int x1)]) hx hb dX7_mostLeftBy_1 rfl hl (by decide) rfl (fun ls hl => ?_)
  refine lv_aload_n (pc := 2) hx hb dX7_mostLeftBy_2 rfl (lv_at hl 1 rfl) ?_
  refine zk_gt (pc := 3) C hw zl_X7_16 0 rfl rfl dX7_mostLeftBy_3 ?_
  refine lv_aload_n (pc := 6) hx hb dX7_mostLeftBy_6 rfl (lv_at hl 1 rfl) ?_
  refine zk_gt (pc := 7) C hw zl_X7_10 0 rfl rfl dX7_mostLeftBy_7 ?_
  obtain ⟨u1, u1e, hf⟩ := bd hf
  refine zk_cV (pc := 10) (ci := 5) (q0 := 2) (rest := []) (st1 := []) (w' := [xU L b_seedNow b_keptSeed b_isKept, xTe ((L 1)) b_now, xTe ((L 2)) u1, xSt ((L 5)) ((L 6)) ((L 7)) ((L 8)) ((L 9)) b_staff.1, xI cy ((L 6)) 8 b_staff.2.1, xI cy ((L 7)) 8 b_staff.2.2.1, xI cy ((L 8)) 8 b_staff.2.2.2.1, xI cy ((L 9)) 8 b_staff.2.2.2.2, xTy ((L 45)) b_tally, xZ cy ((L 47)) 100 b_fitting]) (mk := [none, none, some (xTe ((L 2)) u1), none, none, none, none, none, none, none]) C hw (c_X5_become l G cy tt ((L 2)) ((L 1)) b_trial b_now _ u1e) zy_X5_become zm_X7_193 rfl rfl rfl [2, 1] rfl rfl rfl rfl rfl rfl rfl rfl hl.1 ⟨rfl, rfl⟩ ⟨Nat.le_of_ble_eq_true rfl, Nat.le_of_ble_eq_true rfl⟩ rfl (Nat.le_of_ble_eq_true rfl) ⟨Nat.zero_le _, Nat.zero_le _⟩ dX7_mostLeftBy_10 (fun H locs hw => ?_)
  refine lv_iconst (pc := 13) (v := 0) hx hb dX7_mostLeftBy_13 (by decide) ?_
  refine lv_istore_n (pc := 14) (lv' := [(3, .int ((0 : Int32))), (2, .int ((0 : Int32))), (0, .ref ((L 0))), (1, .int x1)]) hx hb dX7_mostLeftBy_14 rfl hl (by decide) rfl (fun ls hl => ?_)
  exact J15 FU x1 ((0 : Int32)) ((0 : Int32)) u1 _ _ _ hf hw (lv_sub hl [2, 3, 1, 0] rfl)
def zf_X7_send_81 (b_now : TTe) (b_staff : TSt) (b_shelves : TSh) (k46 : Int32 → Int32 → Int32 → TTe → TTy → (Nat → Int32) → (Nat → Int32) → (Nat → Int32) → Option (Int32 × TTe × TTy × (Nat → Int32) × (Nat → Int32) × (Nat → Int32))) (v4 : Int32) (v5 : Int32) (v6 : Int32) (b_trial : TTe) (b_tally : TTy) (b_plan : Nat → Int32) (b_fitting : Nat → Int32) (b_refusals : Nat → Int32) : Option (Int32 × TTe × TTy × (Nat → Int32) × (Nat → Int32) × (Nat → Int32)) := k46 v4 v5 ((v6 + 1)) b_trial b_tally b_plan b_fitting b_refusals
def zf_X7_send_46 (b_now : TTe) (b_staff : TSt) (b_shelves : TSh) : Nat → Int32 → Int32 → Int32 → TTe → TTy → (Nat → Int32) → (Nat → Int32) → (Nat → Int32) → Option (Int32 × TTe × TTy × (Nat → Int32) × (Nat → Int32) × (Nat → Int32))
  | 0, _, _, _, _, _, _, _, _ => none
  | n + 1, v4, v5, v6, b_trial, b_tally, b_plan, b_fitting, b_refusals => (if b_staff.1 ≤ v6 then some (v4, b_trial, b_tally, b_plan, b_fitting, b_refusals) else (Option.bind (zf_X7_mostLeftBy v6 b_now b_trial b_staff b_tally b_fitting) (fun u7 => (if v5 ≤ u7.1 then zf_X7_send_81 b_now b_staff b_shelves (zf_X7_send_46 b_now b_staff b_shelves n) v4 v5 v6 u7.2 b_tally b_plan b_fitting b_refusals else zf_X7_send_81 b_now b_staff b_shelves (zf_X7_send_46 b_now b_staff b_shelves n) v6 u7.1 v6 u7.2 b_tally b_plan b_fitting b_refusals))))
def zf_X7_send (x1 : Int32) (x2 : Int32) (b_now : TTe) (b_trial : TTe) (b_staff : TSt) (b_shelves : TSh) (b_tally : TTy) (b_plan : Nat → Int32) (b_fitting : Nat → Int32) (b_refusals : Nat → Int32) : Option (Int32 × TTe × TTy × (Nat → Int32) × (Nat → Int32) × (Nat → Int32)) := (Option.bind (zf_X7_takeTwos x1 x2 true b_staff b_shelves b_plan) (fun u1 => (if u1.1 = 0 then (Option.bind (zf_X7_tallyRages x2 b_now b_trial b_staff b_tally u1.2 b_fitting) (fun u3 => (if (2 : Int32) ≤ u3.2.1.1 then zf_X7_send_46 b_now b_staff b_shelves FU ((-1 : Int32)) ((1000000 : Int32)) ((0 : Int32)) u3.1 u3.2.1 u1.2 u3.2.2 b_refusals else some ((-1 : Int32), u3.1, u3.2.1, u1.2, u3.2.2, b_refusals)))) else (Option.bind (zf_X7_refused u1.1 b_refusals) (fun u5 => some (u5.1, b_trial, b_tally, u1.2, b_fitting, u5.2))))))
abbrev zr_X7_send : Room := { frames := 6, cells := 0, slots := 0, locals := 137 }
set_option maxHeartbeats 4000000 in
set_option maxRecDepth 100000 in
theorem c_X7_send (l : Launch) (G : va_G) (cy : Nat → ClassId) (tt : Nat → Nat) (L : Nat → Nat) (b_seedNow : Int32) (b_keptSeed : Int32) (b_isKept : Bool) (x1 : Int32) (x2 : Int32) (b_now : TTe) (b_trial : TTe) (b_staff : TSt) (b_shelves : TSh) (b_tally : TTy) (b_plan : Nat → Int32) (b_fitting : Nat → Int32) (b_refusals : Nat → Int32) (res : Int32 × TTe × TTy × (Nat → Int32) × (Nat → Int32) × (Nat → Int32)) (hf : zf_X7_send x1 x2 b_now b_trial b_staff b_shelves b_tally b_plan b_fitting b_refusals = some res) : zCT l yX7_send cX7_send 8 (some .int) zr_X7_send G cy tt [.ref ((L 0)), .int x1, .int x2] [xU L b_seedNow b_keptSeed b_isKept, xTe ((L 1)) b_now, xTe ((L 2)) b_trial, xSt ((L 5)) ((L 6)) ((L 7)) ((L 8)) ((L 9)) b_staff.1, xI cy ((L 6)) 8 b_staff.2.1, xI cy ((L 7)) 8 b_staff.2.2.1, xI cy ((L 8)) 8 b_staff.2.2.2.1, xI cy ((L 9)) 8 b_staff.2.2.2.2, xSh ((L 20)) ((L 21)) ((L 22)) ((L 23)), xI cy ((L 21)) 8 b_shelves.1, xI cy ((L 22)) 8 b_shelves.2.1, xRJ cy ((L 23)) 8 (fun j => [some ((L 24)), some ((L 25)), some ((L 26)), some ((L 27)), some ((L 28)), some ((L 29)), some ((L 30)), some ((L 31))].getD j none), xJ cy ((L 24)) 40 ((b_shelves.2.2 0)), xJ cy ((L 25)) 40 ((b_shelves.2.2 1)), xJ cy ((L 26)) 40 ((b_shelves.2.2 2)), xJ cy ((L 27)) 40 ((b_shelves.2.2 3)), xJ cy ((L 28)) 40 ((b_shelves.2.2 4)), xJ cy ((L 29)) 40 ((b_shelves.2.2 5)), xJ cy ((L 30)) 40 ((b_shelves.2.2 6)), xJ cy ((L 31)) 40 ((b_shelves.2.2 7)), xTy ((L 45)) b_tally, xI cy ((L 46)) 48 b_plan, xZ cy ((L 47)) 100 b_fitting, xI cy ((L 48)) 5 b_refusals] (some (.int res.1)) [xU L b_seedNow b_keptSeed b_isKept, xTe ((L 1)) b_now, xTe ((L 2)) res.2.1, xSt ((L 5)) ((L 6)) ((L 7)) ((L 8)) ((L 9)) b_staff.1, xI cy ((L 6)) 8 b_staff.2.1, xI cy ((L 7)) 8 b_staff.2.2.1, xI cy ((L 8)) 8 b_staff.2.2.2.1, xI cy ((L 9)) 8 b_staff.2.2.2.2, xSh ((L 20)) ((L 21)) ((L 22)) ((L 23)), xI cy ((L 21)) 8 b_shelves.1, xI cy ((L 22)) 8 b_shelves.2.1, xRJ cy ((L 23)) 8 (fun j => [some ((L 24)), some ((L 25)), some ((L 26)), some ((L 27)), some ((L 28)), some ((L 29)), some ((L 30)), some ((L 31))].getD j none), xJ cy ((L 24)) 40 ((b_shelves.2.2 0)), xJ cy ((L 25)) 40 ((b_shelves.2.2 1)), xJ cy ((L 26)) 40 ((b_shelves.2.2 2)), xJ cy ((L 27)) 40 ((b_shelves.2.2 3)), xJ cy ((L 28)) 40 ((b_shelves.2.2 4)), xJ cy ((L 29)) 40 ((b_shelves.2.2 5)), xJ cy ((L 30)) 40 ((b_shelves.2.2 6)), xJ cy ((L 31)) 40 ((b_shelves.2.2 7)), xTy ((L 45)) res.2.2.1, xI cy ((L 46)) 48 res.2.2.2.1, xZ cy ((L 47)) 100 res.2.2.2.2.1, xI cy ((L 48)) 5 res.2.2.2.2.2] := by
  refine zk_start zn_X7 (Nat.le_of_ble_eq_true rfl) ?_
  intro p e s m args below meth c A ls Q C hr hQ hw hl
  have C : zCx p m c s args meth cX7_send 8 RX7 G cy tt A := C
  have hx := C.1.1
  have hb := C.1.2.1
  have hl : lv_has ls 8 [(0, .ref ((L 0))), (1, .int x1), (2, .int x2)] := hl
  have J81 : ∀ (k46 : Int32 → Int32 → Int32 → TTe → TTy → (Nat → Int32) → (Nat → Int32) → (Nat → Int32) → Option (Int32 × TTe × TTy × (Nat → Int32) × (Nat → Int32) × (Nat → Int32))) (K46 : ∀ (v4 : Int32) (v5 : Int32) (v6 : Int32) (b_trial : TTe) (b_tally : TTy) (b_plan : Nat → Int32) (b_fitting : Nat → Int32) (b_refusals : Nat → Int32) (H : Heap) (locs : List Loc) (ls : Array Slot), k46 v4 v5 v6 b_trial b_tally b_plan b_fitting b_refusals = some res → zWd G A s.heap H locs [xU L b_seedNow b_keptSeed b_isKept, xTe ((L 1)) b_now, xTe ((L 2)) b_trial, xSt ((L 5)) ((L 6)) ((L 7)) ((L 8)) ((L 9)) b_staff.1, xI cy ((L 6)) 8 b_staff.2.1, xI cy ((L 7)) 8 b_staff.2.2.1, xI cy ((L 8)) 8 b_staff.2.2.2.1, xI cy ((L 9)) 8 b_staff.2.2.2.2, xSh ((L 20)) ((L 21)) ((L 22)) ((L 23)), xI cy ((L 21)) 8 b_shelves.1, xI cy ((L 22)) 8 b_shelves.2.1, xRJ cy ((L 23)) 8 (fun j => [some ((L 24)), some ((L 25)), some ((L 26)), some ((L 27)), some ((L 28)), some ((L 29)), some ((L 30)), some ((L 31))].getD j none), xJ cy ((L 24)) 40 ((b_shelves.2.2 0)), xJ cy ((L 25)) 40 ((b_shelves.2.2 1)), xJ cy ((L 26)) 40 ((b_shelves.2.2 2)), xJ cy ((L 27)) 40 ((b_shelves.2.2 3)), xJ cy ((L 28)) 40 ((b_shelves.2.2 4)), xJ cy ((L 29)) 40 ((b_shelves.2.2 5)), xJ cy ((L 30)) 40 ((b_shelves.2.2 6)), xJ cy ((L 31)) 40 ((b_shelves.2.2 7)), xTy ((L 45)) b_tally, xI cy ((L 46)) 48 b_plan, xZ cy ((L 47)) 100 b_fitting, xI cy ((L 48)) 5 b_refusals] → lv_has ls 8 [(0, .ref ((L 0))), (4, .int v4), (5, .int v5), (6, .int v6)] → W p l e zr_X7_send s m args below meth c H locs 0 0 Q (F0 m 46 ls [])), ∀ (v4 : Int32) (v5 : Int32) (v6 : Int32) (b_trial : TTe) (b_tally : TTy) (b_plan : Nat → Int32) (b_fitting : Nat → Int32) (b_refusals : Nat → Int32) (H : Heap) (locs : List Loc) (ls : Array Slot), zf_X7_send_81 b_now b_staff b_shelves k46 v4 v5 v6 b_trial b_tally b_plan b_fitting b_refusals = some res → zWd G A s.heap H locs [xU L b_seedNow b_keptSeed b_isKept, xTe ((L 1)) b_now, xTe ((L 2)) b_trial, xSt ((L 5)) ((L 6)) ((L 7)) ((L 8)) ((L 9)) b_staff.1, xI cy ((L 6)) 8 b_staff.2.1, xI cy ((L 7)) 8 b_staff.2.2.1, xI cy ((L 8)) 8 b_staff.2.2.2.1, xI cy ((L 9)) 8 b_staff.2.2.2.2, xSh ((L 20)) ((L 21)) ((L 22)) ((L 23)), xI cy ((L 21)) 8 b_shelves.1, xI cy ((L 22)) 8 b_shelves.2.1, xRJ cy ((L 23)) 8 (fun j => [some ((L 24)), some ((L 25)), some ((L 26)), some ((L 27)), some ((L 28)), some ((L 29)), some ((L 30)), some ((L 31))].getD j none), xJ cy ((L 24)) 40 ((b_shelves.2.2 0)), xJ cy ((L 25)) 40 ((b_shelves.2.2 1)), xJ cy ((L 26)) 40 ((b_shelves.2.2 2)), xJ cy ((L 27)) 40 ((b_shelves.2.2 3)), xJ cy ((L 28)) 40 ((b_shelves.2.2 4)), xJ cy ((L 29)) 40 ((b_shelves.2.2 5)), xJ cy ((L 30)) 40 ((b_shelves.2.2 6)), xJ cy ((L 31)) 40 ((b_shelves.2.2 7)), xTy ((L 45)) b_tally, xI cy ((L 46)) 48 b_plan, xZ cy ((L 47)) 100 b_fitting, xI cy ((L 48)) 5 b_refusals] → lv_has ls 8 [(0, .ref ((L 0))), (4, .int v4), (5, .int v5), (6, .int v6)] → W p l e zr_X7_send s m args below meth c H locs 0 0 Q (F0 m 81 ls []) := by
    intro k46 K46 v4 v5 v6 b_trial b_tally b_plan b_fitting b_refusals H locs ls hf hw hl
    rw [zf_X7_send_81] at hf
    refine lv_iinc (pc := 81) (v := (v6 + 1)) (lv' := [(6, .int ((v6 + 1))), (0, .ref ((L 0))), (4, .int v4), (5, .int v5)]) hx hb dX7_send_81 hl (k := 3) rfl rfl (by decide) rfl (fun ls hl => ?_)
    refine lv_goto (pc := 84) (tgt := 46) hx hb dX7_send_84 (by decide) ?_
    exact K46 v4 v5 ((v6 + 1)) b_trial b_tally b_plan b_fitting b_refusals _ _ _ hf hw (lv_sub hl [1, 2, 3, 0] rfl)
  have J46 : ∀ (n : Nat), ∀ (v4 : Int32) (v5 : Int32) (v6 : Int32) (b_trial : TTe) (b_tally : TTy) (b_plan : Nat → Int32) (b_fitting : Nat → Int32) (b_refusals : Nat → Int32) (H : Heap) (locs : List Loc) (ls : Array Slot), zf_X7_send_46 b_now b_staff b_shelves n v4 v5 v6 b_trial b_tally b_plan b_fitting b_refusals = some res → zWd G A s.heap H locs [xU L b_seedNow b_keptSeed b_isKept, xTe ((L 1)) b_now, xTe ((L 2)) b_trial, xSt ((L 5)) ((L 6)) ((L 7)) ((L 8)) ((L 9)) b_staff.1, xI cy ((L 6)) 8 b_staff.2.1, xI cy ((L 7)) 8 b_staff.2.2.1, xI cy ((L 8)) 8 b_staff.2.2.2.1, xI cy ((L 9)) 8 b_staff.2.2.2.2, xSh ((L 20)) ((L 21)) ((L 22)) ((L 23)), xI cy ((L 21)) 8 b_shelves.1, xI cy ((L 22)) 8 b_shelves.2.1, xRJ cy ((L 23)) 8 (fun j => [some ((L 24)), some ((L 25)), some ((L 26)), some ((L 27)), some ((L 28)), some ((L 29)), some ((L 30)), some ((L 31))].getD j none), xJ cy ((L 24)) 40 ((b_shelves.2.2 0)), xJ cy ((L 25)) 40 ((b_shelves.2.2 1)), xJ cy ((L 26)) 40 ((b_shelves.2.2 2)), xJ cy ((L 27)) 40 ((b_shelves.2.2 3)), xJ cy ((L 28)) 40 ((b_shelves.2.2 4)), xJ cy ((L 29)) 40 ((b_shelves.2.2 5)), xJ cy ((L 30)) 40 ((b_shelves.2.2 6)), xJ cy ((L 31)) 40 ((b_shelves.2.2 7)), xTy ((L 45)) b_tally, xI cy ((L 46)) 48 b_plan, xZ cy ((L 47)) 100 b_fitting, xI cy ((L 48)) 5 b_refusals] → lv_has ls 8 [(0, .ref ((L 0))), (4, .int v4), (5, .int v5), (6, .int v6)] → W p l e zr_X7_send s m args below meth c H locs 0 0 Q (F0 m 46 ls []) := by
    intro n
    induction n with
    | zero =>
      intro v4 v5 v6 b_trial b_tally b_plan b_fitting b_refusals H locs ls hf hw hl
      rw [zf_X7_send_46] at hf
      cases hf
    | succ n ih =>
      intro v4 v5 v6 b_trial b_tally b_plan b_fitting b_refusals H locs ls hf hw hl
      rw [zf_X7_send_46] at hf
      refine lv_iload (pc := 46) hx hb dX7_send_46 (lv_at hl 3 rfl) ?_
      refine lv_aload_n (pc := 48) hx hb dX7_send_48 rfl (lv_at hl 0 rfl) ?_
      refine zk_gt (pc := 49) C hw zl_X7_28 0 rfl rfl dX7_send_49 ?_
      refine zk_gt (pc := 52) C hw zl_X7_303 3 rfl rfl dX7_send_52 ?_
      refine lv_icmp_ge (pc := 55) (tgt := 87) hx hb dX7_send_55 (by decide) (fun q6 => ?_) (fun q6 => ?_)
      · replace hf := if_t q6 hf
        refine lv_iload (pc := 87) hx hb dX7_send_87 (lv_at hl 1 rfl) ?_
        have hf := Option.some.inj hf
        subst hf
        exact zk_reti (pc := 89) (ww := [xU L b_seedNow b_keptSeed b_isKept, xTe ((L 1)) b_now, xTe ((L 2)) b_trial, xSt ((L 5)) ((L 6)) ((L 7)) ((L 8)) ((L 9)) b_staff.1, xI cy ((L 6)) 8 b_staff.2.1, xI cy ((L 7)) 8 b_staff.2.2.1, xI cy ((L 8)) 8 b_staff.2.2.2.1, xI cy ((L 9)) 8 b_staff.2.2.2.2, xSh ((L 20)) ((L 21)) ((L 22)) ((L 23)), xI cy ((L 21)) 8 b_shelves.1, xI cy ((L 22)) 8 b_shelves.2.1, xRJ cy ((L 23)) 8 (fun j => [some ((L 24)), some ((L 25)), some ((L 26)), some ((L 27)), some ((L 28)), some ((L 29)), some ((L 30)), some ((L 31))].getD j none), xJ cy ((L 24)) 40 ((b_shelves.2.2 0)), xJ cy ((L 25)) 40 ((b_shelves.2.2 1)), xJ cy ((L 26)) 40 ((b_shelves.2.2 2)), xJ cy ((L 27)) 40 ((b_shelves.2.2 3)), xJ cy ((L 28)) 40 ((b_shelves.2.2 4)), xJ cy ((L 29)) 40 ((b_shelves.2.2 5)), xJ cy ((L 30)) 40 ((b_shelves.2.2 6)), xJ cy ((L 31)) 40 ((b_shelves.2.2 7)), xTy ((L 45)) b_tally, xI cy ((L 46)) 48 b_plan, xZ cy ((L 47)) 100 b_fitting, xI cy ((L 48)) 5 b_refusals]) C hw hr hQ dX7_send_89
      · replace hf := if_f q6 hf
        refine lv_aload_n (pc := 58) hx hb dX7_send_58 rfl (lv_at hl 0 rfl) ?_
        refine lv_iload (pc := 59) hx hb dX7_send_59 (lv_at hl 3 rfl) ?_
        obtain ⟨u7, u7e, hf⟩ := bd hf
        refine zk_cV (pc := 61) (ci := 7) (q0 := 0) (rest := []) (st1 := [.int u7.1]) (w' := [xU L b_seedNow b_keptSeed b_isKept, xTe ((L 1)) b_now, xTe ((L 2)) u7.2, xSt ((L 5)) ((L 6)) ((L 7)) ((L 8)) ((L 9)) b_staff.1, xI cy ((L 6)) 8 b_staff.2.1, xI cy ((L 7)) 8 b_staff.2.2.1, xI cy ((L 8)) 8 b_staff.2.2.2.1, xI cy ((L 9)) 8 b_staff.2.2.2.2, xSh ((L 20)) ((L 21)) ((L 22)) ((L 23)), xI cy ((L 21)) 8 b_shelves.1, xI cy ((L 22)) 8 b_shelves.2.1, xRJ cy ((L 23)) 8 (fun j => [some ((L 24)), some ((L 25)), some ((L 26)), some ((L 27)), some ((L 28)), some ((L 29)), some ((L 30)), some ((L 31))].getD j none), xJ cy ((L 24)) 40 ((b_shelves.2.2 0)), xJ cy ((L 25)) 40 ((b_shelves.2.2 1)), xJ cy ((L 26)) 40 ((b_shelves.2.2 2)), xJ cy ((L 27)) 40 ((b_shelves.2.2 3)), xJ cy ((L 28)) 40 ((b_shelves.2.2 4)), xJ cy ((L 29)) 40 ((b_shelves.2.2 5)), xJ cy ((L 30)) 40 ((b_shelves.2.2 6)), xJ cy ((L 31)) 40 ((b_shelves.2.2 7)), xTy ((L 45)) b_tally, xI cy ((L 46)) 48 b_plan, xZ cy ((L 47)) 100 b_fitting, xI cy ((L 48)) 5 b_refusals]) (mk := [none, none, some (xTe ((L 2)) u7.2), none, none, none, none, none, none, none, none, none, none, none, none, none, none, none, none, none, none, none, none, none]) C hw (c_X7_mostLeftBy l G cy tt L b_seedNow b_keptSeed b_isKept v6 b_now b_trial b_staff b_tally b_fitting _ u7e) zy_X7_mostLeftBy zm_X7_304 rfl rfl rfl [0, 1, 2, 3, 4, 5, 6, 7, 20, 22] rfl rfl rfl rfl rfl rfl rfl rfl hl.1 ⟨rfl, rfl⟩ ⟨Nat.le_of_ble_eq_true rfl, Nat.le_of_ble_eq_true rfl⟩ rfl (Nat.le_of_ble_eq_true rfl) ⟨Nat.zero_le _, Nat.zero_le _⟩ dX7_send_61 (fun H locs hw => ?_)
        refine lv_istore (pc := 64) (lv' := [(7, .int u7.1), (0, .ref ((L 0))), (4, .int v4), (5, .int v5), (6, .int v6)]) hx hb dX7_send_64 hl (by decide) rfl (fun ls hl => ?_)
        refine lv_iload (pc := 66) hx hb dX7_send_66 (lv_at hl 0 rfl) ?_
        refine lv_iload (pc := 68) hx hb dX7_send_68 (lv_at hl 3 rfl) ?_
        refine lv_icmp_ge (pc := 70) (tgt := 81) hx hb dX7_send_70 (by decide) (fun q8 => ?_) (fun q8 => ?_)
        · replace hf := if_t q8 hf
          exact J81 (zf_X7_send_46 b_now b_staff b_shelves n) ih v4 v5 v6 u7.2 b_tally b_plan b_fitting b_refusals _ _ _ hf hw (lv_sub hl [1, 2, 3, 4] rfl)
        · replace hf := if_f q8 hf
          refine lv_iload (pc := 73) hx hb dX7_send_73 (lv_at hl 0 rfl) ?_
          refine lv_istore (pc := 75) (lv' := [(5, .int u7.1), (7, .int u7.1), (0, .ref ((L 0))), (4, .int v4), (6, .int v6)]) hx hb dX7_send_75 hl (by decide) rfl (fun ls hl => ?_)
          refine lv_iload (pc := 77) hx hb dX7_send_77 (lv_at hl 4 rfl) ?_
          refine lv_istore (pc := 79) (lv' := [(4, .int v6), (5, .int u7.1), (7, .int u7.1), (0, .ref ((L 0))), (6, .int v6)]) hx hb dX7_send_79 hl (by decide) rfl (fun ls hl => ?_)
          exact J81 (zf_X7_send_46 b_now b_staff b_shelves n) ih v6 u7.1 v6 u7.2 b_tally b_plan b_fitting b_refusals _ _ _ hf hw (lv_sub hl [3, 0, 1, 4] rfl)
  rw [zf_X7_send] at hf
  refine lv_aload_n (pc := 0) hx hb dX7_send_0 rfl (lv_at hl 0 rfl) ?_
  refine lv_iload_n (pc := 1) hx hb dX7_send_1 rfl (lv_at hl 1 rfl) ?_
  refine lv_iload_n (pc := 2) hx hb dX7_send_2 rfl (lv_at hl 2 rfl) ?_
  refine lv_iconst (pc := 3) (v := 1) hx hb dX7_send_3 (by decide) ?_
  obtain ⟨u1, u1e, hf⟩ := bd hf
  refine zk_cV (pc := 4) (ci := 7) (q0 := 0) (rest := []) (st1 := [.int u1.1]) (w' := [xU L b_seedNow b_keptSeed b_isKept, xTe ((L 1)) b_now, xTe ((L 2)) b_trial, xSt ((L 5)) ((L 6)) ((L 7)) ((L 8)) ((L 9)) b_staff.1, xI cy ((L 6)) 8 b_staff.2.1, xI cy ((L 7)) 8 b_staff.2.2.1, xI cy ((L 8)) 8 b_staff.2.2.2.1, xI cy ((L 9)) 8 b_staff.2.2.2.2, xSh ((L 20)) ((L 21)) ((L 22)) ((L 23)), xI cy ((L 21)) 8 b_shelves.1, xI cy ((L 22)) 8 b_shelves.2.1, xRJ cy ((L 23)) 8 (fun j => [some ((L 24)), some ((L 25)), some ((L 26)), some ((L 27)), some ((L 28)), some ((L 29)), some ((L 30)), some ((L 31))].getD j none), xJ cy ((L 24)) 40 ((b_shelves.2.2 0)), xJ cy ((L 25)) 40 ((b_shelves.2.2 1)), xJ cy ((L 26)) 40 ((b_shelves.2.2 2)), xJ cy ((L 27)) 40 ((b_shelves.2.2 3)), xJ cy ((L 28)) 40 ((b_shelves.2.2 4)), xJ cy ((L 29)) 40 ((b_shelves.2.2 5)), xJ cy ((L 30)) 40 ((b_shelves.2.2 6)), xJ cy ((L 31)) 40 ((b_shelves.2.2 7)), xTy ((L 45)) b_tally, xI cy ((L 46)) 48 u1.2, xZ cy ((L 47)) 100 b_fitting, xI cy ((L 48)) 5 b_refusals]) (mk := [none, none, none, none, none, none, none, none, none, none, none, none, none, none, none, none, none, none, none, none, none, some (xI cy ((L 46)) 48 u1.2), none, none]) C hw (c_X7_takeTwos l G cy tt L b_seedNow b_keptSeed b_isKept x1 x2 true b_staff b_shelves b_plan _ u1e) zy_X7_takeTwos zm_X7_283 rfl rfl rfl [0, 3, 4, 5, 6, 7, 8, 9, 10, 11, 12, 13, 14, 15, 16, 17, 18, 19, 21] rfl rfl rfl rfl rfl rfl rfl rfl hl.1 ⟨rfl, rfl⟩ ⟨Nat.le_of_ble_eq_true rfl, Nat.le_of_ble_eq_true rfl⟩ rfl (Nat.le_of_ble_eq_true rfl) ⟨Nat.zero_le _, Nat.zero_le _⟩ dX7_send_4 (fun H locs hw => ?_)
  refine lv_istore_n (pc := 7) (lv' := [(3, .int u1.1), (0, .ref ((L 0))), (1, .int x1), (2, .int x2)]) hx hb dX7_send_7 rfl hl (by decide) rfl (fun ls hl => ?_)
  refine lv_iload_n (pc := 8) hx hb dX7_send_8 rfl (lv_at hl 0 rfl) ?_
  refine lv_if_eq (pc := 9) (tgt := 18) hx hb dX7_send_9 (by decide) (fun q2 => ?_) (fun q2 => ?_)
  · replace hf := if_t q2 hf
    refine lv_aload_n (pc := 18) hx hb dX7_send_18 rfl (lv_at hl 1 rfl) ?_
    refine lv_iload_n (pc := 19) hx hb dX7_send_19 rfl (lv_at hl 3 rfl) ?_
    obtain ⟨u3, u3e, hf⟩ := bd hf
    refine zk_cV (pc := 20) (ci := 7) (q0 := 0) (rest := []) (st1 := []) (w' := [xU L b_seedNow b_keptSeed b_isKept, xTe ((L 1)) b_now, xTe ((L 2)) u3.1, xSt ((L 5)) ((L 6)) ((L 7)) ((L 8)) ((L 9)) b_staff.1, xI cy ((L 6)) 8 b_staff.2.1, xI cy ((L 7)) 8 b_staff.2.2.1, xI cy ((L 8)) 8 b_staff.2.2.2.1, xI cy ((L 9)) 8 b_staff.2.2.2.2, xSh ((L 20)) ((L 21)) ((L 22)) ((L 23)), xI cy ((L 21)) 8 b_shelves.1, xI cy ((L 22)) 8 b_shelves.2.1, xRJ cy ((L 23)) 8 (fun j => [some ((L 24)), some ((L 25)), some ((L 26)), some ((L 27)), some ((L 28)), some ((L 29)), some ((L 30)), some ((L 31))].getD j none), xJ cy ((L 24)) 40 ((b_shelves.2.2 0)), xJ cy ((L 25)) 40 ((b_shelves.2.2 1)), xJ cy ((L 26)) 40 ((b_shelves.2.2 2)), xJ cy ((L 27)) 40 ((b_shelves.2.2 3)), xJ cy ((L 28)) 40 ((b_shelves.2.2 4)), xJ cy ((L 29)) 40 ((b_shelves.2.2 5)), xJ cy ((L 30)) 40 ((b_shelves.2.2 6)), xJ cy ((L 31)) 40 ((b_shelves.2.2 7)), xTy ((L 45)) u3.2.1, xI cy ((L 46)) 48 u1.2, xZ cy ((L 47)) 100 u3.2.2, xI cy ((L 48)) 5 b_refusals]) (mk := [none, none, some (xTe ((L 2)) u3.1), none, none, none, none, none, none, none, none, none, none, none, none, none, none, none, none, none, some (xTy ((L 45)) u3.2.1), none, some (xZ cy ((L 47)) 100 u3.2.2), none]) C hw (c_X7_tallyRages l G cy tt L b_seedNow b_keptSeed b_isKept x2 b_now b_trial b_staff b_tally u1.2 b_fitting _ u3e) zy_X7_tallyRages zm_X7_286 rfl rfl rfl [0, 1, 2, 3, 4, 5, 6, 7, 20, 21, 22] rfl rfl rfl rfl rfl rfl rfl rfl hl.1 ⟨rfl, rfl⟩ ⟨Nat.le_of_ble_eq_true rfl, Nat.le_of_ble_eq_true rfl⟩ rfl (Nat.le_of_ble_eq_true rfl) ⟨Nat.zero_le _, Nat.zero_le _⟩ dX7_send_20 (fun H locs hw => ?_)
    refine lv_aload_n (pc := 23) hx hb dX7_send_23 rfl (lv_at hl 1 rfl) ?_
    refine zk_gt (pc := 24) C hw zl_X7_69 0 rfl rfl dX7_send_24 ?_
    refine zk_gt (pc := 27) C hw zl_X7_300 20 rfl rfl dX7_send_27 ?_
    refine lv_iconst (pc := 30) (v := 2) hx hb dX7_send_30 (by decide) ?_
    refine lv_icmp_ge (pc := 31) (tgt := 36) hx hb dX7_send_31 (by decide) (fun q4 => ?_) (fun q4 => ?_)
    · replace hf := if_t q4 hf
      refine lv_iconst (pc := 36) (v := -1) hx hb dX7_send_36 (by decide) ?_
      refine lv_istore (pc := 37) (lv' := [(4, .int ((-1 : Int32))), (3, .int u1.1), (0, .ref ((L 0))), (1, .int x1), (2, .int x2)]) hx hb dX7_send_37 hl (by decide) rfl (fun ls hl => ?_)
      refine lv_ldc (pc := 39) (v := 1000000) hx hb C.1.2.2.2.1 (C.1.2.2.2.2 _ zc_X7_232) dX7_send_39 ?_
      refine lv_istore (pc := 41) (lv' := [(5, .int ((1000000 : Int32))), (4, .int ((-1 : Int32))), (3, .int u1.1), (0, .ref ((L 0))), (1, .int x1), (2, .int x2)]) hx hb dX7_send_41 hl (by decide) rfl (fun ls hl => ?_)
      refine lv_iconst (pc := 43) (v := 0) hx hb dX7_send_43 (by decide) ?_
      refine lv_istore (pc := 44) (lv' := [(6, .int ((0 : Int32))), (5, .int ((1000000 : Int32))), (4, .int ((-1 : Int32))), (3, .int u1.1), (0, .ref ((L 0))), (1, .int x1), (2, .int x2)]) hx hb dX7_send_44 hl (by decide) rfl (fun ls hl => ?_)
      exact J46 FU ((-1 : Int32)) ((1000000 : Int32)) ((0 : Int32)) u3.1 u3.2.1 u1.2 u3.2.2 b_refusals _ _ _ hf hw (lv_sub hl [4, 2, 1, 0] rfl)
    · replace hf := if_f q4 hf
      refine lv_iconst (pc := 34) (v := -1) hx hb dX7_send_34 (by decide) ?_
      have hf := Option.some.inj hf
      subst hf
      exact zk_reti (pc := 35) (ww := [xU L b_seedNow b_keptSeed b_isKept, xTe ((L 1)) b_now, xTe ((L 2)) u3.1, xSt ((L 5)) ((L 6)) ((L 7)) ((L 8)) ((L 9)) b_staff.1, xI cy ((L 6)) 8 b_staff.2.1, xI cy ((L 7)) 8 b_staff.2.2.1, xI cy ((L 8)) 8 b_staff.2.2.2.1, xI cy ((L 9)) 8 b_staff.2.2.2.2, xSh ((L 20)) ((L 21)) ((L 22)) ((L 23)), xI cy ((L 21)) 8 b_shelves.1, xI cy ((L 22)) 8 b_shelves.2.1, xRJ cy ((L 23)) 8 (fun j => [some ((L 24)), some ((L 25)), some ((L 26)), some ((L 27)), some ((L 28)), some ((L 29)), some ((L 30)), some ((L 31))].getD j none), xJ cy ((L 24)) 40 ((b_shelves.2.2 0)), xJ cy ((L 25)) 40 ((b_shelves.2.2 1)), xJ cy ((L 26)) 40 ((b_shelves.2.2 2)), xJ cy ((L 27)) 40 ((b_shelves.2.2 3)), xJ cy ((L 28)) 40 ((b_shelves.2.2 4)), xJ cy ((L 29)) 40 ((b_shelves.2.2 5)), xJ cy ((L 30)) 40 ((b_shelves.2.2 6)), xJ cy ((L 31)) 40 ((b_shelves.2.2 7)), xTy ((L 45)) u3.2.1, xI cy ((L 46)) 48 u1.2, xZ cy ((L 47)) 100 u3.2.2, xI cy ((L 48)) 5 b_refusals]) C hw hr hQ dX7_send_35
  · replace hf := if_f q2 hf
    refine lv_aload_n (pc := 12) hx hb dX7_send_12 rfl (lv_at hl 1 rfl) ?_
    refine lv_iload_n (pc := 13) hx hb dX7_send_13 rfl (lv_at hl 0 rfl) ?_
    obtain ⟨u5, u5e, hf⟩ := bd hf
    refine zk_cV (pc := 14) (ci := 7) (q0 := 0) (rest := []) (st1 := [.int u5.1]) (w' := [xU L b_seedNow b_keptSeed b_isKept, xTe ((L 1)) b_now, xTe ((L 2)) b_trial, xSt ((L 5)) ((L 6)) ((L 7)) ((L 8)) ((L 9)) b_staff.1, xI cy ((L 6)) 8 b_staff.2.1, xI cy ((L 7)) 8 b_staff.2.2.1, xI cy ((L 8)) 8 b_staff.2.2.2.1, xI cy ((L 9)) 8 b_staff.2.2.2.2, xSh ((L 20)) ((L 21)) ((L 22)) ((L 23)), xI cy ((L 21)) 8 b_shelves.1, xI cy ((L 22)) 8 b_shelves.2.1, xRJ cy ((L 23)) 8 (fun j => [some ((L 24)), some ((L 25)), some ((L 26)), some ((L 27)), some ((L 28)), some ((L 29)), some ((L 30)), some ((L 31))].getD j none), xJ cy ((L 24)) 40 ((b_shelves.2.2 0)), xJ cy ((L 25)) 40 ((b_shelves.2.2 1)), xJ cy ((L 26)) 40 ((b_shelves.2.2 2)), xJ cy ((L 27)) 40 ((b_shelves.2.2 3)), xJ cy ((L 28)) 40 ((b_shelves.2.2 4)), xJ cy ((L 29)) 40 ((b_shelves.2.2 5)), xJ cy ((L 30)) 40 ((b_shelves.2.2 6)), xJ cy ((L 31)) 40 ((b_shelves.2.2 7)), xTy ((L 45)) b_tally, xI cy ((L 46)) 48 u1.2, xZ cy ((L 47)) 100 b_fitting, xI cy ((L 48)) 5 u5.2]) (mk := [none, none, none, none, none, none, none, none, none, none, none, none, none, none, none, none, none, none, none, none, none, none, none, some (xI cy ((L 48)) 5 u5.2)]) C hw (c_X7_refused l G cy tt L b_seedNow b_keptSeed b_isKept u1.1 b_refusals _ u5e) zy_X7_refused zm_X7_103 rfl rfl rfl [0, 23] rfl rfl rfl rfl rfl rfl rfl rfl hl.1 ⟨rfl, rfl⟩ ⟨Nat.le_of_ble_eq_true rfl, Nat.le_of_ble_eq_true rfl⟩ rfl (Nat.le_of_ble_eq_true rfl) ⟨Nat.zero_le _, Nat.zero_le _⟩ dX7_send_14 (fun H locs hw => ?_)
    have hf := Option.some.inj hf
    subst hf
    exact zk_reti (pc := 17) (ww := [xU L b_seedNow b_keptSeed b_isKept, xTe ((L 1)) b_now, xTe ((L 2)) b_trial, xSt ((L 5)) ((L 6)) ((L 7)) ((L 8)) ((L 9)) b_staff.1, xI cy ((L 6)) 8 b_staff.2.1, xI cy ((L 7)) 8 b_staff.2.2.1, xI cy ((L 8)) 8 b_staff.2.2.2.1, xI cy ((L 9)) 8 b_staff.2.2.2.2, xSh ((L 20)) ((L 21)) ((L 22)) ((L 23)), xI cy ((L 21)) 8 b_shelves.1, xI cy ((L 22)) 8 b_shelves.2.1, xRJ cy ((L 23)) 8 (fun j => [some ((L 24)), some ((L 25)), some ((L 26)), some ((L 27)), some ((L 28)), some ((L 29)), some ((L 30)), some ((L 31))].getD j none), xJ cy ((L 24)) 40 ((b_shelves.2.2 0)), xJ cy ((L 25)) 40 ((b_shelves.2.2 1)), xJ cy ((L 26)) 40 ((b_shelves.2.2 2)), xJ cy ((L 27)) 40 ((b_shelves.2.2 3)), xJ cy ((L 28)) 40 ((b_shelves.2.2 4)), xJ cy ((L 29)) 40 ((b_shelves.2.2 5)), xJ cy ((L 30)) 40 ((b_shelves.2.2 6)), xJ cy ((L 31)) 40 ((b_shelves.2.2 7)), xTy ((L 45)) b_tally, xI cy ((L 46)) 48 u1.2, xZ cy ((L 47)) 100 b_fitting, xI cy ((L 48)) 5 u5.2]) C hw hr hQ dX7_send_17
def zf_X5_isLike  (b_this : TTe) (b_p1 : TTe) : Option (Bool) := (if b_this.1 = b_p1.1 then (if b_this.2.2.1 = b_p1.2.2.1 then (if b_this.2.1 = b_p1.2.1 then some (true) else some (false)) else some (false)) else some (false))
abbrev zr_X5_isLike : Room := { frames := 0, cells := 0, slots := 0, locals := 0 }
set_option maxHeartbeats 4000000 in
set_option maxRecDepth 100000 in
theorem c_X5_isLike (l : Launch) (G : va_G) (cy : Nat → ClassId) (tt : Nat → Nat) (a0 : Nat) (p1_0 : Nat)  (b_this : TTe) (b_p1 : TTe) (res : Bool) (hf : zf_X5_isLike b_this b_p1 = some res) : zCT l yX5_isLike cX5_isLike 2 (some .boolean) zr_X5_isLike G cy tt [.ref a0, .ref p1_0] [xTe a0 b_this, xTe p1_0 b_p1] (some (.int (bI res))) [xTe a0 b_this, xTe p1_0 b_p1] := by
  refine zk_start zn_X5 (Nat.le_of_ble_eq_true rfl) ?_
  intro p e s m args below meth c A ls Q C hr hQ hw hl
  have C : zCx p m c s args meth cX5_isLike 2 RX5 G cy tt A := C
  have hx := C.1.1
  have hb := C.1.2.1
  have hl : lv_has ls 2 [(0, .ref a0), (1, .ref p1_0)] := hl
  rw [zf_X5_isLike] at hf
  refine lv_aload_n (pc := 0) hx hb dX5_isLike_0 rfl (lv_at hl 0 rfl) ?_
  refine zk_gt (pc := 1) C hw zl_X5_9 0 rfl rfl dX5_isLike_1 ?_
  refine lv_aload_n (pc := 4) hx hb dX5_isLike_4 rfl (lv_at hl 1 rfl) ?_
  refine zk_gt (pc := 5) C hw zl_X5_9 1 rfl rfl dX5_isLike_5 ?_
  refine lv_icmp_ne (pc := 8) (tgt := 37) hx hb dX5_isLike_8 (by decide) (fun q1 => ?_) (fun q1 => ?_)
  · replace hf := if_f q1 hf
    refine lv_iconst (pc := 37) (v := 0) hx hb dX5_isLike_37 (by decide) ?_
    have hf := Option.some.inj hf
    subst hf
    exact zk_retz (pc := 38) (b := false) (ww := [xTe a0 b_this, xTe p1_0 b_p1]) C hw hr hQ dX5_isLike_38
  · replace hf := if_t q1 hf
    refine lv_aload_n (pc := 11) hx hb dX5_isLike_11 rfl (lv_at hl 0 rfl) ?_
    refine zk_gt (pc := 12) C hw zl_X5_18 0 rfl rfl dX5_isLike_12 ?_
    refine lv_aload_n (pc := 15) hx hb dX5_isLike_15 rfl (lv_at hl 1 rfl) ?_
    refine zk_gt (pc := 16) C hw zl_X5_18 1 rfl rfl dX5_isLike_16 ?_
    refine lv_icmp_ne (pc := 19) (tgt := 37) hx hb dX5_isLike_19 (by decide) (fun q2 => ?_) (fun q2 => ?_)
    · replace hf := if_f q2 hf
      refine lv_iconst (pc := 37) (v := 0) hx hb dX5_isLike_37 (by decide) ?_
      have hf := Option.some.inj hf
      subst hf
      exact zk_retz (pc := 38) (b := false) (ww := [xTe a0 b_this, xTe p1_0 b_p1]) C hw hr hQ dX5_isLike_38
    · replace hf := if_t q2 hf
      refine lv_aload_n (pc := 22) hx hb dX5_isLike_22 rfl (lv_at hl 0 rfl) ?_
      refine zk_gt (pc := 23) C hw zl_X5_15 0 rfl rfl dX5_isLike_23 ?_
      refine lv_aload_n (pc := 26) hx hb dX5_isLike_26 rfl (lv_at hl 1 rfl) ?_
      refine zk_gt (pc := 27) C hw zl_X5_15 1 rfl rfl dX5_isLike_27 ?_
      refine lv_icmp_ne (pc := 30) (tgt := 37) hx hb dX5_isLike_30 (by decide) (fun q3 => ?_) (fun q3 => ?_)
      · replace hf := if_f q3 hf
        refine lv_iconst (pc := 37) (v := 0) hx hb dX5_isLike_37 (by decide) ?_
        have hf := Option.some.inj hf
        subst hf
        exact zk_retz (pc := 38) (b := false) (ww := [xTe a0 b_this, xTe p1_0 b_p1]) C hw hr hQ dX5_isLike_38
      · replace hf := if_t q3 hf
        refine lv_iconst (pc := 33) (v := 1) hx hb dX5_isLike_33 (by decide) ?_
        refine lv_goto (pc := 34) (tgt := 38) hx hb dX5_isLike_34 (by decide) ?_
        have hf := Option.some.inj hf
        subst hf
        exact zk_retz (pc := 38) (b := true) (ww := [xTe a0 b_this, xTe p1_0 b_p1]) C hw hr hQ dX5_isLike_38
def zf_X7_settles_29 (b_now : TTe) (b_staff : TSt) : Nat → Int32 → Int32 → TTe → TTe → (Nat → Int32) → Option (Int32 × TTe × TTe × (Nat → Int32))
  | 0, _, _, _, _, _ => none
  | n + 1, v1, v2, b_trial, b_rival, b_refusals => (if (200 : Int32) < v2 then some ((-1 : Int32), b_trial, b_rival, b_refusals) else (Option.bind (zf_X5_become b_rival b_trial) (fun u6 => (Option.bind (zf_X5_pass v1 b_trial b_staff) (fun u7 => (Option.bind (zf_X5_isLike u7 u6) (fun u8 => (if u8 then some (v2, u7, u6, b_refusals) else zf_X7_settles_29 b_now b_staff n v1 ((v2 + 1)) u7 u6 b_refusals))))))))
def zf_X7_settles (x1 : Int32) (b_now : TTe) (b_trial : TTe) (b_rival : TTe) (b_staff : TSt) (b_refusals : Nat → Int32) : Option (Int32 × TTe × TTe × (Nat → Int32)) := (Option.bind (zf_X7_isOrder x1.toInt64 b_staff) (fun u1 => (if u1 then (Option.bind (zf_X5_become b_trial b_now) (fun u3 => zf_X7_settles_29 b_now b_staff FU x1 ((1 : Int32)) u3 b_rival b_refusals)) else (Option.bind (zf_X7_refused (((-2 : Int32))) b_refusals) (fun u4 => some (u4.1, b_trial, b_rival, u4.2))))))
abbrev zr_X7_settles : Room := { frames := 3, cells := 0, slots := 0, locals := 68 }
set_option maxHeartbeats 4000000 in
set_option maxRecDepth 100000 in
theorem c_X7_settles (l : Launch) (G : va_G) (cy : Nat → ClassId) (tt : Nat → Nat) (L : Nat → Nat) (b_seedNow : Int32) (b_keptSeed : Int32) (b_isKept : Bool) (x1 : Int32) (b_now : TTe) (b_trial : TTe) (b_rival : TTe) (b_staff : TSt) (b_refusals : Nat → Int32) (res : Int32 × TTe × TTe × (Nat → Int32)) (hf : zf_X7_settles x1 b_now b_trial b_rival b_staff b_refusals = some res) : zCT l yX7_settles cX7_settles 3 (some .int) zr_X7_settles G cy tt [.ref ((L 0)), .int x1] [xU L b_seedNow b_keptSeed b_isKept, xTe ((L 1)) b_now, xTe ((L 2)) b_trial, xTe ((L 3)) b_rival, xSt ((L 5)) ((L 6)) ((L 7)) ((L 8)) ((L 9)) b_staff.1, xI cy ((L 6)) 8 b_staff.2.1, xI cy ((L 7)) 8 b_staff.2.2.1, xI cy ((L 8)) 8 b_staff.2.2.2.1, xI cy ((L 9)) 8 b_staff.2.2.2.2, xI cy ((L 48)) 5 b_refusals] (some (.int res.1)) [xU L b_seedNow b_keptSeed b_isKept, xTe ((L 1)) b_now, xTe ((L 2)) res.2.1, xTe ((L 3)) res.2.2.1, xSt ((L 5)) ((L 6)) ((L 7)) ((L 8)) ((L 9)) b_staff.1, xI cy ((L 6)) 8 b_staff.2.1, xI cy ((L 7)) 8 b_staff.2.2.1, xI cy ((L 8)) 8 b_staff.2.2.2.1, xI cy ((L 9)) 8 b_staff.2.2.2.2, xI cy ((L 48)) 5 res.2.2.2] := by
  refine zk_start zn_X7 (Nat.le_of_ble_eq_true rfl) ?_
  intro p e s m args below meth c A ls Q C hr hQ hw hl
  have C : zCx p m c s args meth cX7_settles 3 RX7 G cy tt A := C
  have hx := C.1.1
  have hb := C.1.2.1
  have hl : lv_has ls 3 [(0, .ref ((L 0))), (1, .int x1)] := hl
  have J29 : ∀ (n : Nat), ∀ (v1 : Int32) (v2 : Int32) (b_trial : TTe) (b_rival : TTe) (b_refusals : Nat → Int32) (H : Heap) (locs : List Loc) (ls : Array Slot), zf_X7_settles_29 b_now b_staff n v1 v2 b_trial b_rival b_refusals = some res → zWd G A s.heap H locs [xU L b_seedNow b_keptSeed b_isKept, xTe ((L 1)) b_now, xTe ((L 2)) b_trial, xTe ((L 3)) b_rival, xSt ((L 5)) ((L 6)) ((L 7)) ((L 8)) ((L 9)) b_staff.1, xI cy ((L 6)) 8 b_staff.2.1, xI cy ((L 7)) 8 b_staff.2.2.1, xI cy ((L 8)) 8 b_staff.2.2.2.1, xI cy ((L 9)) 8 b_staff.2.2.2.2, xI cy ((L 48)) 5 b_refusals] → lv_has ls 3 [(0, .ref ((L 0))), (1, .int v1), (2, .int v2)] → W p l e zr_X7_settles s m args below meth c H locs 0 0 Q (F0 m 29 ls []) := by
    intro n
    induction n with
    | zero =>
      intro v1 v2 b_trial b_rival b_refusals H locs ls hf hw hl
      rw [zf_X7_settles_29] at hf
      cases hf
    | succ n ih =>
      intro v1 v2 b_trial b_rival b_refusals H locs ls hf hw hl
      rw [zf_X7_settles_29] at hf
      refine lv_iload_n (pc := 29) hx hb dX7_settles_29 rfl (lv_at hl 2 rfl) ?_
      refine lv_sipush (pc := 30) (v := 200) hx hb dX7_settles_30 (by decide) ?_
      refine lv_icmp_gt (pc := 33) (tgt := 81) hx hb dX7_settles_33 (by decide) (fun q5 => ?_) (fun q5 => ?_)
      · replace hf := if_t q5 hf
        refine lv_iconst (pc := 81) (v := -1) hx hb dX7_settles_81 (by decide) ?_
        have hf := Option.some.inj hf
        subst hf
        exact zk_reti (pc := 82) (ww := [xU L b_seedNow b_keptSeed b_isKept, xTe ((L 1)) b_now, xTe ((L 2)) b_trial, xTe ((L 3)) b_rival, xSt ((L 5)) ((L 6)) ((L 7)) ((L 8)) ((L 9)) b_staff.1, xI cy ((L 6)) 8 b_staff.2.1, xI cy ((L 7)) 8 b_staff.2.2.1, xI cy ((L 8)) 8 b_staff.2.2.2.1, xI cy ((L 9)) 8 b_staff.2.2.2.2, xI cy ((L 48)) 5 b_refusals]) C hw hr hQ dX7_settles_82
      · replace hf := if_f q5 hf
        refine lv_aload_n (pc := 36) hx hb dX7_settles_36 rfl (lv_at hl 0 rfl) ?_
        refine zk_gt (pc := 37) C hw zl_X7_19 0 rfl rfl dX7_settles_37 ?_
        refine lv_aload_n (pc := 40) hx hb dX7_settles_40 rfl (lv_at hl 0 rfl) ?_
        refine zk_gt (pc := 41) C hw zl_X7_16 0 rfl rfl dX7_settles_41 ?_
        obtain ⟨u6, u6e, hf⟩ := bd hf
        refine zk_cV (pc := 44) (ci := 5) (q0 := 3) (rest := []) (st1 := []) (w' := [xU L b_seedNow b_keptSeed b_isKept, xTe ((L 1)) b_now, xTe ((L 2)) b_trial, xTe ((L 3)) u6, xSt ((L 5)) ((L 6)) ((L 7)) ((L 8)) ((L 9)) b_staff.1, xI cy ((L 6)) 8 b_staff.2.1, xI cy ((L 7)) 8 b_staff.2.2.1, xI cy ((L 8)) 8 b_staff.2.2.2.1, xI cy ((L 9)) 8 b_staff.2.2.2.2, xI cy ((L 48)) 5 b_refusals]) (mk := [none, none, none, some (xTe ((L 3)) u6), none, none, none, none, none, none]) C hw (c_X5_become l G cy tt ((L 3)) ((L 2)) b_rival b_trial _ u6e) zy_X5_become zm_X7_193 rfl rfl rfl [3, 2] rfl rfl rfl rfl rfl rfl rfl rfl hl.1 ⟨rfl, rfl⟩ ⟨Nat.le_of_ble_eq_true rfl, Nat.le_of_ble_eq_true rfl⟩ rfl (Nat.le_of_ble_eq_true rfl) ⟨Nat.zero_le _, Nat.zero_le _⟩ dX7_settles_44 (fun H locs hw => ?_)
        refine lv_aload_n (pc := 47) hx hb dX7_settles_47 rfl (lv_at hl 0 rfl) ?_
        refine zk_gt (pc := 48) C hw zl_X7_16 0 rfl rfl dX7_settles_48 ?_
        refine lv_iload_n (pc := 51) hx hb dX7_settles_51 rfl (lv_at hl 1 rfl) ?_
        refine lv_aload_n (pc := 52) hx hb dX7_settles_52 rfl (lv_at hl 0 rfl) ?_
        refine zk_gt (pc := 53) C hw zl_X7_28 0 rfl rfl dX7_settles_53 ?_
        obtain ⟨u7, u7e, hf⟩ := bd hf
        refine zk_cV (pc := 56) (ci := 5) (q0 := 2) (rest := []) (st1 := []) (w' := [xU L b_seedNow b_keptSeed b_isKept, xTe ((L 1)) b_now, xTe ((L 2)) u7, xTe ((L 3)) u6, xSt ((L 5)) ((L 6)) ((L 7)) ((L 8)) ((L 9)) b_staff.1, xI cy ((L 6)) 8 b_staff.2.1, xI cy ((L 7)) 8 b_staff.2.2.1, xI cy ((L 8)) 8 b_staff.2.2.2.1, xI cy ((L 9)) 8 b_staff.2.2.2.2, xI cy ((L 48)) 5 b_refusals]) (mk := [none, none, some (xTe ((L 2)) u7), none, none, none, none, none, none, none]) C hw (c_X5_pass l G cy tt ((L 2)) ((L 5)) ((L 6)) ((L 7)) ((L 8)) ((L 9)) v1 b_trial b_staff _ u7e) zy_X5_pass zm_X7_307 rfl rfl rfl [2, 4, 5, 6, 7, 8] rfl rfl rfl rfl rfl rfl rfl rfl hl.1 ⟨rfl, rfl⟩ ⟨Nat.le_of_ble_eq_true rfl, Nat.le_of_ble_eq_true rfl⟩ rfl (Nat.le_of_ble_eq_true rfl) ⟨Nat.zero_le _, Nat.zero_le _⟩ dX7_settles_56 (fun H locs hw => ?_)
        refine lv_aload_n (pc := 59) hx hb dX7_settles_59 rfl (lv_at hl 0 rfl) ?_
        refine zk_gt (pc := 60) C hw zl_X7_16 0 rfl rfl dX7_settles_60 ?_
        refine lv_aload_n (pc := 63) hx hb dX7_settles_63 rfl (lv_at hl 0 rfl) ?_
        refine zk_gt (pc := 64) C hw zl_X7_19 0 rfl rfl dX7_settles_64 ?_
        obtain ⟨u8, u8e, hf⟩ := bd hf
        refine zk_cV (pc := 67) (ci := 5) (q0 := 2) (rest := []) (st1 := [.int (bI u8)]) (w' := [xU L b_seedNow b_keptSeed b_isKept, xTe ((L 1)) b_now, xTe ((L 2)) u7, xTe ((L 3)) u6, xSt ((L 5)) ((L 6)) ((L 7)) ((L 8)) ((L 9)) b_staff.1, xI cy ((L 6)) 8 b_staff.2.1, xI cy ((L 7)) 8 b_staff.2.2.1, xI cy ((L 8)) 8 b_staff.2.2.2.1, xI cy ((L 9)) 8 b_staff.2.2.2.2, xI cy ((L 48)) 5 b_refusals]) (mk := [none, none, none, none, none, none, none, none, none, none]) C hw (c_X5_isLike l G cy tt ((L 2)) ((L 3)) u7 u6 _ u8e) zy_X5_isLike zm_X7_311 rfl rfl rfl [2, 3] rfl rfl rfl rfl rfl rfl rfl rfl hl.1 ⟨rfl, rfl⟩ ⟨Nat.le_of_ble_eq_true rfl, Nat.le_of_ble_eq_true rfl⟩ rfl (Nat.le_of_ble_eq_true rfl) ⟨Nat.zero_le _, Nat.zero_le _⟩ dX7_settles_67 (fun H locs hw => ?_)
        refine zk_ifz (pc := 70) (tgt := 75) hx hb dX7_settles_70 (by decide) (fun q9 => ?_) (fun q9 => ?_)
        · replace hf := if_f q9 hf
          refine lv_iinc (pc := 75) (v := (v2 + 1)) (lv' := [(2, .int ((v2 + 1))), (0, .ref ((L 0))), (1, .int v1)]) hx hb dX7_settles_75 hl (k := 2) rfl rfl (by decide) rfl (fun ls hl => ?_)
          refine lv_goto (pc := 78) (tgt := 29) hx hb dX7_settles_78 (by decide) ?_
          exact ih v1 ((v2 + 1)) u7 u6 b_refusals _ _ _ hf hw (lv_sub hl [1, 2, 0] rfl)
        · replace hf := if_t q9 hf
          refine lv_iload_n (pc := 73) hx hb dX7_settles_73 rfl (lv_at hl 2 rfl) ?_
          have hf := Option.some.inj hf
          subst hf
          exact zk_reti (pc := 74) (ww := [xU L b_seedNow b_keptSeed b_isKept, xTe ((L 1)) b_now, xTe ((L 2)) u7, xTe ((L 3)) u6, xSt ((L 5)) ((L 6)) ((L 7)) ((L 8)) ((L 9)) b_staff.1, xI cy ((L 6)) 8 b_staff.2.1, xI cy ((L 7)) 8 b_staff.2.2.1, xI cy ((L 8)) 8 b_staff.2.2.2.1, xI cy ((L 9)) 8 b_staff.2.2.2.2, xI cy ((L 48)) 5 b_refusals]) C hw hr hQ dX7_settles_74
  rw [zf_X7_settles] at hf
  refine lv_aload_n (pc := 0) hx hb dX7_settles_0 rfl (lv_at hl 0 rfl) ?_
  refine lv_iload_n (pc := 1) hx hb dX7_settles_1 rfl (lv_at hl 1 rfl) ?_
  refine lv_i2l (pc := 2) (v := x1.toInt64) hx hb dX7_settles_2 rfl ?_
  obtain ⟨u1, u1e, hf⟩ := bd hf
  refine zk_cV (pc := 3) (ci := 7) (q0 := 0) (rest := []) (st1 := [.int (bI u1)]) (w' := [xU L b_seedNow b_keptSeed b_isKept, xTe ((L 1)) b_now, xTe ((L 2)) b_trial, xTe ((L 3)) b_rival, xSt ((L 5)) ((L 6)) ((L 7)) ((L 8)) ((L 9)) b_staff.1, xI cy ((L 6)) 8 b_staff.2.1, xI cy ((L 7)) 8 b_staff.2.2.1, xI cy ((L 8)) 8 b_staff.2.2.2.1, xI cy ((L 9)) 8 b_staff.2.2.2.2, xI cy ((L 48)) 5 b_refusals]) (mk := [none, none, none, none, none, none, none, none, none, none]) C hw (c_X7_isOrder l G cy tt L b_seedNow b_keptSeed b_isKept x1.toInt64 b_staff _ u1e) zy_X7_isOrder zm_X7_221 rfl rfl rfl [0, 4, 5, 6, 7, 8] rfl rfl rfl rfl rfl rfl rfl rfl hl.1 ⟨rfl, rfl⟩ ⟨Nat.le_of_ble_eq_true rfl, Nat.le_of_ble_eq_true rfl⟩ rfl (Nat.le_of_ble_eq_true rfl) ⟨Nat.zero_le _, Nat.zero_le _⟩ dX7_settles_3 (fun H locs hw => ?_)
  refine zk_ifnz (pc := 6) (tgt := 16) hx hb dX7_settles_6 (by decide) (fun q2 => ?_) (fun q2 => ?_)
  · replace hf := if_t q2 hf
    refine lv_aload_n (pc := 16) hx hb dX7_settles_16 rfl (lv_at hl 0 rfl) ?_
    refine zk_gt (pc := 17) C hw zl_X7_16 0 rfl rfl dX7_settles_17 ?_
    refine lv_aload_n (pc := 20) hx hb dX7_settles_20 rfl (lv_at hl 0 rfl) ?_
    refine zk_gt (pc := 21) C hw zl_X7_10 0 rfl rfl dX7_settles_21 ?_
    obtain ⟨u3, u3e, hf⟩ := bd hf
    refine zk_cV (pc := 24) (ci := 5) (q0 := 2) (rest := []) (st1 := []) (w' := [xU L b_seedNow b_keptSeed b_isKept, xTe ((L 1)) b_now, xTe ((L 2)) u3, xTe ((L 3)) b_rival, xSt ((L 5)) ((L 6)) ((L 7)) ((L 8)) ((L 9)) b_staff.1, xI cy ((L 6)) 8 b_staff.2.1, xI cy ((L 7)) 8 b_staff.2.2.1, xI cy ((L 8)) 8 b_staff.2.2.2.1, xI cy ((L 9)) 8 b_staff.2.2.2.2, xI cy ((L 48)) 5 b_refusals]) (mk := [none, none, some (xTe ((L 2)) u3), none, none, none, none, none, none, none]) C hw (c_X5_become l G cy tt ((L 2)) ((L 1)) b_trial b_now _ u3e) zy_X5_become zm_X7_193 rfl rfl rfl [2, 1] rfl rfl rfl rfl rfl rfl rfl rfl hl.1 ⟨rfl, rfl⟩ ⟨Nat.le_of_ble_eq_true rfl, Nat.le_of_ble_eq_true rfl⟩ rfl (Nat.le_of_ble_eq_true rfl) ⟨Nat.zero_le _, Nat.zero_le _⟩ dX7_settles_24 (fun H locs hw => ?_)
    refine lv_iconst (pc := 27) (v := 1) hx hb dX7_settles_27 (by decide) ?_
    refine lv_istore_n (pc := 28) (lv' := [(2, .int ((1 : Int32))), (0, .ref ((L 0))), (1, .int x1)]) hx hb dX7_settles_28 rfl hl (by decide) rfl (fun ls hl => ?_)
    exact J29 FU x1 ((1 : Int32)) u3 b_rival b_refusals _ _ _ hf hw (lv_sub hl [1, 2, 0] rfl)
  · replace hf := if_f q2 hf
    refine lv_aload_n (pc := 9) hx hb dX7_settles_9 rfl (lv_at hl 0 rfl) ?_
    refine lv_bipush (pc := 10) (v := -2) hx hb dX7_settles_10 (by decide) ?_
    obtain ⟨u4, u4e, hf⟩ := bd hf
    refine zk_cV (pc := 12) (ci := 7) (q0 := 0) (rest := []) (st1 := [.int u4.1]) (w' := [xU L b_seedNow b_keptSeed b_isKept, xTe ((L 1)) b_now, xTe ((L 2)) b_trial, xTe ((L 3)) b_rival, xSt ((L 5)) ((L 6)) ((L 7)) ((L 8)) ((L 9)) b_staff.1, xI cy ((L 6)) 8 b_staff.2.1, xI cy ((L 7)) 8 b_staff.2.2.1, xI cy ((L 8)) 8 b_staff.2.2.2.1, xI cy ((L 9)) 8 b_staff.2.2.2.2, xI cy ((L 48)) 5 u4.2]) (mk := [none, none, none, none, none, none, none, none, none, some (xI cy ((L 48)) 5 u4.2)]) C hw (c_X7_refused l G cy tt L b_seedNow b_keptSeed b_isKept (((-2 : Int32))) b_refusals _ u4e) zy_X7_refused zm_X7_103 rfl rfl rfl [0, 9] rfl rfl rfl rfl rfl rfl rfl rfl hl.1 ⟨rfl, rfl⟩ ⟨Nat.le_of_ble_eq_true rfl, Nat.le_of_ble_eq_true rfl⟩ rfl (Nat.le_of_ble_eq_true rfl) ⟨Nat.zero_le _, Nat.zero_le _⟩ dX7_settles_12 (fun H locs hw => ?_)
    have hf := Option.some.inj hf
    subst hf
    exact zk_reti (pc := 15) (ww := [xU L b_seedNow b_keptSeed b_isKept, xTe ((L 1)) b_now, xTe ((L 2)) b_trial, xTe ((L 3)) b_rival, xSt ((L 5)) ((L 6)) ((L 7)) ((L 8)) ((L 9)) b_staff.1, xI cy ((L 6)) 8 b_staff.2.1, xI cy ((L 7)) 8 b_staff.2.2.1, xI cy ((L 8)) 8 b_staff.2.2.2.1, xI cy ((L 9)) 8 b_staff.2.2.2.2, xI cy ((L 48)) 5 u4.2]) C hw hr hQ dX7_settles_15
def zf_X7_walkOver_2 (b_now : TTe) (b_staff : TSt) : Nat → Int32 → Int32 → TWa → (Nat → Int32) → Option (TWa × (Nat → Int32))
  | 0, _, _, _, _ => none
  | n + 1, v1, v2, b_walk, b_plan => (if (48 : Int32) ≤ v2 then (Option.bind (zf_X6_along (((48 : Int32))) b_walk b_plan b_now b_staff) (fun u2 => some (u2, b_plan))) else (if ix v2 48 then zf_X7_walkOver_2 b_now b_staff n v1 ((v2 + 1)) b_walk ((upd b_plan v2.toNatClampNeg v1)) else none))
def zf_X7_walkOver (x1 : Int32) (b_now : TTe) (b_staff : TSt) (b_walk : TWa) (b_plan : Nat → Int32) : Option (TWa × (Nat → Int32)) := zf_X7_walkOver_2 b_now b_staff FU x1 ((0 : Int32)) b_walk b_plan
abbrev zr_X7_walkOver : Room := { frames := 4, cells := 0, slots := 0, locals := 93 }
set_option maxHeartbeats 4000000 in
set_option maxRecDepth 100000 in
theorem c_X7_walkOver (l : Launch) (G : va_G) (cy : Nat → ClassId) (tt : Nat → Nat) (L : Nat → Nat) (b_seedNow : Int32) (b_keptSeed : Int32) (b_isKept : Bool) (x1 : Int32) (b_now : TTe) (b_staff : TSt) (b_walk : TWa) (b_plan : Nat → Int32) (res : TWa × (Nat → Int32)) (hf : zf_X7_walkOver x1 b_now b_staff b_walk b_plan = some res) : zCT l yX7_walkOver cX7_walkOver 3 none zr_X7_walkOver G cy tt [.ref ((L 0)), .int x1] [xU L b_seedNow b_keptSeed b_isKept, xTe ((L 1)) b_now, xSt ((L 5)) ((L 6)) ((L 7)) ((L 8)) ((L 9)) b_staff.1, xI cy ((L 6)) 8 b_staff.2.1, xI cy ((L 7)) 8 b_staff.2.2.1, xI cy ((L 8)) 8 b_staff.2.2.2.1, xI cy ((L 9)) 8 b_staff.2.2.2.2, xWa ((L 34)) ((L 35)) b_walk.2.1 b_walk.2.2.1 b_walk.2.2.2.1 b_walk.2.2.2.2.1 b_walk.2.2.2.2.2.1 b_walk.2.2.2.2.2.2.1 b_walk.2.2.2.2.2.2.2.1 b_walk.2.2.2.2.2.2.2.2, xTe ((L 35)) b_walk.1, xI cy ((L 46)) 48 b_plan] none [xU L b_seedNow b_keptSeed b_isKept, xTe ((L 1)) b_now, xSt ((L 5)) ((L 6)) ((L 7)) ((L 8)) ((L 9)) b_staff.1, xI cy ((L 6)) 8 b_staff.2.1, xI cy ((L 7)) 8 b_staff.2.2.1, xI cy ((L 8)) 8 b_staff.2.2.2.1, xI cy ((L 9)) 8 b_staff.2.2.2.2, xWa ((L 34)) ((L 35)) res.1.2.1 res.1.2.2.1 res.1.2.2.2.1 res.1.2.2.2.2.1 res.1.2.2.2.2.2.1 res.1.2.2.2.2.2.2.1 res.1.2.2.2.2.2.2.2.1 res.1.2.2.2.2.2.2.2.2, xTe ((L 35)) res.1.1, xI cy ((L 46)) 48 res.2] := by
  refine zk_start zn_X7 (Nat.le_of_ble_eq_true rfl) ?_
  intro p e s m args below meth c A ls Q C hr hQ hw hl
  have C : zCx p m c s args meth cX7_walkOver 3 RX7 G cy tt A := C
  have hx := C.1.1
  have hb := C.1.2.1
  have hl : lv_has ls 3 [(0, .ref ((L 0))), (1, .int x1)] := hl
  have J2 : ∀ (n : Nat), ∀ (v1 : Int32) (v2 : Int32) (b_walk : TWa) (b_plan : Nat → Int32) (H : Heap) (locs : List Loc) (ls : Array Slot), zf_X7_walkOver_2 b_now b_staff n v1 v2 b_walk b_plan = some res → zWd G A s.heap H locs [xU L b_seedNow b_keptSeed b_isKept, xTe ((L 1)) b_now, xSt ((L 5)) ((L 6)) ((L 7)) ((L 8)) ((L 9)) b_staff.1, xI cy ((L 6)) 8 b_staff.2.1, xI cy ((L 7)) 8 b_staff.2.2.1, xI cy ((L 8)) 8 b_staff.2.2.2.1, xI cy ((L 9)) 8 b_staff.2.2.2.2, xWa ((L 34)) ((L 35)) b_walk.2.1 b_walk.2.2.1 b_walk.2.2.2.1 b_walk.2.2.2.2.1 b_walk.2.2.2.2.2.1 b_walk.2.2.2.2.2.2.1 b_walk.2.2.2.2.2.2.2.1 b_walk.2.2.2.2.2.2.2.2, xTe ((L 35)) b_walk.1, xI cy ((L 46)) 48 b_plan] → lv_has ls 3 [(0, .ref ((L 0))), (1, .int v1), (2, .int v2)] → W p l e zr_X7_walkOver s m args below meth c H locs 0 0 Q (F0 m 2 ls []) := by
    intro n
    induction n with
    | zero =>
      intro v1 v2 b_walk b_plan H locs ls hf hw hl
      rw [zf_X7_walkOver_2] at hf
      cases hf
    | succ n ih =>
      intro v1 v2 b_walk b_plan H locs ls hf hw hl
      rw [zf_X7_walkOver_2] at hf
      refine lv_iload_n (pc := 2) hx hb dX7_walkOver_2 rfl (lv_at hl 2 rfl) ?_
      refine lv_aload_n (pc := 3) hx hb dX7_walkOver_3 rfl (lv_at hl 0 rfl) ?_
      refine zk_gt (pc := 4) C hw zl_X7_73 0 rfl rfl dX7_walkOver_4 ?_
      refine zk_alen (pc := 7) (v := 48) C hw 9 0 rfl rfl rfl dX7_walkOver_7 ?_
      refine lv_icmp_ge (pc := 8) (tgt := 24) hx hb dX7_walkOver_8 (by decide) (fun q1 => ?_) (fun q1 => ?_)
      · replace hf := if_t q1 hf
        refine lv_aload_n (pc := 24) hx hb dX7_walkOver_24 rfl (lv_at hl 0 rfl) ?_
        refine zk_gt (pc := 25) C hw zl_X7_55 0 rfl rfl dX7_walkOver_25 ?_
        refine lv_aload_n (pc := 28) hx hb dX7_walkOver_28 rfl (lv_at hl 0 rfl) ?_
        refine zk_gt (pc := 29) C hw zl_X7_73 0 rfl rfl dX7_walkOver_29 ?_
        refine lv_bipush (pc := 32) (v := 48) hx hb dX7_walkOver_32 (by decide) ?_
        refine lv_aload_n (pc := 34) hx hb dX7_walkOver_34 rfl (lv_at hl 0 rfl) ?_
        refine zk_gt (pc := 35) C hw zl_X7_10 0 rfl rfl dX7_walkOver_35 ?_
        refine lv_aload_n (pc := 38) hx hb dX7_walkOver_38 rfl (lv_at hl 0 rfl) ?_
        refine zk_gt (pc := 39) C hw zl_X7_28 0 rfl rfl dX7_walkOver_39 ?_
        obtain ⟨u2, u2e, hf⟩ := bd hf
        refine zk_cV (pc := 42) (ci := 6) (q0 := 7) (rest := []) (st1 := []) (w' := [xU L b_seedNow b_keptSeed b_isKept, xTe ((L 1)) b_now, xSt ((L 5)) ((L 6)) ((L 7)) ((L 8)) ((L 9)) b_staff.1, xI cy ((L 6)) 8 b_staff.2.1, xI cy ((L 7)) 8 b_staff.2.2.1, xI cy ((L 8)) 8 b_staff.2.2.2.1, xI cy ((L 9)) 8 b_staff.2.2.2.2, xWa ((L 34)) ((L 35)) u2.2.1 u2.2.2.1 u2.2.2.2.1 u2.2.2.2.2.1 u2.2.2.2.2.2.1 u2.2.2.2.2.2.2.1 u2.2.2.2.2.2.2.2.1 u2.2.2.2.2.2.2.2.2, xTe ((L 35)) u2.1, xI cy ((L 46)) 48 b_plan]) (mk := [none, none, none, none, none, none, none, some (xWa ((L 34)) ((L 35)) u2.2.1 u2.2.2.1 u2.2.2.2.1 u2.2.2.2.2.1 u2.2.2.2.2.2.1 u2.2.2.2.2.2.2.1 u2.2.2.2.2.2.2.2.1 u2.2.2.2.2.2.2.2.2), some (xTe ((L 35)) u2.1), none]) C hw (c_X6_along l G cy tt ((L 34)) ((L 35)) ((L 46)) ((L 1)) ((L 5)) ((L 6)) ((L 7)) ((L 8)) ((L 9)) (((48 : Int32))) b_walk b_plan b_now b_staff _ u2e) zy_X6_along zm_X7_246 rfl rfl rfl [7, 8, 9, 1, 2, 3, 4, 5, 6] rfl rfl rfl rfl rfl rfl rfl rfl hl.1 ⟨rfl, rfl⟩ ⟨Nat.le_of_ble_eq_true rfl, Nat.le_of_ble_eq_true rfl⟩ rfl (Nat.le_of_ble_eq_true rfl) ⟨Nat.zero_le _, Nat.zero_le _⟩ dX7_walkOver_42 (fun H locs hw => ?_)
        have hf := Option.some.inj hf
        subst hf
        exact zk_retv (pc := 45) (ww := [xU L b_seedNow b_keptSeed b_isKept, xTe ((L 1)) b_now, xSt ((L 5)) ((L 6)) ((L 7)) ((L 8)) ((L 9)) b_staff.1, xI cy ((L 6)) 8 b_staff.2.1, xI cy ((L 7)) 8 b_staff.2.2.1, xI cy ((L 8)) 8 b_staff.2.2.2.1, xI cy ((L 9)) 8 b_staff.2.2.2.2, xWa ((L 34)) ((L 35)) u2.2.1 u2.2.2.1 u2.2.2.2.1 u2.2.2.2.2.1 u2.2.2.2.2.2.1 u2.2.2.2.2.2.2.1 u2.2.2.2.2.2.2.2.1 u2.2.2.2.2.2.2.2.2, xTe ((L 35)) u2.1, xI cy ((L 46)) 48 b_plan]) C hw hr hQ dX7_walkOver_45
      · replace hf := if_f q1 hf
        refine lv_aload_n (pc := 11) hx hb dX7_walkOver_11 rfl (lv_at hl 0 rfl) ?_
        refine zk_gt (pc := 12) C hw zl_X7_73 0 rfl rfl dX7_walkOver_12 ?_
        refine lv_iload_n (pc := 15) hx hb dX7_walkOver_15 rfl (lv_at hl 2 rfl) ?_
        refine lv_iload_n (pc := 16) hx hb dX7_walkOver_16 rfl (lv_at hl 1 rfl) ?_
        obtain ⟨q3, hf⟩ := ck hf
        refine zk_iast (pc := 17) (w' := [xU L b_seedNow b_keptSeed b_isKept, xTe ((L 1)) b_now, xSt ((L 5)) ((L 6)) ((L 7)) ((L 8)) ((L 9)) b_staff.1, xI cy ((L 6)) 8 b_staff.2.1, xI cy ((L 7)) 8 b_staff.2.2.1, xI cy ((L 8)) 8 b_staff.2.2.2.1, xI cy ((L 9)) 8 b_staff.2.2.2.2, xWa ((L 34)) ((L 35)) b_walk.2.1 b_walk.2.2.1 b_walk.2.2.2.1 b_walk.2.2.2.2.1 b_walk.2.2.2.2.2.1 b_walk.2.2.2.2.2.2.1 b_walk.2.2.2.2.2.2.2.1 b_walk.2.2.2.2.2.2.2.2, xTe ((L 35)) b_walk.1, xI cy ((L 46)) 48 ((upd b_plan v2.toNatClampNeg v1))]) C hw 9 rfl q3 rfl dX7_walkOver_17 (fun H locs hw => ?_)
        refine lv_iinc (pc := 18) (v := (v2 + 1)) (lv' := [(2, .int ((v2 + 1))), (0, .ref ((L 0))), (1, .int v1)]) hx hb dX7_walkOver_18 hl (k := 2) rfl rfl (by decide) rfl (fun ls hl => ?_)
        refine lv_goto (pc := 21) (tgt := 2) hx hb dX7_walkOver_21 (by decide) ?_
        exact ih v1 ((v2 + 1)) b_walk ((upd b_plan v2.toNatClampNeg v1)) _ _ _ hf hw (lv_sub hl [1, 2, 0] rfl)
  rw [zf_X7_walkOver] at hf
  refine lv_iconst (pc := 0) (v := 0) hx hb dX7_walkOver_0 (by decide) ?_
  refine lv_istore_n (pc := 1) (lv' := [(2, .int ((0 : Int32))), (0, .ref ((L 0))), (1, .int x1)]) hx hb dX7_walkOver_1 rfl hl (by decide) rfl (fun ls hl => ?_)
  exact J2 FU x1 ((0 : Int32)) b_walk b_plan _ _ _ hf hw (lv_sub hl [1, 2, 0] rfl)
def zf_X7_over_18 (b_now : TTe) (b_staff : TSt) (b_walk : TWa) (b_plan : Nat → Int32) (b_refusals : Nat → Int32) : Option (Int32 × TWa × (Nat → Int32) × (Nat → Int32)) := (Option.bind (zf_X7_refused (((-2 : Int32))) b_refusals) (fun u9 => some (u9.1, b_walk, b_plan, u9.2)))
def zf_X7_over (x1 : Int32) (x2 : Int32) (b_now : TTe) (b_staff : TSt) (b_walk : TWa) (b_plan : Nat → Int32) (b_refusals : Nat → Int32) : Option (Int32 × TWa × (Nat → Int32) × (Nat → Int32)) := (Option.bind (zf_X7_isOrder x1.toInt64 b_staff) (fun u1 => (if u1 then (Option.bind (zf_X7_isWithin x2 (((0 : Int32))) (((4 : Int32)))) (fun u3 => (if u3 then (Option.bind (zf_X7_walkOver x1 b_now b_staff b_walk b_plan) (fun u5 => (if x2 = 0 then some (u5.1.2.2.2.2.2.1, u5.1, u5.2, b_refusals) else (if x2 = 1 then some (u5.1.2.2.2.2.1, u5.1, u5.2, b_refusals) else (Option.bind (zf_X5_measure (((x2 - (2 : Int32)))) u5.1.1) (fun u8 => some (u8, u5.1, u5.2, b_refusals))))))) else zf_X7_over_18 b_now b_staff b_walk b_plan b_refusals))) else zf_X7_over_18 b_now b_staff b_walk b_plan b_refusals)))
abbrev zr_X7_over : Room := { frames := 5, cells := 0, slots := 0, locals := 115 }
set_option maxHeartbeats 4000000 in
set_option maxRecDepth 100000 in
theorem c_X7_over (l : Launch) (G : va_G) (cy : Nat → ClassId) (tt : Nat → Nat) (L : Nat → Nat) (b_seedNow : Int32) (b_keptSeed : Int32) (b_isKept : Bool) (x1 : Int32) (x2 : Int32) (b_now : TTe) (b_staff : TSt) (b_walk : TWa) (b_plan : Nat → Int32) (b_refusals : Nat → Int32) (res : Int32 × TWa × (Nat → Int32) × (Nat → Int32)) (hf : zf_X7_over x1 x2 b_now b_staff b_walk b_plan b_refusals = some res) : zCT l yX7_over cX7_over 3 (some .int) zr_X7_over G cy tt [.ref ((L 0)), .int x1, .int x2] [xU L b_seedNow b_keptSeed b_isKept, xTe ((L 1)) b_now, xSt ((L 5)) ((L 6)) ((L 7)) ((L 8)) ((L 9)) b_staff.1, xI cy ((L 6)) 8 b_staff.2.1, xI cy ((L 7)) 8 b_staff.2.2.1, xI cy ((L 8)) 8 b_staff.2.2.2.1, xI cy ((L 9)) 8 b_staff.2.2.2.2, xWa ((L 34)) ((L 35)) b_walk.2.1 b_walk.2.2.1 b_walk.2.2.2.1 b_walk.2.2.2.2.1 b_walk.2.2.2.2.2.1 b_walk.2.2.2.2.2.2.1 b_walk.2.2.2.2.2.2.2.1 b_walk.2.2.2.2.2.2.2.2, xTe ((L 35)) b_walk.1, xI cy ((L 46)) 48 b_plan, xI cy ((L 48)) 5 b_refusals] (some (.int res.1)) [xU L b_seedNow b_keptSeed b_isKept, xTe ((L 1)) b_now, xSt ((L 5)) ((L 6)) ((L 7)) ((L 8)) ((L 9)) b_staff.1, xI cy ((L 6)) 8 b_staff.2.1, xI cy ((L 7)) 8 b_staff.2.2.1, xI cy ((L 8)) 8 b_staff.2.2.2.1, xI cy ((L 9)) 8 b_staff.2.2.2.2, xWa ((L 34)) ((L 35)) res.2.1.2.1 res.2.1.2.2.1 res.2.1.2.2.2.1 res.2.1.2.2.2.2.1 res.2.1.2.2.2.2.2.1 res.2.1.2.2.2.2.2.2.1 res.2.1.2.2.2.2.2.2.2.1 res.2.1.2.2.2.2.2.2.2.2, xTe ((L 35)) res.2.1.1, xI cy ((L 46)) 48 res.2.2.1, xI cy ((L 48)) 5 res.2.2.2] := by
  refine zk_start zn_X7 (Nat.le_of_ble_eq_true rfl) ?_
  intro p e s m args below meth c A ls Q C hr hQ hw hl
  have C : zCx p m c s args meth cX7_over 3 RX7 G cy tt A := C
  have hx := C.1.1
  have hb := C.1.2.1
  have hl : lv_has ls 3 [(0, .ref ((L 0))), (1, .int x1), (2, .int x2)] := hl
  have J18 : ∀ (b_walk : TWa) (b_plan : Nat → Int32) (b_refusals : Nat → Int32) (H : Heap) (locs : List Loc) (ls : Array Slot), zf_X7_over_18 b_now b_staff b_walk b_plan b_refusals = some res → zWd G A s.heap H locs [xU L b_seedNow b_keptSeed b_isKept, xTe ((L 1)) b_now, xSt ((L 5)) ((L 6)) ((L 7)) ((L 8)) ((L 9)) b_staff.1, xI cy ((L 6)) 8 b_staff.2.1, xI cy ((L 7)) 8 b_staff.2.2.1, xI cy ((L 8)) 8 b_staff.2.2.2.1, xI cy ((L 9)) 8 b_staff.2.2.2.2, xWa ((L 34)) ((L 35)) b_walk.2.1 b_walk.2.2.1 b_walk.2.2.2.1 b_walk.2.2.2.2.1 b_walk.2.2.2.2.2.1 b_walk.2.2.2.2.2.2.1 b_walk.2.2.2.2.2.2.2.1 b_walk.2.2.2.2.2.2.2.2, xTe ((L 35)) b_walk.1, xI cy ((L 46)) 48 b_plan, xI cy ((L 48)) 5 b_refusals] → lv_has ls 3 [(0, .ref ((L 0)))] → W p l e zr_X7_over s m args below meth c H locs 0 0 Q (F0 m 18 ls []) := by
    intro b_walk b_plan b_refusals H locs ls hf hw hl
    rw [zf_X7_over_18] at hf
    refine lv_aload_n (pc := 18) hx hb dX7_over_18 rfl (lv_at hl 0 rfl) ?_
    refine lv_bipush (pc := 19) (v := -2) hx hb dX7_over_19 (by decide) ?_
    obtain ⟨u9, u9e, hf⟩ := bd hf
    refine zk_cV (pc := 21) (ci := 7) (q0 := 0) (rest := []) (st1 := [.int u9.1]) (w' := [xU L b_seedNow b_keptSeed b_isKept, xTe ((L 1)) b_now, xSt ((L 5)) ((L 6)) ((L 7)) ((L 8)) ((L 9)) b_staff.1, xI cy ((L 6)) 8 b_staff.2.1, xI cy ((L 7)) 8 b_staff.2.2.1, xI cy ((L 8)) 8 b_staff.2.2.2.1, xI cy ((L 9)) 8 b_staff.2.2.2.2, xWa ((L 34)) ((L 35)) b_walk.2.1 b_walk.2.2.1 b_walk.2.2.2.1 b_walk.2.2.2.2.1 b_walk.2.2.2.2.2.1 b_walk.2.2.2.2.2.2.1 b_walk.2.2.2.2.2.2.2.1 b_walk.2.2.2.2.2.2.2.2, xTe ((L 35)) b_walk.1, xI cy ((L 46)) 48 b_plan, xI cy ((L 48)) 5 u9.2]) (mk := [none, none, none, none, none, none, none, none, none, none, some (xI cy ((L 48)) 5 u9.2)]) C hw (c_X7_refused l G cy tt L b_seedNow b_keptSeed b_isKept (((-2 : Int32))) b_refusals _ u9e) zy_X7_refused zm_X7_103 rfl rfl rfl [0, 10] rfl rfl rfl rfl rfl rfl rfl rfl hl.1 ⟨rfl, rfl⟩ ⟨Nat.le_of_ble_eq_true rfl, Nat.le_of_ble_eq_true rfl⟩ rfl (Nat.le_of_ble_eq_true rfl) ⟨Nat.zero_le _, Nat.zero_le _⟩ dX7_over_21 (fun H locs hw => ?_)
    have hf := Option.some.inj hf
    subst hf
    exact zk_reti (pc := 24) (ww := [xU L b_seedNow b_keptSeed b_isKept, xTe ((L 1)) b_now, xSt ((L 5)) ((L 6)) ((L 7)) ((L 8)) ((L 9)) b_staff.1, xI cy ((L 6)) 8 b_staff.2.1, xI cy ((L 7)) 8 b_staff.2.2.1, xI cy ((L 8)) 8 b_staff.2.2.2.1, xI cy ((L 9)) 8 b_staff.2.2.2.2, xWa ((L 34)) ((L 35)) b_walk.2.1 b_walk.2.2.1 b_walk.2.2.2.1 b_walk.2.2.2.2.1 b_walk.2.2.2.2.2.1 b_walk.2.2.2.2.2.2.1 b_walk.2.2.2.2.2.2.2.1 b_walk.2.2.2.2.2.2.2.2, xTe ((L 35)) b_walk.1, xI cy ((L 46)) 48 b_plan, xI cy ((L 48)) 5 u9.2]) C hw hr hQ dX7_over_24
  rw [zf_X7_over] at hf
  refine lv_aload_n (pc := 0) hx hb dX7_over_0 rfl (lv_at hl 0 rfl) ?_
  refine lv_iload_n (pc := 1) hx hb dX7_over_1 rfl (lv_at hl 1 rfl) ?_
  refine lv_i2l (pc := 2) (v := x1.toInt64) hx hb dX7_over_2 rfl ?_
  obtain ⟨u1, u1e, hf⟩ := bd hf
  refine zk_cV (pc := 3) (ci := 7) (q0 := 0) (rest := []) (st1 := [.int (bI u1)]) (w' := [xU L b_seedNow b_keptSeed b_isKept, xTe ((L 1)) b_now, xSt ((L 5)) ((L 6)) ((L 7)) ((L 8)) ((L 9)) b_staff.1, xI cy ((L 6)) 8 b_staff.2.1, xI cy ((L 7)) 8 b_staff.2.2.1, xI cy ((L 8)) 8 b_staff.2.2.2.1, xI cy ((L 9)) 8 b_staff.2.2.2.2, xWa ((L 34)) ((L 35)) b_walk.2.1 b_walk.2.2.1 b_walk.2.2.2.1 b_walk.2.2.2.2.1 b_walk.2.2.2.2.2.1 b_walk.2.2.2.2.2.2.1 b_walk.2.2.2.2.2.2.2.1 b_walk.2.2.2.2.2.2.2.2, xTe ((L 35)) b_walk.1, xI cy ((L 46)) 48 b_plan, xI cy ((L 48)) 5 b_refusals]) (mk := [none, none, none, none, none, none, none, none, none, none, none]) C hw (c_X7_isOrder l G cy tt L b_seedNow b_keptSeed b_isKept x1.toInt64 b_staff _ u1e) zy_X7_isOrder zm_X7_221 rfl rfl rfl [0, 2, 3, 4, 5, 6] rfl rfl rfl rfl rfl rfl rfl rfl hl.1 ⟨rfl, rfl⟩ ⟨Nat.le_of_ble_eq_true rfl, Nat.le_of_ble_eq_true rfl⟩ rfl (Nat.le_of_ble_eq_true rfl) ⟨Nat.zero_le _, Nat.zero_le _⟩ dX7_over_3 (fun H locs hw => ?_)
  refine zk_ifz (pc := 6) (tgt := 18) hx hb dX7_over_6 (by decide) (fun q2 => ?_) (fun q2 => ?_)
  · replace hf := if_f q2 hf
    exact J18 b_walk b_plan b_refusals _ _ _ hf hw (lv_sub hl [0] rfl)
  · replace hf := if_t q2 hf
    refine lv_iload_n (pc := 9) hx hb dX7_over_9 rfl (lv_at hl 2 rfl) ?_
    refine lv_iconst (pc := 10) (v := 0) hx hb dX7_over_10 (by decide) ?_
    refine lv_iconst (pc := 11) (v := 4) hx hb dX7_over_11 (by decide) ?_
    obtain ⟨u3, u3e, hf⟩ := bd hf
    refine zk_cS (pc := 12) (rest := []) (st1 := [.int (bI u3)]) (w' := [xU L b_seedNow b_keptSeed b_isKept, xTe ((L 1)) b_now, xSt ((L 5)) ((L 6)) ((L 7)) ((L 8)) ((L 9)) b_staff.1, xI cy ((L 6)) 8 b_staff.2.1, xI cy ((L 7)) 8 b_staff.2.2.1, xI cy ((L 8)) 8 b_staff.2.2.2.1, xI cy ((L 9)) 8 b_staff.2.2.2.2, xWa ((L 34)) ((L 35)) b_walk.2.1 b_walk.2.2.1 b_walk.2.2.2.1 b_walk.2.2.2.2.1 b_walk.2.2.2.2.2.1 b_walk.2.2.2.2.2.2.1 b_walk.2.2.2.2.2.2.2.1 b_walk.2.2.2.2.2.2.2.2, xTe ((L 35)) b_walk.1, xI cy ((L 46)) 48 b_plan, xI cy ((L 48)) 5 b_refusals]) (mk := [none, none, none, none, none, none, none, none, none, none, none]) C hw (c_X7_isWithin l G cy tt x2 (((0 : Int32))) (((4 : Int32))) _ u3e) zy_X7_isWithin zm_X7_99 [] rfl rfl rfl rfl rfl rfl rfl rfl hl.1 ⟨rfl, rfl⟩ ⟨Nat.le_of_ble_eq_true rfl, Nat.le_of_ble_eq_true rfl⟩ rfl (Nat.le_of_ble_eq_true rfl) ⟨Nat.zero_le _, Nat.zero_le _⟩ dX7_over_12 (fun H locs hw => ?_)
    refine zk_ifnz (pc := 15) (tgt := 25) hx hb dX7_over_15 (by decide) (fun q4 => ?_) (fun q4 => ?_)
    · replace hf := if_t q4 hf
      refine lv_aload_n (pc := 25) hx hb dX7_over_25 rfl (lv_at hl 0 rfl) ?_
      refine lv_iload_n (pc := 26) hx hb dX7_over_26 rfl (lv_at hl 1 rfl) ?_
      obtain ⟨u5, u5e, hf⟩ := bd hf
      refine zk_cV (pc := 27) (ci := 7) (q0 := 0) (rest := []) (st1 := []) (w' := [xU L b_seedNow b_keptSeed b_isKept, xTe ((L 1)) b_now, xSt ((L 5)) ((L 6)) ((L 7)) ((L 8)) ((L 9)) b_staff.1, xI cy ((L 6)) 8 b_staff.2.1, xI cy ((L 7)) 8 b_staff.2.2.1, xI cy ((L 8)) 8 b_staff.2.2.2.1, xI cy ((L 9)) 8 b_staff.2.2.2.2, xWa ((L 34)) ((L 35)) u5.1.2.1 u5.1.2.2.1 u5.1.2.2.2.1 u5.1.2.2.2.2.1 u5.1.2.2.2.2.2.1 u5.1.2.2.2.2.2.2.1 u5.1.2.2.2.2.2.2.2.1 u5.1.2.2.2.2.2.2.2.2, xTe ((L 35)) u5.1.1, xI cy ((L 46)) 48 u5.2, xI cy ((L 48)) 5 b_refusals]) (mk := [none, none, none, none, none, none, none, some (xWa ((L 34)) ((L 35)) u5.1.2.1 u5.1.2.2.1 u5.1.2.2.2.1 u5.1.2.2.2.2.1 u5.1.2.2.2.2.2.1 u5.1.2.2.2.2.2.2.1 u5.1.2.2.2.2.2.2.2.1 u5.1.2.2.2.2.2.2.2.2), some (xTe ((L 35)) u5.1.1), some (xI cy ((L 46)) 48 u5.2), none]) C hw (c_X7_walkOver l G cy tt L b_seedNow b_keptSeed b_isKept x1 b_now b_staff b_walk b_plan _ u5e) zy_X7_walkOver zm_X7_315 rfl rfl rfl [0, 1, 2, 3, 4, 5, 6, 7, 8, 9] rfl rfl rfl rfl rfl rfl rfl rfl hl.1 ⟨rfl, rfl⟩ ⟨Nat.le_of_ble_eq_true rfl, Nat.le_of_ble_eq_true rfl⟩ rfl (Nat.le_of_ble_eq_true rfl) ⟨Nat.zero_le _, Nat.zero_le _⟩ dX7_over_27 (fun H locs hw => ?_)
      refine lv_iload_n (pc := 30) hx hb dX7_over_30 rfl (lv_at hl 2 rfl) ?_
      by_cases q6 : x2 = (0 : Int32)
      · replace hf := if_t q6 hf
        refine zk_lkIn (pc := 31) (off := 25) (tgt := 56) q6 C dX7_over_31 (by decide +kernel) (by decide +kernel) (by decide) ?_
        refine lv_aload_n (pc := 56) hx hb dX7_over_56 rfl (lv_at hl 0 rfl) ?_
        refine zk_gt (pc := 57) C hw zl_X7_55 0 rfl rfl dX7_over_57 ?_
        refine zk_gt (pc := 60) C hw zl_X7_318 7 rfl rfl dX7_over_60 ?_
        have hf := Option.some.inj hf
        subst hf
        exact zk_reti (pc := 63) (ww := [xU L b_seedNow b_keptSeed b_isKept, xTe ((L 1)) b_now, xSt ((L 5)) ((L 6)) ((L 7)) ((L 8)) ((L 9)) b_staff.1, xI cy ((L 6)) 8 b_staff.2.1, xI cy ((L 7)) 8 b_staff.2.2.1, xI cy ((L 8)) 8 b_staff.2.2.2.1, xI cy ((L 9)) 8 b_staff.2.2.2.2, xWa ((L 34)) ((L 35)) u5.1.2.1 u5.1.2.2.1 u5.1.2.2.2.1 u5.1.2.2.2.2.1 u5.1.2.2.2.2.2.1 u5.1.2.2.2.2.2.2.1 u5.1.2.2.2.2.2.2.2.1 u5.1.2.2.2.2.2.2.2.2, xTe ((L 35)) u5.1.1, xI cy ((L 46)) 48 u5.2, xI cy ((L 48)) 5 b_refusals]) C hw hr hQ dX7_over_63
      · replace hf := if_f q6 hf
        by_cases q7 : x2 = (1 : Int32)
        · replace hf := if_t q7 hf
          refine zk_lkIn (pc := 31) (off := 33) (tgt := 64) q7 C dX7_over_31 (by decide +kernel) (by decide +kernel) (by decide) ?_
          refine lv_aload_n (pc := 64) hx hb dX7_over_64 rfl (lv_at hl 0 rfl) ?_
          refine zk_gt (pc := 65) C hw zl_X7_55 0 rfl rfl dX7_over_65 ?_
          refine zk_gt (pc := 68) C hw zl_X7_321 7 rfl rfl dX7_over_68 ?_
          have hf := Option.some.inj hf
          subst hf
          exact zk_reti (pc := 71) (ww := [xU L b_seedNow b_keptSeed b_isKept, xTe ((L 1)) b_now, xSt ((L 5)) ((L 6)) ((L 7)) ((L 8)) ((L 9)) b_staff.1, xI cy ((L 6)) 8 b_staff.2.1, xI cy ((L 7)) 8 b_staff.2.2.1, xI cy ((L 8)) 8 b_staff.2.2.2.1, xI cy ((L 9)) 8 b_staff.2.2.2.2, xWa ((L 34)) ((L 35)) u5.1.2.1 u5.1.2.2.1 u5.1.2.2.2.1 u5.1.2.2.2.2.1 u5.1.2.2.2.2.2.1 u5.1.2.2.2.2.2.2.1 u5.1.2.2.2.2.2.2.2.1 u5.1.2.2.2.2.2.2.2.2, xTe ((L 35)) u5.1.1, xI cy ((L 46)) 48 u5.2, xI cy ((L 48)) 5 b_refusals]) C hw hr hQ dX7_over_71
        · replace hf := if_f q7 hf
          have eq6 := i32_ne (n := 0) (by decide) q6
          have eq7 := i32_ne (n := 1) (by decide) q7
          refine lv_lookup (pc := 31) (off := 41) (tgt := 72) hx hb dX7_over_31 (by decide +kernel) (by simp [Op.lookupswitch.offset, Ne.symm eq6, Ne.symm eq7]; done) (by decide) ?_
          refine lv_aload_n (pc := 72) hx hb dX7_over_72 rfl (lv_at hl 0 rfl) ?_
          refine zk_gt (pc := 73) C hw zl_X7_55 0 rfl rfl dX7_over_73 ?_
          refine zk_gt (pc := 76) C hw zl_X7_256 7 rfl rfl dX7_over_76 ?_
          refine lv_iload_n (pc := 79) hx hb dX7_over_79 rfl (lv_at hl 2 rfl) ?_
          refine lv_iconst (pc := 80) (v := 2) hx hb dX7_over_80 (by decide) ?_
          refine lv_isub (pc := 81) hx hb dX7_over_81 ?_
          obtain ⟨u8, u8e, hf⟩ := bd hf
          refine zk_cV (pc := 82) (ci := 5) (q0 := 8) (rest := []) (st1 := [.int u8]) (w' := [xU L b_seedNow b_keptSeed b_isKept, xTe ((L 1)) b_now, xSt ((L 5)) ((L 6)) ((L 7)) ((L 8)) ((L 9)) b_staff.1, xI cy ((L 6)) 8 b_staff.2.1, xI cy ((L 7)) 8 b_staff.2.2.1, xI cy ((L 8)) 8 b_staff.2.2.2.1, xI cy ((L 9)) 8 b_staff.2.2.2.2, xWa ((L 34)) ((L 35)) u5.1.2.1 u5.1.2.2.1 u5.1.2.2.2.1 u5.1.2.2.2.2.1 u5.1.2.2.2.2.2.1 u5.1.2.2.2.2.2.2.1 u5.1.2.2.2.2.2.2.2.1 u5.1.2.2.2.2.2.2.2.2, xTe ((L 35)) u5.1.1, xI cy ((L 46)) 48 u5.2, xI cy ((L 48)) 5 b_refusals]) (mk := [none, none, none, none, none, none, none, none, none, none, none]) C hw (c_X5_measure l G cy tt ((L 35)) (((x2 - (2 : Int32)))) u5.1.1 _ u8e) zy_X5_measure zm_X7_180 rfl rfl rfl [8] rfl rfl rfl rfl rfl rfl rfl rfl hl.1 ⟨rfl, rfl⟩ ⟨Nat.le_of_ble_eq_true rfl, Nat.le_of_ble_eq_true rfl⟩ rfl (Nat.le_of_ble_eq_true rfl) ⟨Nat.zero_le _, Nat.zero_le _⟩ dX7_over_82 (fun H locs hw => ?_)
          have hf := Option.some.inj hf
          subst hf
          exact zk_reti (pc := 85) (ww := [xU L b_seedNow b_keptSeed b_isKept, xTe ((L 1)) b_now, xSt ((L 5)) ((L 6)) ((L 7)) ((L 8)) ((L 9)) b_staff.1, xI cy ((L 6)) 8 b_staff.2.1, xI cy ((L 7)) 8 b_staff.2.2.1, xI cy ((L 8)) 8 b_staff.2.2.2.1, xI cy ((L 9)) 8 b_staff.2.2.2.2, xWa ((L 34)) ((L 35)) u5.1.2.1 u5.1.2.2.1 u5.1.2.2.2.1 u5.1.2.2.2.2.1 u5.1.2.2.2.2.2.1 u5.1.2.2.2.2.2.2.1 u5.1.2.2.2.2.2.2.2.1 u5.1.2.2.2.2.2.2.2.2, xTe ((L 35)) u5.1.1, xI cy ((L 46)) 48 u5.2, xI cy ((L 48)) 5 b_refusals]) C hw hr hQ dX7_over_85
    · replace hf := if_f q4 hf
      exact J18 b_walk b_plan b_refusals _ _ _ hf hw (lv_sub hl [0] rfl)
def zf_X7_safest_54 (b_now : TTe) (b_staff : TSt) (k6 : Int32 → Int32 → Int32 → TWa → (Nat → Int32) → Option (Int32 × TWa × (Nat → Int32))) (v1 : Int32) (v2 : Int32) (v3 : Int32) (b_walk : TWa) (b_plan : Nat → Int32) : Option (Int32 × TWa × (Nat → Int32)) := k6 v1 v2 ((v3 + 1)) b_walk b_plan
def zf_X7_safest_6 (b_now : TTe) (b_staff : TSt) : Nat → Int32 → Int32 → Int32 → TWa → (Nat → Int32) → Option (Int32 × TWa × (Nat → Int32))
  | 0, _, _, _, _, _ => none
  | n + 1, v1, v2, v3, b_walk, b_plan => (Option.bind (zf_X7_orderCount b_staff) (fun u1 => (if u1 ≤ v3 then some (v1, b_walk, b_plan) else (Option.bind (zf_X2_orderAt v3 b_staff) (fun u3 => (Option.bind (zf_X7_walkOver u3 b_now b_staff b_walk b_plan) (fun u4 => (if u4.1.2.2.2.2.1 ≤ v2 then zf_X7_safest_54 b_now b_staff (zf_X7_safest_6 b_now b_staff n) v1 v2 v3 u4.1 u4.2 else (Option.bind (zf_X2_orderAt v3 b_staff) (fun u6 => zf_X7_safest_54 b_now b_staff (zf_X7_safest_6 b_now b_staff n) u6 u4.1.2.2.2.2.1 v3 u4.1 u4.2))))))))))
def zf_X7_safest  (b_now : TTe) (b_staff : TSt) (b_walk : TWa) (b_plan : Nat → Int32) : Option (Int32 × TWa × (Nat → Int32)) := zf_X7_safest_6 b_now b_staff FU ((-1 : Int32)) ((-1 : Int32)) ((0 : Int32)) b_walk b_plan
abbrev zr_X7_safest : Room := { frames := 5, cells := 0, slots := 0, locals := 115 }
set_option maxHeartbeats 4000000 in
set_option maxRecDepth 100000 in
theorem c_X7_safest (l : Launch) (G : va_G) (cy : Nat → ClassId) (tt : Nat → Nat) (L : Nat → Nat) (b_seedNow : Int32) (b_keptSeed : Int32) (b_isKept : Bool)  (b_now : TTe) (b_staff : TSt) (b_walk : TWa) (b_plan : Nat → Int32) (res : Int32 × TWa × (Nat → Int32)) (hf : zf_X7_safest b_now b_staff b_walk b_plan = some res) : zCT l yX7_safest cX7_safest 4 (some .int) zr_X7_safest G cy tt [.ref ((L 0))] [xU L b_seedNow b_keptSeed b_isKept, xTe ((L 1)) b_now, xSt ((L 5)) ((L 6)) ((L 7)) ((L 8)) ((L 9)) b_staff.1, xI cy ((L 6)) 8 b_staff.2.1, xI cy ((L 7)) 8 b_staff.2.2.1, xI cy ((L 8)) 8 b_staff.2.2.2.1, xI cy ((L 9)) 8 b_staff.2.2.2.2, xWa ((L 34)) ((L 35)) b_walk.2.1 b_walk.2.2.1 b_walk.2.2.2.1 b_walk.2.2.2.2.1 b_walk.2.2.2.2.2.1 b_walk.2.2.2.2.2.2.1 b_walk.2.2.2.2.2.2.2.1 b_walk.2.2.2.2.2.2.2.2, xTe ((L 35)) b_walk.1, xI cy ((L 46)) 48 b_plan] (some (.int res.1)) [xU L b_seedNow b_keptSeed b_isKept, xTe ((L 1)) b_now, xSt ((L 5)) ((L 6)) ((L 7)) ((L 8)) ((L 9)) b_staff.1, xI cy ((L 6)) 8 b_staff.2.1, xI cy ((L 7)) 8 b_staff.2.2.1, xI cy ((L 8)) 8 b_staff.2.2.2.1, xI cy ((L 9)) 8 b_staff.2.2.2.2, xWa ((L 34)) ((L 35)) res.2.1.2.1 res.2.1.2.2.1 res.2.1.2.2.2.1 res.2.1.2.2.2.2.1 res.2.1.2.2.2.2.2.1 res.2.1.2.2.2.2.2.2.1 res.2.1.2.2.2.2.2.2.2.1 res.2.1.2.2.2.2.2.2.2.2, xTe ((L 35)) res.2.1.1, xI cy ((L 46)) 48 res.2.2] := by
  refine zk_start zn_X7 (Nat.le_of_ble_eq_true rfl) ?_
  intro p e s m args below meth c A ls Q C hr hQ hw hl
  have C : zCx p m c s args meth cX7_safest 4 RX7 G cy tt A := C
  have hx := C.1.1
  have hb := C.1.2.1
  have hl : lv_has ls 4 [(0, .ref ((L 0)))] := hl
  have J54 : ∀ (k6 : Int32 → Int32 → Int32 → TWa → (Nat → Int32) → Option (Int32 × TWa × (Nat → Int32))) (K6 : ∀ (v1 : Int32) (v2 : Int32) (v3 : Int32) (b_walk : TWa) (b_plan : Nat → Int32) (H : Heap) (locs : List Loc) (ls : Array Slot), k6 v1 v2 v3 b_walk b_plan = some res → zWd G A s.heap H locs [xU L b_seedNow b_keptSeed b_isKept, xTe ((L 1)) b_now, xSt ((L 5)) ((L 6)) ((L 7)) ((L 8)) ((L 9)) b_staff.1, xI cy ((L 6)) 8 b_staff.2.1, xI cy ((L 7)) 8 b_staff.2.2.1, xI cy ((L 8)) 8 b_staff.2.2.2.1, xI cy ((L 9)) 8 b_staff.2.2.2.2, xWa ((L 34)) ((L 35)) b_walk.2.1 b_walk.2.2.1 b_walk.2.2.2.1 b_walk.2.2.2.2.1 b_walk.2.2.2.2.2.1 b_walk.2.2.2.2.2.2.1 b_walk.2.2.2.2.2.2.2.1 b_walk.2.2.2.2.2.2.2.2, xTe ((L 35)) b_walk.1, xI cy ((L 46)) 48 b_plan] → lv_has ls 4 [(0, .ref ((L 0))), (1, .int v1), (2, .int v2), (3, .int v3)] → W p l e zr_X7_safest s m args below meth c H locs 0 0 Q (F0 m 6 ls [])), ∀ (v1 : Int32) (v2 : Int32) (v3 : Int32) (b_walk : TWa) (b_plan : Nat → Int32) (H : Heap) (locs : List Loc) (ls : Array Slot), zf_X7_safest_54 b_now b_staff k6 v1 v2 v3 b_walk b_plan = some res → zWd G A s.heap H locs [xU L b_seedNow b_keptSeed b_isKept, xTe ((L 1)) b_now, xSt ((L 5)) ((L 6)) ((L 7)) ((L 8)) ((L 9)) b_staff.1, xI cy ((L 6)) 8 b_staff.2.1, xI cy ((L 7)) 8 b_staff.2.2.1, xI cy ((L 8)) 8 b_staff.2.2.2.1, xI cy ((L 9)) 8 b_staff.2.2.2.2, xWa ((L 34)) ((L 35)) b_walk.2.1 b_walk.2.2.1 b_walk.2.2.2.1 b_walk.2.2.2.2.1 b_walk.2.2.2.2.2.1 b_walk.2.2.2.2.2.2.1 b_walk.2.2.2.2.2.2.2.1 b_walk.2.2.2.2.2.2.2.2, xTe ((L 35)) b_walk.1, xI cy ((L 46)) 48 b_plan] → lv_has ls 4 [(0, .ref ((L 0))), (1, .int v1), (2, .int v2), (3, .int v3)] → W p l e zr_X7_safest s m args below meth c H locs 0 0 Q (F0 m 54 ls []) := by
    intro k6 K6 v1 v2 v3 b_walk b_plan H locs ls hf hw hl
    rw [zf_X7_safest_54] at hf
    refine lv_iinc (pc := 54) (v := (v3 + 1)) (lv' := [(3, .int ((v3 + 1))), (0, .ref ((L 0))), (1, .int v1), (2, .int v2)]) hx hb dX7_safest_54 hl (k := 3) rfl rfl (by decide) rfl (fun ls hl => ?_)
    refine lv_goto (pc := 57) (tgt := 6) hx hb dX7_safest_57 (by decide) ?_
    exact K6 v1 v2 ((v3 + 1)) b_walk b_plan _ _ _ hf hw (lv_sub hl [1, 2, 3, 0] rfl)
  have J6 : ∀ (n : Nat), ∀ (v1 : Int32) (v2 : Int32) (v3 : Int32) (b_walk : TWa) (b_plan : Nat → Int32) (H : Heap) (locs : List Loc) (ls : Array Slot), zf_X7_safest_6 b_now b_staff n v1 v2 v3 b_walk b_plan = some res → zWd G A s.heap H locs [xU L b_seedNow b_keptSeed b_isKept, xTe ((L 1)) b_now, xSt ((L 5)) ((L 6)) ((L 7)) ((L 8)) ((L 9)) b_staff.1, xI cy ((L 6)) 8 b_staff.2.1, xI cy ((L 7)) 8 b_staff.2.2.1, xI cy ((L 8)) 8 b_staff.2.2.2.1, xI cy ((L 9)) 8 b_staff.2.2.2.2, xWa ((L 34)) ((L 35)) b_walk.2.1 b_walk.2.2.1 b_walk.2.2.2.1 b_walk.2.2.2.2.1 b_walk.2.2.2.2.2.1 b_walk.2.2.2.2.2.2.1 b_walk.2.2.2.2.2.2.2.1 b_walk.2.2.2.2.2.2.2.2, xTe ((L 35)) b_walk.1, xI cy ((L 46)) 48 b_plan] → lv_has ls 4 [(0, .ref ((L 0))), (1, .int v1), (2, .int v2), (3, .int v3)] → W p l e zr_X7_safest s m args below meth c H locs 0 0 Q (F0 m 6 ls []) := by
    intro n
    induction n with
    | zero =>
      intro v1 v2 v3 b_walk b_plan H locs ls hf hw hl
      rw [zf_X7_safest_6] at hf
      cases hf
    | succ n ih =>
      intro v1 v2 v3 b_walk b_plan H locs ls hf hw hl
      rw [zf_X7_safest_6] at hf
      refine lv_iload_n (pc := 6) hx hb dX7_safest_6 rfl (lv_at hl 3 rfl) ?_
      refine lv_aload_n (pc := 7) hx hb dX7_safest_7 rfl (lv_at hl 0 rfl) ?_
      obtain ⟨u1, u1e, hf⟩ := bd hf
      refine zk_cV (pc := 8) (ci := 7) (q0 := 0) (rest := [.int v3]) (st1 := [.int u1, .int v3]) (w' := [xU L b_seedNow b_keptSeed b_isKept, xTe ((L 1)) b_now, xSt ((L 5)) ((L 6)) ((L 7)) ((L 8)) ((L 9)) b_staff.1, xI cy ((L 6)) 8 b_staff.2.1, xI cy ((L 7)) 8 b_staff.2.2.1, xI cy ((L 8)) 8 b_staff.2.2.2.1, xI cy ((L 9)) 8 b_staff.2.2.2.2, xWa ((L 34)) ((L 35)) b_walk.2.1 b_walk.2.2.1 b_walk.2.2.2.1 b_walk.2.2.2.2.1 b_walk.2.2.2.2.2.1 b_walk.2.2.2.2.2.2.1 b_walk.2.2.2.2.2.2.2.1 b_walk.2.2.2.2.2.2.2.2, xTe ((L 35)) b_walk.1, xI cy ((L 46)) 48 b_plan]) (mk := [none, none, none, none, none, none, none, none, none, none]) C hw (c_X7_orderCount l G cy tt L b_seedNow b_keptSeed b_isKept b_staff _ u1e) zy_X7_orderCount zm_X7_233 rfl rfl rfl [0, 2, 3, 4, 5, 6] rfl rfl rfl rfl rfl rfl rfl rfl hl.1 ⟨rfl, rfl⟩ ⟨Nat.le_of_ble_eq_true rfl, Nat.le_of_ble_eq_true rfl⟩ rfl (Nat.le_of_ble_eq_true rfl) ⟨Nat.zero_le _, Nat.zero_le _⟩ dX7_safest_8 (fun H locs hw => ?_)
      refine lv_icmp_ge (pc := 11) (tgt := 60) hx hb dX7_safest_11 (by decide) (fun q2 => ?_) (fun q2 => ?_)
      · replace hf := if_t q2 hf
        refine lv_iload_n (pc := 60) hx hb dX7_safest_60 rfl (lv_at hl 1 rfl) ?_
        have hf := Option.some.inj hf
        subst hf
        exact zk_reti (pc := 61) (ww := [xU L b_seedNow b_keptSeed b_isKept, xTe ((L 1)) b_now, xSt ((L 5)) ((L 6)) ((L 7)) ((L 8)) ((L 9)) b_staff.1, xI cy ((L 6)) 8 b_staff.2.1, xI cy ((L 7)) 8 b_staff.2.2.1, xI cy ((L 8)) 8 b_staff.2.2.2.1, xI cy ((L 9)) 8 b_staff.2.2.2.2, xWa ((L 34)) ((L 35)) b_walk.2.1 b_walk.2.2.1 b_walk.2.2.2.1 b_walk.2.2.2.2.1 b_walk.2.2.2.2.2.1 b_walk.2.2.2.2.2.2.1 b_walk.2.2.2.2.2.2.2.1 b_walk.2.2.2.2.2.2.2.2, xTe ((L 35)) b_walk.1, xI cy ((L 46)) 48 b_plan]) C hw hr hQ dX7_safest_61
      · replace hf := if_f q2 hf
        refine lv_aload_n (pc := 14) hx hb dX7_safest_14 rfl (lv_at hl 0 rfl) ?_
        refine lv_aload_n (pc := 15) hx hb dX7_safest_15 rfl (lv_at hl 0 rfl) ?_
        refine zk_gt (pc := 16) C hw zl_X7_28 0 rfl rfl dX7_safest_16 ?_
        refine lv_iload_n (pc := 19) hx hb dX7_safest_19 rfl (lv_at hl 3 rfl) ?_
        obtain ⟨u3, u3e, hf⟩ := bd hf
        refine zk_cV (pc := 20) (ci := 2) (q0 := 2) (rest := [.ref ((L 0))]) (st1 := [.int u3, .ref ((L 0))]) (w' := [xU L b_seedNow b_keptSeed b_isKept, xTe ((L 1)) b_now, xSt ((L 5)) ((L 6)) ((L 7)) ((L 8)) ((L 9)) b_staff.1, xI cy ((L 6)) 8 b_staff.2.1, xI cy ((L 7)) 8 b_staff.2.2.1, xI cy ((L 8)) 8 b_staff.2.2.2.1, xI cy ((L 9)) 8 b_staff.2.2.2.2, xWa ((L 34)) ((L 35)) b_walk.2.1 b_walk.2.2.1 b_walk.2.2.2.1 b_walk.2.2.2.2.1 b_walk.2.2.2.2.2.1 b_walk.2.2.2.2.2.2.1 b_walk.2.2.2.2.2.2.2.1 b_walk.2.2.2.2.2.2.2.2, xTe ((L 35)) b_walk.1, xI cy ((L 46)) 48 b_plan]) (mk := [none, none, none, none, none, none, none, none, none, none]) C hw (c_X2_orderAt l G cy tt ((L 5)) ((L 6)) ((L 7)) ((L 8)) ((L 9)) v3 b_staff _ u3e) zy_X2_orderAt zm_X7_236 rfl rfl rfl [2, 3, 4, 5, 6] rfl rfl rfl rfl rfl rfl rfl rfl hl.1 ⟨rfl, rfl⟩ ⟨Nat.le_of_ble_eq_true rfl, Nat.le_of_ble_eq_true rfl⟩ rfl (Nat.le_of_ble_eq_true rfl) ⟨Nat.zero_le _, Nat.zero_le _⟩ dX7_safest_20 (fun H locs hw => ?_)
        obtain ⟨u4, u4e, hf⟩ := bd hf
        refine zk_cV (pc := 23) (ci := 7) (q0 := 0) (rest := []) (st1 := []) (w' := [xU L b_seedNow b_keptSeed b_isKept, xTe ((L 1)) b_now, xSt ((L 5)) ((L 6)) ((L 7)) ((L 8)) ((L 9)) b_staff.1, xI cy ((L 6)) 8 b_staff.2.1, xI cy ((L 7)) 8 b_staff.2.2.1, xI cy ((L 8)) 8 b_staff.2.2.2.1, xI cy ((L 9)) 8 b_staff.2.2.2.2, xWa ((L 34)) ((L 35)) u4.1.2.1 u4.1.2.2.1 u4.1.2.2.2.1 u4.1.2.2.2.2.1 u4.1.2.2.2.2.2.1 u4.1.2.2.2.2.2.2.1 u4.1.2.2.2.2.2.2.2.1 u4.1.2.2.2.2.2.2.2.2, xTe ((L 35)) u4.1.1, xI cy ((L 46)) 48 u4.2]) (mk := [none, none, none, none, none, none, none, some (xWa ((L 34)) ((L 35)) u4.1.2.1 u4.1.2.2.1 u4.1.2.2.2.1 u4.1.2.2.2.2.1 u4.1.2.2.2.2.2.1 u4.1.2.2.2.2.2.2.1 u4.1.2.2.2.2.2.2.2.1 u4.1.2.2.2.2.2.2.2.2), some (xTe ((L 35)) u4.1.1), some (xI cy ((L 46)) 48 u4.2)]) C hw (c_X7_walkOver l G cy tt L b_seedNow b_keptSeed b_isKept u3 b_now b_staff b_walk b_plan _ u4e) zy_X7_walkOver zm_X7_315 rfl rfl rfl [0, 1, 2, 3, 4, 5, 6, 7, 8, 9] rfl rfl rfl rfl rfl rfl rfl rfl hl.1 ⟨rfl, rfl⟩ ⟨Nat.le_of_ble_eq_true rfl, Nat.le_of_ble_eq_true rfl⟩ rfl (Nat.le_of_ble_eq_true rfl) ⟨Nat.zero_le _, Nat.zero_le _⟩ dX7_safest_23 (fun H locs hw => ?_)
        refine lv_aload_n (pc := 26) hx hb dX7_safest_26 rfl (lv_at hl 0 rfl) ?_
        refine zk_gt (pc := 27) C hw zl_X7_55 0 rfl rfl dX7_safest_27 ?_
        refine zk_gt (pc := 30) C hw zl_X7_321 7 rfl rfl dX7_safest_30 ?_
        refine lv_iload_n (pc := 33) hx hb dX7_safest_33 rfl (lv_at hl 2 rfl) ?_
        refine lv_icmp_le (pc := 34) (tgt := 54) hx hb dX7_safest_34 (by decide) (fun q5 => ?_) (fun q5 => ?_)
        · replace hf := if_t q5 hf
          exact J54 (zf_X7_safest_6 b_now b_staff n) ih v1 v2 v3 u4.1 u4.2 _ _ _ hf hw (lv_sub hl [0, 1, 2, 3] rfl)
        · replace hf := if_f q5 hf
          refine lv_aload_n (pc := 37) hx hb dX7_safest_37 rfl (lv_at hl 0 rfl) ?_
          refine zk_gt (pc := 38) C hw zl_X7_55 0 rfl rfl dX7_safest_38 ?_
          refine zk_gt (pc := 41) C hw zl_X7_321 7 rfl rfl dX7_safest_41 ?_
          refine lv_istore_n (pc := 44) (lv' := [(2, .int u4.1.2.2.2.2.1), (0, .ref ((L 0))), (1, .int v1), (3, .int v3)]) hx hb dX7_safest_44 rfl hl (by decide) rfl (fun ls hl => ?_)
          refine lv_aload_n (pc := 45) hx hb dX7_safest_45 rfl (lv_at hl 1 rfl) ?_
          refine zk_gt (pc := 46) C hw zl_X7_28 0 rfl rfl dX7_safest_46 ?_
          refine lv_iload_n (pc := 49) hx hb dX7_safest_49 rfl (lv_at hl 3 rfl) ?_
          obtain ⟨u6, u6e, hf⟩ := bd hf
          refine zk_cV (pc := 50) (ci := 2) (q0 := 2) (rest := []) (st1 := [.int u6]) (w' := [xU L b_seedNow b_keptSeed b_isKept, xTe ((L 1)) b_now, xSt ((L 5)) ((L 6)) ((L 7)) ((L 8)) ((L 9)) b_staff.1, xI cy ((L 6)) 8 b_staff.2.1, xI cy ((L 7)) 8 b_staff.2.2.1, xI cy ((L 8)) 8 b_staff.2.2.2.1, xI cy ((L 9)) 8 b_staff.2.2.2.2, xWa ((L 34)) ((L 35)) u4.1.2.1 u4.1.2.2.1 u4.1.2.2.2.1 u4.1.2.2.2.2.1 u4.1.2.2.2.2.2.1 u4.1.2.2.2.2.2.2.1 u4.1.2.2.2.2.2.2.2.1 u4.1.2.2.2.2.2.2.2.2, xTe ((L 35)) u4.1.1, xI cy ((L 46)) 48 u4.2]) (mk := [none, none, none, none, none, none, none, none, none, none]) C hw (c_X2_orderAt l G cy tt ((L 5)) ((L 6)) ((L 7)) ((L 8)) ((L 9)) v3 b_staff _ u6e) zy_X2_orderAt zm_X7_236 rfl rfl rfl [2, 3, 4, 5, 6] rfl rfl rfl rfl rfl rfl rfl rfl hl.1 ⟨rfl, rfl⟩ ⟨Nat.le_of_ble_eq_true rfl, Nat.le_of_ble_eq_true rfl⟩ rfl (Nat.le_of_ble_eq_true rfl) ⟨Nat.zero_le _, Nat.zero_le _⟩ dX7_safest_50 (fun H locs hw => ?_)
          refine lv_istore_n (pc := 53) (lv' := [(1, .int u6), (2, .int u4.1.2.2.2.2.1), (0, .ref ((L 0))), (3, .int v3)]) hx hb dX7_safest_53 rfl hl (by decide) rfl (fun ls hl => ?_)
          exact J54 (zf_X7_safest_6 b_now b_staff n) ih u6 u4.1.2.2.2.2.1 v3 u4.1 u4.2 _ _ _ hf hw (lv_sub hl [2, 0, 1, 3] rfl)
  rw [zf_X7_safest] at hf
  refine lv_iconst (pc := 0) (v := -1) hx hb dX7_safest_0 (by decide) ?_
  refine lv_istore_n (pc := 1) (lv' := [(1, .int ((-1 : Int32))), (0, .ref ((L 0)))]) hx hb dX7_safest_1 rfl hl (by decide) rfl (fun ls hl => ?_)
  refine lv_iconst (pc := 2) (v := -1) hx hb dX7_safest_2 (by decide) ?_
  refine lv_istore_n (pc := 3) (lv' := [(2, .int ((-1 : Int32))), (1, .int ((-1 : Int32))), (0, .ref ((L 0)))]) hx hb dX7_safest_3 rfl hl (by decide) rfl (fun ls hl => ?_)
  refine lv_iconst (pc := 4) (v := 0) hx hb dX7_safest_4 (by decide) ?_
  refine lv_istore_n (pc := 5) (lv' := [(3, .int ((0 : Int32))), (2, .int ((-1 : Int32))), (1, .int ((-1 : Int32))), (0, .ref ((L 0)))]) hx hb dX7_safest_5 rfl hl (by decide) rfl (fun ls hl => ?_)
  exact J6 FU ((-1 : Int32)) ((-1 : Int32)) ((0 : Int32)) b_walk b_plan _ _ _ hf hw (lv_sub hl [3, 2, 1, 0] rfl)
def zf_X7_walkCode_63 (b_now : TTe) (b_staff : TSt) (v2 : Int32) (b_walk : TWa) (b_plan : Nat → Int32) : Option (TWa × (Nat → Int32)) := (Option.bind (zf_X6_along v2 b_walk b_plan b_now b_staff) (fun u7 => some (u7, b_plan)))
def zf_X7_walkCode_5 (b_now : TTe) (b_staff : TSt) : Nat → Int32 → Int32 → Int32 → TWa → (Nat → Int32) → Option (TWa × (Nat → Int32))
  | 0, _, _, _, _, _ => none
  | n + 1, v2, v3, v4, b_walk, b_plan => (if v2 ≤ v4 then zf_X7_walkCode_63 b_now b_staff v2 b_walk b_plan else (if (48 : Int32) ≤ v4 then zf_X7_walkCode_63 b_now b_staff v2 b_walk b_plan else (if b_staff.1 ≤ 0 then zf_X7_walkCode_63 b_now b_staff v2 b_walk b_plan else (if b_staff.1 = 0 then none else (if ix v4 48 then (if b_staff.1 = 0 then none else zf_X7_walkCode_5 b_now b_staff n v2 ((v3 / b_staff.1)) ((v4 + 1)) b_walk ((upd b_plan v4.toNatClampNeg ((v3 - v3 / b_staff.1 * b_staff.1))))) else none)))))
def zf_X7_walkCode (x1 : Int32) (x2 : Int32) (b_now : TTe) (b_staff : TSt) (b_walk : TWa) (b_plan : Nat → Int32) : Option (TWa × (Nat → Int32)) := zf_X7_walkCode_5 b_now b_staff FU x2 x1 ((0 : Int32)) b_walk b_plan
abbrev zr_X7_walkCode : Room := { frames := 4, cells := 0, slots := 0, locals := 93 }
set_option maxHeartbeats 4000000 in
set_option maxRecDepth 100000 in
theorem c_X7_walkCode (l : Launch) (G : va_G) (cy : Nat → ClassId) (tt : Nat → Nat) (L : Nat → Nat) (b_seedNow : Int32) (b_keptSeed : Int32) (b_isKept : Bool) (x1 : Int32) (x2 : Int32) (b_now : TTe) (b_staff : TSt) (b_walk : TWa) (b_plan : Nat → Int32) (res : TWa × (Nat → Int32)) (hf : zf_X7_walkCode x1 x2 b_now b_staff b_walk b_plan = some res) : zCT l yX7_walkCode cX7_walkCode 5 none zr_X7_walkCode G cy tt [.ref ((L 0)), .int x1, .int x2] [xU L b_seedNow b_keptSeed b_isKept, xTe ((L 1)) b_now, xSt ((L 5)) ((L 6)) ((L 7)) ((L 8)) ((L 9)) b_staff.1, xI cy ((L 6)) 8 b_staff.2.1, xI cy ((L 7)) 8 b_staff.2.2.1, xI cy ((L 8)) 8 b_staff.2.2.2.1, xI cy ((L 9)) 8 b_staff.2.2.2.2, xWa ((L 34)) ((L 35)) b_walk.2.1 b_walk.2.2.1 b_walk.2.2.2.1 b_walk.2.2.2.2.1 b_walk.2.2.2.2.2.1 b_walk.2.2.2.2.2.2.1 b_walk.2.2.2.2.2.2.2.1 b_walk.2.2.2.2.2.2.2.2, xTe ((L 35)) b_walk.1, xI cy ((L 46)) 48 b_plan] none [xU L b_seedNow b_keptSeed b_isKept, xTe ((L 1)) b_now, xSt ((L 5)) ((L 6)) ((L 7)) ((L 8)) ((L 9)) b_staff.1, xI cy ((L 6)) 8 b_staff.2.1, xI cy ((L 7)) 8 b_staff.2.2.1, xI cy ((L 8)) 8 b_staff.2.2.2.1, xI cy ((L 9)) 8 b_staff.2.2.2.2, xWa ((L 34)) ((L 35)) res.1.2.1 res.1.2.2.1 res.1.2.2.2.1 res.1.2.2.2.2.1 res.1.2.2.2.2.2.1 res.1.2.2.2.2.2.2.1 res.1.2.2.2.2.2.2.2.1 res.1.2.2.2.2.2.2.2.2, xTe ((L 35)) res.1.1, xI cy ((L 46)) 48 res.2] := by
  refine zk_start zn_X7 (Nat.le_of_ble_eq_true rfl) ?_
  intro p e s m args below meth c A ls Q C hr hQ hw hl
  have C : zCx p m c s args meth cX7_walkCode 5 RX7 G cy tt A := C
  have hx := C.1.1
  have hb := C.1.2.1
  have hl : lv_has ls 5 [(0, .ref ((L 0))), (1, .int x1), (2, .int x2)] := hl
  have J63 : ∀ (v2 : Int32) (b_walk : TWa) (b_plan : Nat → Int32) (H : Heap) (locs : List Loc) (ls : Array Slot), zf_X7_walkCode_63 b_now b_staff v2 b_walk b_plan = some res → zWd G A s.heap H locs [xU L b_seedNow b_keptSeed b_isKept, xTe ((L 1)) b_now, xSt ((L 5)) ((L 6)) ((L 7)) ((L 8)) ((L 9)) b_staff.1, xI cy ((L 6)) 8 b_staff.2.1, xI cy ((L 7)) 8 b_staff.2.2.1, xI cy ((L 8)) 8 b_staff.2.2.2.1, xI cy ((L 9)) 8 b_staff.2.2.2.2, xWa ((L 34)) ((L 35)) b_walk.2.1 b_walk.2.2.1 b_walk.2.2.2.1 b_walk.2.2.2.2.1 b_walk.2.2.2.2.2.1 b_walk.2.2.2.2.2.2.1 b_walk.2.2.2.2.2.2.2.1 b_walk.2.2.2.2.2.2.2.2, xTe ((L 35)) b_walk.1, xI cy ((L 46)) 48 b_plan] → lv_has ls 5 [(0, .ref ((L 0))), (2, .int v2)] → W p l e zr_X7_walkCode s m args below meth c H locs 0 0 Q (F0 m 63 ls []) := by
    intro v2 b_walk b_plan H locs ls hf hw hl
    rw [zf_X7_walkCode_63] at hf
    refine lv_aload_n (pc := 63) hx hb dX7_walkCode_63 rfl (lv_at hl 0 rfl) ?_
    refine zk_gt (pc := 64) C hw zl_X7_55 0 rfl rfl dX7_walkCode_64 ?_
    refine lv_aload_n (pc := 67) hx hb dX7_walkCode_67 rfl (lv_at hl 0 rfl) ?_
    refine zk_gt (pc := 68) C hw zl_X7_73 0 rfl rfl dX7_walkCode_68 ?_
    refine lv_iload_n (pc := 71) hx hb dX7_walkCode_71 rfl (lv_at hl 1 rfl) ?_
    refine lv_aload_n (pc := 72) hx hb dX7_walkCode_72 rfl (lv_at hl 0 rfl) ?_
    refine zk_gt (pc := 73) C hw zl_X7_10 0 rfl rfl dX7_walkCode_73 ?_
    refine lv_aload_n (pc := 76) hx hb dX7_walkCode_76 rfl (lv_at hl 0 rfl) ?_
    refine zk_gt (pc := 77) C hw zl_X7_28 0 rfl rfl dX7_walkCode_77 ?_
    obtain ⟨u7, u7e, hf⟩ := bd hf
    refine zk_cV (pc := 80) (ci := 6) (q0 := 7) (rest := []) (st1 := []) (w' := [xU L b_seedNow b_keptSeed b_isKept, xTe ((L 1)) b_now, xSt ((L 5)) ((L 6)) ((L 7)) ((L 8)) ((L 9)) b_staff.1, xI cy ((L 6)) 8 b_staff.2.1, xI cy ((L 7)) 8 b_staff.2.2.1, xI cy ((L 8)) 8 b_staff.2.2.2.1, xI cy ((L 9)) 8 b_staff.2.2.2.2, xWa ((L 34)) ((L 35)) u7.2.1 u7.2.2.1 u7.2.2.2.1 u7.2.2.2.2.1 u7.2.2.2.2.2.1 u7.2.2.2.2.2.2.1 u7.2.2.2.2.2.2.2.1 u7.2.2.2.2.2.2.2.2, xTe ((L 35)) u7.1, xI cy ((L 46)) 48 b_plan]) (mk := [none, none, none, none, none, none, none, some (xWa ((L 34)) ((L 35)) u7.2.1 u7.2.2.1 u7.2.2.2.1 u7.2.2.2.2.1 u7.2.2.2.2.2.1 u7.2.2.2.2.2.2.1 u7.2.2.2.2.2.2.2.1 u7.2.2.2.2.2.2.2.2), some (xTe ((L 35)) u7.1), none]) C hw (c_X6_along l G cy tt ((L 34)) ((L 35)) ((L 46)) ((L 1)) ((L 5)) ((L 6)) ((L 7)) ((L 8)) ((L 9)) v2 b_walk b_plan b_now b_staff _ u7e) zy_X6_along zm_X7_246 rfl rfl rfl [7, 8, 9, 1, 2, 3, 4, 5, 6] rfl rfl rfl rfl rfl rfl rfl rfl hl.1 ⟨rfl, rfl⟩ ⟨Nat.le_of_ble_eq_true rfl, Nat.le_of_ble_eq_true rfl⟩ rfl (Nat.le_of_ble_eq_true rfl) ⟨Nat.zero_le _, Nat.zero_le _⟩ dX7_walkCode_80 (fun H locs hw => ?_)
    have hf := Option.some.inj hf
    subst hf
    exact zk_retv (pc := 83) (ww := [xU L b_seedNow b_keptSeed b_isKept, xTe ((L 1)) b_now, xSt ((L 5)) ((L 6)) ((L 7)) ((L 8)) ((L 9)) b_staff.1, xI cy ((L 6)) 8 b_staff.2.1, xI cy ((L 7)) 8 b_staff.2.2.1, xI cy ((L 8)) 8 b_staff.2.2.2.1, xI cy ((L 9)) 8 b_staff.2.2.2.2, xWa ((L 34)) ((L 35)) u7.2.1 u7.2.2.1 u7.2.2.2.1 u7.2.2.2.2.1 u7.2.2.2.2.2.1 u7.2.2.2.2.2.2.1 u7.2.2.2.2.2.2.2.1 u7.2.2.2.2.2.2.2.2, xTe ((L 35)) u7.1, xI cy ((L 46)) 48 b_plan]) C hw hr hQ dX7_walkCode_83
  have J5 : ∀ (n : Nat), ∀ (v2 : Int32) (v3 : Int32) (v4 : Int32) (b_walk : TWa) (b_plan : Nat → Int32) (H : Heap) (locs : List Loc) (ls : Array Slot), zf_X7_walkCode_5 b_now b_staff n v2 v3 v4 b_walk b_plan = some res → zWd G A s.heap H locs [xU L b_seedNow b_keptSeed b_isKept, xTe ((L 1)) b_now, xSt ((L 5)) ((L 6)) ((L 7)) ((L 8)) ((L 9)) b_staff.1, xI cy ((L 6)) 8 b_staff.2.1, xI cy ((L 7)) 8 b_staff.2.2.1, xI cy ((L 8)) 8 b_staff.2.2.2.1, xI cy ((L 9)) 8 b_staff.2.2.2.2, xWa ((L 34)) ((L 35)) b_walk.2.1 b_walk.2.2.1 b_walk.2.2.2.1 b_walk.2.2.2.2.1 b_walk.2.2.2.2.2.1 b_walk.2.2.2.2.2.2.1 b_walk.2.2.2.2.2.2.2.1 b_walk.2.2.2.2.2.2.2.2, xTe ((L 35)) b_walk.1, xI cy ((L 46)) 48 b_plan] → lv_has ls 5 [(0, .ref ((L 0))), (2, .int v2), (3, .int v3), (4, .int v4)] → W p l e zr_X7_walkCode s m args below meth c H locs 0 0 Q (F0 m 5 ls []) := by
    intro n
    induction n with
    | zero =>
      intro v2 v3 v4 b_walk b_plan H locs ls hf hw hl
      rw [zf_X7_walkCode_5] at hf
      cases hf
    | succ n ih =>
      intro v2 v3 v4 b_walk b_plan H locs ls hf hw hl
      rw [zf_X7_walkCode_5] at hf
      refine lv_iload (pc := 5) hx hb dX7_walkCode_5 (lv_at hl 3 rfl) ?_
      refine lv_iload_n (pc := 7) hx hb dX7_walkCode_7 rfl (lv_at hl 1 rfl) ?_
      refine lv_icmp_ge (pc := 8) (tgt := 63) hx hb dX7_walkCode_8 (by decide) (fun q1 => ?_) (fun q1 => ?_)
      · replace hf := if_t q1 hf
        exact J63 v2 b_walk b_plan _ _ _ hf hw (lv_sub hl [0, 1] rfl)
      · replace hf := if_f q1 hf
        refine lv_iload (pc := 11) hx hb dX7_walkCode_11 (lv_at hl 3 rfl) ?_
        refine lv_aload_n (pc := 13) hx hb dX7_walkCode_13 rfl (lv_at hl 0 rfl) ?_
        refine zk_gt (pc := 14) C hw zl_X7_73 0 rfl rfl dX7_walkCode_14 ?_
        refine zk_alen (pc := 17) (v := 48) C hw 9 0 rfl rfl rfl dX7_walkCode_17 ?_
        refine lv_icmp_ge (pc := 18) (tgt := 63) hx hb dX7_walkCode_18 (by decide) (fun q2 => ?_) (fun q2 => ?_)
        · replace hf := if_t q2 hf
          exact J63 v2 b_walk b_plan _ _ _ hf hw (lv_sub hl [0, 1] rfl)
        · replace hf := if_f q2 hf
          refine lv_aload_n (pc := 21) hx hb dX7_walkCode_21 rfl (lv_at hl 0 rfl) ?_
          refine zk_gt (pc := 22) C hw zl_X7_28 0 rfl rfl dX7_walkCode_22 ?_
          refine zk_gt (pc := 25) C hw zl_X7_303 2 rfl rfl dX7_walkCode_25 ?_
          refine lv_if_le (pc := 28) (tgt := 63) hx hb dX7_walkCode_28 (by decide) (fun q3 => ?_) (fun q3 => ?_)
          · replace hf := if_t q3 hf
            exact J63 v2 b_walk b_plan _ _ _ hf hw (lv_sub hl [0, 1] rfl)
          · replace hf := if_f q3 hf
            refine lv_aload_n (pc := 31) hx hb dX7_walkCode_31 rfl (lv_at hl 0 rfl) ?_
            refine zk_gt (pc := 32) C hw zl_X7_73 0 rfl rfl dX7_walkCode_32 ?_
            refine lv_iload (pc := 35) hx hb dX7_walkCode_35 (lv_at hl 3 rfl) ?_
            refine lv_iload_n (pc := 37) hx hb dX7_walkCode_37 rfl (lv_at hl 2 rfl) ?_
            refine lv_aload_n (pc := 38) hx hb dX7_walkCode_38 rfl (lv_at hl 0 rfl) ?_
            refine zk_gt (pc := 39) C hw zl_X7_28 0 rfl rfl dX7_walkCode_39 ?_
            refine zk_gt (pc := 42) C hw zl_X7_303 2 rfl rfl dX7_walkCode_42 ?_
            obtain ⟨q4, hf⟩ := ck0 hf
            refine lv_irem (pc := 45) hx hb dX7_walkCode_45 q4 ?_
            obtain ⟨q5, hf⟩ := ck hf
            refine zk_iast (pc := 46) (w' := [xU L b_seedNow b_keptSeed b_isKept, xTe ((L 1)) b_now, xSt ((L 5)) ((L 6)) ((L 7)) ((L 8)) ((L 9)) b_staff.1, xI cy ((L 6)) 8 b_staff.2.1, xI cy ((L 7)) 8 b_staff.2.2.1, xI cy ((L 8)) 8 b_staff.2.2.2.1, xI cy ((L 9)) 8 b_staff.2.2.2.2, xWa ((L 34)) ((L 35)) b_walk.2.1 b_walk.2.2.1 b_walk.2.2.2.1 b_walk.2.2.2.2.1 b_walk.2.2.2.2.2.1 b_walk.2.2.2.2.2.2.1 b_walk.2.2.2.2.2.2.2.1 b_walk.2.2.2.2.2.2.2.2, xTe ((L 35)) b_walk.1, xI cy ((L 46)) 48 ((upd b_plan v4.toNatClampNeg ((v3 - v3 / b_staff.1 * b_staff.1))))]) C hw 9 rfl q5 rfl dX7_walkCode_46 (fun H locs hw => ?_)
            refine lv_iload_n (pc := 47) hx hb dX7_walkCode_47 rfl (lv_at hl 2 rfl) ?_
            refine lv_aload_n (pc := 48) hx hb dX7_walkCode_48 rfl (lv_at hl 0 rfl) ?_
            refine zk_gt (pc := 49) C hw zl_X7_28 0 rfl rfl dX7_walkCode_49 ?_
            refine zk_gt (pc := 52) C hw zl_X7_303 2 rfl rfl dX7_walkCode_52 ?_
            obtain ⟨q6, hf⟩ := ck0 hf
            refine lv_idiv (pc := 55) hx hb dX7_walkCode_55 q6 ?_
            refine lv_istore_n (pc := 56) (lv' := [(3, .int ((v3 / b_staff.1))), (0, .ref ((L 0))), (2, .int v2), (4, .int v4)]) hx hb dX7_walkCode_56 rfl hl (by decide) rfl (fun ls hl => ?_)
            refine lv_iinc (pc := 57) (v := (v4 + 1)) (lv' := [(4, .int ((v4 + 1))), (3, .int ((v3 / b_staff.1))), (0, .ref ((L 0))), (2, .int v2)]) hx hb dX7_walkCode_57 hl (k := 3) rfl rfl (by decide) rfl (fun ls hl => ?_)
            refine lv_goto (pc := 60) (tgt := 5) hx hb dX7_walkCode_60 (by decide) ?_
            exact ih v2 ((v3 / b_staff.1)) ((v4 + 1)) b_walk ((upd b_plan v4.toNatClampNeg ((v3 - v3 / b_staff.1 * b_staff.1)))) _ _ _ hf hw (lv_sub hl [2, 3, 1, 0] rfl)
  rw [zf_X7_walkCode] at hf
  refine lv_iload_n (pc := 0) hx hb dX7_walkCode_0 rfl (lv_at hl 1 rfl) ?_
  refine lv_istore_n (pc := 1) (lv' := [(3, .int x1), (0, .ref ((L 0))), (1, .int x1), (2, .int x2)]) hx hb dX7_walkCode_1 rfl hl (by decide) rfl (fun ls hl => ?_)
  refine lv_iconst (pc := 2) (v := 0) hx hb dX7_walkCode_2 (by decide) ?_
  refine lv_istore (pc := 3) (lv' := [(4, .int ((0 : Int32))), (3, .int x1), (0, .ref ((L 0))), (1, .int x1), (2, .int x2)]) hx hb dX7_walkCode_3 hl (by decide) rfl (fun ls hl => ?_)
  exact J5 FU x2 x1 ((0 : Int32)) b_walk b_plan _ _ _ hf hw (lv_sub hl [2, 4, 1, 0] rfl)
def zf_X7_meanRage_5 (b_now : TTe) (b_staff : TSt) : Nat → Int32 → Int32 → Int32 → Int32 → TWa → (Nat → Int32) → Option (Int32 × TWa × (Nat → Int32))
  | 0, _, _, _, _, _, _ => none
  | n + 1, v1, v2, v3, v4, b_walk, b_plan => (if v2 ≤ v4 then (if v2 ≤ 0 then some ((0 : Int32), b_walk, b_plan) else (if v2 = 0 then none else some ((((1000 : Int32) * v3) / v2), b_walk, b_plan))) else (Option.bind (zf_X7_walkCode v4 v1 b_now b_staff b_walk b_plan) (fun u4 => zf_X7_meanRage_5 b_now b_staff n v1 v2 ((v3 + u4.1.1.1)) ((v4 + 1)) u4.1 u4.2)))
def zf_X7_meanRage (x1 : Int32) (x2 : Int32) (b_now : TTe) (b_staff : TSt) (b_walk : TWa) (b_plan : Nat → Int32) : Option (Int32 × TWa × (Nat → Int32)) := zf_X7_meanRage_5 b_now b_staff FU x1 x2 ((0 : Int32)) ((0 : Int32)) b_walk b_plan
abbrev zr_X7_meanRage : Room := { frames := 5, cells := 0, slots := 0, locals := 117 }
set_option maxHeartbeats 4000000 in
set_option maxRecDepth 100000 in
theorem c_X7_meanRage (l : Launch) (G : va_G) (cy : Nat → ClassId) (tt : Nat → Nat) (L : Nat → Nat) (b_seedNow : Int32) (b_keptSeed : Int32) (b_isKept : Bool) (x1 : Int32) (x2 : Int32) (b_now : TTe) (b_staff : TSt) (b_walk : TWa) (b_plan : Nat → Int32) (res : Int32 × TWa × (Nat → Int32)) (hf : zf_X7_meanRage x1 x2 b_now b_staff b_walk b_plan = some res) : zCT l yX7_meanRage cX7_meanRage 5 (some .int) zr_X7_meanRage G cy tt [.ref ((L 0)), .int x1, .int x2] [xU L b_seedNow b_keptSeed b_isKept, xTe ((L 1)) b_now, xSt ((L 5)) ((L 6)) ((L 7)) ((L 8)) ((L 9)) b_staff.1, xI cy ((L 6)) 8 b_staff.2.1, xI cy ((L 7)) 8 b_staff.2.2.1, xI cy ((L 8)) 8 b_staff.2.2.2.1, xI cy ((L 9)) 8 b_staff.2.2.2.2, xWa ((L 34)) ((L 35)) b_walk.2.1 b_walk.2.2.1 b_walk.2.2.2.1 b_walk.2.2.2.2.1 b_walk.2.2.2.2.2.1 b_walk.2.2.2.2.2.2.1 b_walk.2.2.2.2.2.2.2.1 b_walk.2.2.2.2.2.2.2.2, xTe ((L 35)) b_walk.1, xI cy ((L 46)) 48 b_plan] (some (.int res.1)) [xU L b_seedNow b_keptSeed b_isKept, xTe ((L 1)) b_now, xSt ((L 5)) ((L 6)) ((L 7)) ((L 8)) ((L 9)) b_staff.1, xI cy ((L 6)) 8 b_staff.2.1, xI cy ((L 7)) 8 b_staff.2.2.1, xI cy ((L 8)) 8 b_staff.2.2.2.1, xI cy ((L 9)) 8 b_staff.2.2.2.2, xWa ((L 34)) ((L 35)) res.2.1.2.1 res.2.1.2.2.1 res.2.1.2.2.2.1 res.2.1.2.2.2.2.1 res.2.1.2.2.2.2.2.1 res.2.1.2.2.2.2.2.2.1 res.2.1.2.2.2.2.2.2.2.1 res.2.1.2.2.2.2.2.2.2.2, xTe ((L 35)) res.2.1.1, xI cy ((L 46)) 48 res.2.2] := by
  refine zk_start zn_X7 (Nat.le_of_ble_eq_true rfl) ?_
  intro p e s m args below meth c A ls Q C hr hQ hw hl
  have C : zCx p m c s args meth cX7_meanRage 5 RX7 G cy tt A := C
  have hx := C.1.1
  have hb := C.1.2.1
  have hl : lv_has ls 5 [(0, .ref ((L 0))), (1, .int x1), (2, .int x2)] := hl
  have J5 : ∀ (n : Nat), ∀ (v1 : Int32) (v2 : Int32) (v3 : Int32) (v4 : Int32) (b_walk : TWa) (b_plan : Nat → Int32) (H : Heap) (locs : List Loc) (ls : Array Slot), zf_X7_meanRage_5 b_now b_staff n v1 v2 v3 v4 b_walk b_plan = some res → zWd G A s.heap H locs [xU L b_seedNow b_keptSeed b_isKept, xTe ((L 1)) b_now, xSt ((L 5)) ((L 6)) ((L 7)) ((L 8)) ((L 9)) b_staff.1, xI cy ((L 6)) 8 b_staff.2.1, xI cy ((L 7)) 8 b_staff.2.2.1, xI cy ((L 8)) 8 b_staff.2.2.2.1, xI cy ((L 9)) 8 b_staff.2.2.2.2, xWa ((L 34)) ((L 35)) b_walk.2.1 b_walk.2.2.1 b_walk.2.2.2.1 b_walk.2.2.2.2.1 b_walk.2.2.2.2.2.1 b_walk.2.2.2.2.2.2.1 b_walk.2.2.2.2.2.2.2.1 b_walk.2.2.2.2.2.2.2.2, xTe ((L 35)) b_walk.1, xI cy ((L 46)) 48 b_plan] → lv_has ls 5 [(0, .ref ((L 0))), (1, .int v1), (2, .int v2), (3, .int v3), (4, .int v4)] → W p l e zr_X7_meanRage s m args below meth c H locs 0 0 Q (F0 m 5 ls []) := by
    intro n
    induction n with
    | zero =>
      intro v1 v2 v3 v4 b_walk b_plan H locs ls hf hw hl
      rw [zf_X7_meanRage_5] at hf
      cases hf
    | succ n ih =>
      intro v1 v2 v3 v4 b_walk b_plan H locs ls hf hw hl
      rw [zf_X7_meanRage_5] at hf
      refine lv_iload (pc := 5) hx hb dX7_meanRage_5 (lv_at hl 4 rfl) ?_
      refine lv_iload_n (pc := 7) hx hb dX7_meanRage_7 rfl (lv_at hl 2 rfl) ?_
      refine lv_icmp_ge (pc := 8) (tgt := 37) hx hb dX7_meanRage_8 (by decide) (fun q1 => ?_) (fun q1 => ?_)
      · replace hf := if_t q1 hf
        refine lv_iload_n (pc := 37) hx hb dX7_meanRage_37 rfl (lv_at hl 2 rfl) ?_
        refine lv_if_le (pc := 38) (tgt := 51) hx hb dX7_meanRage_38 (by decide) (fun q2 => ?_) (fun q2 => ?_)
        · replace hf := if_t q2 hf
          refine lv_iconst (pc := 51) (v := 0) hx hb dX7_meanRage_51 (by decide) ?_
          have hf := Option.some.inj hf
          subst hf
          exact zk_reti (pc := 52) (ww := [xU L b_seedNow b_keptSeed b_isKept, xTe ((L 1)) b_now, xSt ((L 5)) ((L 6)) ((L 7)) ((L 8)) ((L 9)) b_staff.1, xI cy ((L 6)) 8 b_staff.2.1, xI cy ((L 7)) 8 b_staff.2.2.1, xI cy ((L 8)) 8 b_staff.2.2.2.1, xI cy ((L 9)) 8 b_staff.2.2.2.2, xWa ((L 34)) ((L 35)) b_walk.2.1 b_walk.2.2.1 b_walk.2.2.2.1 b_walk.2.2.2.2.1 b_walk.2.2.2.2.2.1 b_walk.2.2.2.2.2.2.1 b_walk.2.2.2.2.2.2.2.1 b_walk.2.2.2.2.2.2.2.2, xTe ((L 35)) b_walk.1, xI cy ((L 46)) 48 b_plan]) C hw hr hQ dX7_meanRage_52
        · replace hf := if_f q2 hf
          refine lv_sipush (pc := 41) (v := 1000) hx hb dX7_meanRage_41 (by decide) ?_
          refine lv_iload_n (pc := 44) hx hb dX7_meanRage_44 rfl (lv_at hl 3 rfl) ?_
          refine lv_imul (pc := 45) hx hb dX7_meanRage_45 ?_
          refine lv_iload_n (pc := 46) hx hb dX7_meanRage_46 rfl (lv_at hl 2 rfl) ?_
          obtain ⟨q3, hf⟩ := ck0 hf
          refine lv_idiv (pc := 47) hx hb dX7_meanRage_47 q3 ?_
          refine lv_goto (pc := 48) (tgt := 52) hx hb dX7_meanRage_48 (by decide) ?_
          have hf := Option.some.inj hf
          subst hf
          exact zk_reti (pc := 52) (ww := [xU L b_seedNow b_keptSeed b_isKept, xTe ((L 1)) b_now, xSt ((L 5)) ((L 6)) ((L 7)) ((L 8)) ((L 9)) b_staff.1, xI cy ((L 6)) 8 b_staff.2.1, xI cy ((L 7)) 8 b_staff.2.2.1, xI cy ((L 8)) 8 b_staff.2.2.2.1, xI cy ((L 9)) 8 b_staff.2.2.2.2, xWa ((L 34)) ((L 35)) b_walk.2.1 b_walk.2.2.1 b_walk.2.2.2.1 b_walk.2.2.2.2.1 b_walk.2.2.2.2.2.1 b_walk.2.2.2.2.2.2.1 b_walk.2.2.2.2.2.2.2.1 b_walk.2.2.2.2.2.2.2.2, xTe ((L 35)) b_walk.1, xI cy ((L 46)) 48 b_plan]) C hw hr hQ dX7_meanRage_52
      · replace hf := if_f q1 hf
        refine lv_aload_n (pc := 11) hx hb dX7_meanRage_11 rfl (lv_at hl 0 rfl) ?_
        refine lv_iload (pc := 12) hx hb dX7_meanRage_12 (lv_at hl 4 rfl) ?_
        refine lv_iload_n (pc := 14) hx hb dX7_meanRage_14 rfl (lv_at hl 1 rfl) ?_
        obtain ⟨u4, u4e, hf⟩ := bd hf
        refine zk_cV (pc := 15) (ci := 7) (q0 := 0) (rest := []) (st1 := []) (w' := [xU L b_seedNow b_keptSeed b_isKept, xTe ((L 1)) b_now, xSt ((L 5)) ((L 6)) ((L 7)) ((L 8)) ((L 9)) b_staff.1, xI cy ((L 6)) 8 b_staff.2.1, xI cy ((L 7)) 8 b_staff.2.2.1, xI cy ((L 8)) 8 b_staff.2.2.2.1, xI cy ((L 9)) 8 b_staff.2.2.2.2, xWa ((L 34)) ((L 35)) u4.1.2.1 u4.1.2.2.1 u4.1.2.2.2.1 u4.1.2.2.2.2.1 u4.1.2.2.2.2.2.1 u4.1.2.2.2.2.2.2.1 u4.1.2.2.2.2.2.2.2.1 u4.1.2.2.2.2.2.2.2.2, xTe ((L 35)) u4.1.1, xI cy ((L 46)) 48 u4.2]) (mk := [none, none, none, none, none, none, none, some (xWa ((L 34)) ((L 35)) u4.1.2.1 u4.1.2.2.1 u4.1.2.2.2.1 u4.1.2.2.2.2.1 u4.1.2.2.2.2.2.1 u4.1.2.2.2.2.2.2.1 u4.1.2.2.2.2.2.2.2.1 u4.1.2.2.2.2.2.2.2.2), some (xTe ((L 35)) u4.1.1), some (xI cy ((L 46)) 48 u4.2)]) C hw (c_X7_walkCode l G cy tt L b_seedNow b_keptSeed b_isKept v4 v1 b_now b_staff b_walk b_plan _ u4e) zy_X7_walkCode zm_X7_411 rfl rfl rfl [0, 1, 2, 3, 4, 5, 6, 7, 8, 9] rfl rfl rfl rfl rfl rfl rfl rfl hl.1 ⟨rfl, rfl⟩ ⟨Nat.le_of_ble_eq_true rfl, Nat.le_of_ble_eq_true rfl⟩ rfl (Nat.le_of_ble_eq_true rfl) ⟨Nat.zero_le _, Nat.zero_le _⟩ dX7_meanRage_15 (fun H locs hw => ?_)
        refine lv_iload_n (pc := 18) hx hb dX7_meanRage_18 rfl (lv_at hl 3 rfl) ?_
        refine lv_aload_n (pc := 19) hx hb dX7_meanRage_19 rfl (lv_at hl 0 rfl) ?_
        refine zk_gt (pc := 20) C hw zl_X7_55 0 rfl rfl dX7_meanRage_20 ?_
        refine zk_gt (pc := 23) C hw zl_X7_256 7 rfl rfl dX7_meanRage_23 ?_
        refine zk_gt (pc := 26) C hw zl_X7_330 8 rfl rfl dX7_meanRage_26 ?_
        refine lv_iadd (pc := 29) hx hb dX7_meanRage_29 ?_
        refine lv_istore_n (pc := 30) (lv' := [(3, .int ((v3 + u4.1.1.1))), (0, .ref ((L 0))), (1, .int v1), (2, .int v2), (4, .int v4)]) hx hb dX7_meanRage_30 rfl hl (by decide) rfl (fun ls hl => ?_)
        refine lv_iinc (pc := 31) (v := (v4 + 1)) (lv' := [(4, .int ((v4 + 1))), (3, .int ((v3 + u4.1.1.1))), (0, .ref ((L 0))), (1, .int v1), (2, .int v2)]) hx hb dX7_meanRage_31 hl (k := 4) rfl rfl (by decide) rfl (fun ls hl => ?_)
        refine lv_goto (pc := 34) (tgt := 5) hx hb dX7_meanRage_34 (by decide) ?_
        exact ih v1 v2 ((v3 + u4.1.1.1)) ((v4 + 1)) u4.1 u4.2 _ _ _ hf hw (lv_sub hl [2, 3, 4, 1, 0] rfl)
  rw [zf_X7_meanRage] at hf
  refine lv_iconst (pc := 0) (v := 0) hx hb dX7_meanRage_0 (by decide) ?_
  refine lv_istore_n (pc := 1) (lv' := [(3, .int ((0 : Int32))), (0, .ref ((L 0))), (1, .int x1), (2, .int x2)]) hx hb dX7_meanRage_1 rfl hl (by decide) rfl (fun ls hl => ?_)
  refine lv_iconst (pc := 2) (v := 0) hx hb dX7_meanRage_2 (by decide) ?_
  refine lv_istore (pc := 3) (lv' := [(4, .int ((0 : Int32))), (3, .int ((0 : Int32))), (0, .ref ((L 0))), (1, .int x1), (2, .int x2)]) hx hb dX7_meanRage_3 hl (by decide) rfl (fun ls hl => ?_)
  exact J5 FU x1 x2 ((0 : Int32)) ((0 : Int32)) b_walk b_plan _ _ _ hf hw (lv_sub hl [2, 3, 4, 1, 0] rfl)
def zf_X7_harmOdds_31 (b_now : TTe) (b_staff : TSt) (k5 : Int32 → Int32 → Int32 → Int32 → TWa → (Nat → Int32) → Option (Int32 × TWa × (Nat → Int32))) (v1 : Int32) (v2 : Int32) (v3 : Int32) (v4 : Int32) (b_walk : TWa) (b_plan : Nat → Int32) : Option (Int32 × TWa × (Nat → Int32)) := k5 v1 v2 v3 ((v4 + 1)) b_walk b_plan
def zf_X7_harmOdds_5 (b_now : TTe) (b_staff : TSt) : Nat → Int32 → Int32 → Int32 → Int32 → TWa → (Nat → Int32) → Option (Int32 × TWa × (Nat → Int32))
  | 0, _, _, _, _, _, _ => none
  | n + 1, v1, v2, v3, v4, b_walk, b_plan => (if v2 ≤ v4 then (if v2 ≤ 0 then some ((0 : Int32), b_walk, b_plan) else (if v2 = 0 then none else some ((((1000000 : Int32) * v3) / v2), b_walk, b_plan))) else (Option.bind (zf_X7_walkCode v4 v1 b_now b_staff b_walk b_plan) (fun u4 => (if u4.1.2.1 ≤ 0 then zf_X7_harmOdds_31 b_now b_staff (zf_X7_harmOdds_5 b_now b_staff n) v1 v2 v3 v4 u4.1 u4.2 else zf_X7_harmOdds_31 b_now b_staff (zf_X7_harmOdds_5 b_now b_staff n) v1 v2 ((v3 + 1)) v4 u4.1 u4.2))))
def zf_X7_harmOdds (x1 : Int32) (x2 : Int32) (b_now : TTe) (b_staff : TSt) (b_walk : TWa) (b_plan : Nat → Int32) : Option (Int32 × TWa × (Nat → Int32)) := zf_X7_harmOdds_5 b_now b_staff FU x1 x2 ((0 : Int32)) ((0 : Int32)) b_walk b_plan
abbrev zr_X7_harmOdds : Room := { frames := 5, cells := 0, slots := 0, locals := 117 }
set_option maxHeartbeats 4000000 in
set_option maxRecDepth 100000 in
theorem c_X7_harmOdds (l : Launch) (G : va_G) (cy : Nat → ClassId) (tt : Nat → Nat) (L : Nat → Nat) (b_seedNow : Int32) (b_keptSeed : Int32) (b_isKept : Bool) (x1 : Int32) (x2 : Int32) (b_now : TTe) (b_staff : TSt) (b_walk : TWa) (b_plan : Nat → Int32) (res : Int32 × TWa × (Nat → Int32)) (hf : zf_X7_harmOdds x1 x2 b_now b_staff b_walk b_plan = some res) : zCT l yX7_harmOdds cX7_harmOdds 5 (some .int) zr_X7_harmOdds G cy tt [.ref ((L 0)), .int x1, .int x2] [xU L b_seedNow b_keptSeed b_isKept, xTe ((L 1)) b_now, xSt ((L 5)) ((L 6)) ((L 7)) ((L 8)) ((L 9)) b_staff.1, xI cy ((L 6)) 8 b_staff.2.1, xI cy ((L 7)) 8 b_staff.2.2.1, xI cy ((L 8)) 8 b_staff.2.2.2.1, xI cy ((L 9)) 8 b_staff.2.2.2.2, xWa ((L 34)) ((L 35)) b_walk.2.1 b_walk.2.2.1 b_walk.2.2.2.1 b_walk.2.2.2.2.1 b_walk.2.2.2.2.2.1 b_walk.2.2.2.2.2.2.1 b_walk.2.2.2.2.2.2.2.1 b_walk.2.2.2.2.2.2.2.2, xTe ((L 35)) b_walk.1, xI cy ((L 46)) 48 b_plan] (some (.int res.1)) [xU L b_seedNow b_keptSeed b_isKept, xTe ((L 1)) b_now, xSt ((L 5)) ((L 6)) ((L 7)) ((L 8)) ((L 9)) b_staff.1, xI cy ((L 6)) 8 b_staff.2.1, xI cy ((L 7)) 8 b_staff.2.2.1, xI cy ((L 8)) 8 b_staff.2.2.2.1, xI cy ((L 9)) 8 b_staff.2.2.2.2, xWa ((L 34)) ((L 35)) res.2.1.2.1 res.2.1.2.2.1 res.2.1.2.2.2.1 res.2.1.2.2.2.2.1 res.2.1.2.2.2.2.2.1 res.2.1.2.2.2.2.2.2.1 res.2.1.2.2.2.2.2.2.2.1 res.2.1.2.2.2.2.2.2.2.2, xTe ((L 35)) res.2.1.1, xI cy ((L 46)) 48 res.2.2] := by
  refine zk_start zn_X7 (Nat.le_of_ble_eq_true rfl) ?_
  intro p e s m args below meth c A ls Q C hr hQ hw hl
  have C : zCx p m c s args meth cX7_harmOdds 5 RX7 G cy tt A := C
  have hx := C.1.1
  have hb := C.1.2.1
  have hl : lv_has ls 5 [(0, .ref ((L 0))), (1, .int x1), (2, .int x2)] := hl
  have J31 : ∀ (k5 : Int32 → Int32 → Int32 → Int32 → TWa → (Nat → Int32) → Option (Int32 × TWa × (Nat → Int32))) (K5 : ∀ (v1 : Int32) (v2 : Int32) (v3 : Int32) (v4 : Int32) (b_walk : TWa) (b_plan : Nat → Int32) (H : Heap) (locs : List Loc) (ls : Array Slot), k5 v1 v2 v3 v4 b_walk b_plan = some res → zWd G A s.heap H locs [xU L b_seedNow b_keptSeed b_isKept, xTe ((L 1)) b_now, xSt ((L 5)) ((L 6)) ((L 7)) ((L 8)) ((L 9)) b_staff.1, xI cy ((L 6)) 8 b_staff.2.1, xI cy ((L 7)) 8 b_staff.2.2.1, xI cy ((L 8)) 8 b_staff.2.2.2.1, xI cy ((L 9)) 8 b_staff.2.2.2.2, xWa ((L 34)) ((L 35)) b_walk.2.1 b_walk.2.2.1 b_walk.2.2.2.1 b_walk.2.2.2.2.1 b_walk.2.2.2.2.2.1 b_walk.2.2.2.2.2.2.1 b_walk.2.2.2.2.2.2.2.1 b_walk.2.2.2.2.2.2.2.2, xTe ((L 35)) b_walk.1, xI cy ((L 46)) 48 b_plan] → lv_has ls 5 [(0, .ref ((L 0))), (1, .int v1), (2, .int v2), (3, .int v3), (4, .int v4)] → W p l e zr_X7_harmOdds s m args below meth c H locs 0 0 Q (F0 m 5 ls [])), ∀ (v1 : Int32) (v2 : Int32) (v3 : Int32) (v4 : Int32) (b_walk : TWa) (b_plan : Nat → Int32) (H : Heap) (locs : List Loc) (ls : Array Slot), zf_X7_harmOdds_31 b_now b_staff k5 v1 v2 v3 v4 b_walk b_plan = some res → zWd G A s.heap H locs [xU L b_seedNow b_keptSeed b_isKept, xTe ((L 1)) b_now, xSt ((L 5)) ((L 6)) ((L 7)) ((L 8)) ((L 9)) b_staff.1, xI cy ((L 6)) 8 b_staff.2.1, xI cy ((L 7)) 8 b_staff.2.2.1, xI cy ((L 8)) 8 b_staff.2.2.2.1, xI cy ((L 9)) 8 b_staff.2.2.2.2, xWa ((L 34)) ((L 35)) b_walk.2.1 b_walk.2.2.1 b_walk.2.2.2.1 b_walk.2.2.2.2.1 b_walk.2.2.2.2.2.1 b_walk.2.2.2.2.2.2.1 b_walk.2.2.2.2.2.2.2.1 b_walk.2.2.2.2.2.2.2.2, xTe ((L 35)) b_walk.1, xI cy ((L 46)) 48 b_plan] → lv_has ls 5 [(0, .ref ((L 0))), (1, .int v1), (2, .int v2), (3, .int v3), (4, .int v4)] → W p l e zr_X7_harmOdds s m args below meth c H locs 0 0 Q (F0 m 31 ls []) := by
    intro k5 K5 v1 v2 v3 v4 b_walk b_plan H locs ls hf hw hl
    rw [zf_X7_harmOdds_31] at hf
    refine lv_iinc (pc := 31) (v := (v4 + 1)) (lv' := [(4, .int ((v4 + 1))), (0, .ref ((L 0))), (1, .int v1), (2, .int v2), (3, .int v3)]) hx hb dX7_harmOdds_31 hl (k := 4) rfl rfl (by decide) rfl (fun ls hl => ?_)
    refine lv_goto (pc := 34) (tgt := 5) hx hb dX7_harmOdds_34 (by decide) ?_
    exact K5 v1 v2 v3 ((v4 + 1)) b_walk b_plan _ _ _ hf hw (lv_sub hl [1, 2, 3, 4, 0] rfl)
  have J5 : ∀ (n : Nat), ∀ (v1 : Int32) (v2 : Int32) (v3 : Int32) (v4 : Int32) (b_walk : TWa) (b_plan : Nat → Int32) (H : Heap) (locs : List Loc) (ls : Array Slot), zf_X7_harmOdds_5 b_now b_staff n v1 v2 v3 v4 b_walk b_plan = some res → zWd G A s.heap H locs [xU L b_seedNow b_keptSeed b_isKept, xTe ((L 1)) b_now, xSt ((L 5)) ((L 6)) ((L 7)) ((L 8)) ((L 9)) b_staff.1, xI cy ((L 6)) 8 b_staff.2.1, xI cy ((L 7)) 8 b_staff.2.2.1, xI cy ((L 8)) 8 b_staff.2.2.2.1, xI cy ((L 9)) 8 b_staff.2.2.2.2, xWa ((L 34)) ((L 35)) b_walk.2.1 b_walk.2.2.1 b_walk.2.2.2.1 b_walk.2.2.2.2.1 b_walk.2.2.2.2.2.1 b_walk.2.2.2.2.2.2.1 b_walk.2.2.2.2.2.2.2.1 b_walk.2.2.2.2.2.2.2.2, xTe ((L 35)) b_walk.1, xI cy ((L 46)) 48 b_plan] → lv_has ls 5 [(0, .ref ((L 0))), (1, .int v1), (2, .int v2), (3, .int v3), (4, .int v4)] → W p l e zr_X7_harmOdds s m args below meth c H locs 0 0 Q (F0 m 5 ls []) := by
    intro n
    induction n with
    | zero =>
      intro v1 v2 v3 v4 b_walk b_plan H locs ls hf hw hl
      rw [zf_X7_harmOdds_5] at hf
      cases hf
    | succ n ih =>
      intro v1 v2 v3 v4 b_walk b_plan H locs ls hf hw hl
      rw [zf_X7_harmOdds_5] at hf
      refine lv_iload (pc := 5) hx hb dX7_harmOdds_5 (lv_at hl 4 rfl) ?_
      refine lv_iload_n (pc := 7) hx hb dX7_harmOdds_7 rfl (lv_at hl 2 rfl) ?_
      refine lv_icmp_ge (pc := 8) (tgt := 37) hx hb dX7_harmOdds_8 (by decide) (fun q1 => ?_) (fun q1 => ?_)
      · replace hf := if_t q1 hf
        refine lv_iload_n (pc := 37) hx hb dX7_harmOdds_37 rfl (lv_at hl 2 rfl) ?_
        refine lv_if_le (pc := 38) (tgt := 50) hx hb dX7_harmOdds_38 (by decide) (fun q2 => ?_) (fun q2 => ?_)
        · replace hf := if_t q2 hf
          refine lv_iconst (pc := 50) (v := 0) hx hb dX7_harmOdds_50 (by decide) ?_
          have hf := Option.some.inj hf
          subst hf
          exact zk_reti (pc := 51) (ww := [xU L b_seedNow b_keptSeed b_isKept, xTe ((L 1)) b_now, xSt ((L 5)) ((L 6)) ((L 7)) ((L 8)) ((L 9)) b_staff.1, xI cy ((L 6)) 8 b_staff.2.1, xI cy ((L 7)) 8 b_staff.2.2.1, xI cy ((L 8)) 8 b_staff.2.2.2.1, xI cy ((L 9)) 8 b_staff.2.2.2.2, xWa ((L 34)) ((L 35)) b_walk.2.1 b_walk.2.2.1 b_walk.2.2.2.1 b_walk.2.2.2.2.1 b_walk.2.2.2.2.2.1 b_walk.2.2.2.2.2.2.1 b_walk.2.2.2.2.2.2.2.1 b_walk.2.2.2.2.2.2.2.2, xTe ((L 35)) b_walk.1, xI cy ((L 46)) 48 b_plan]) C hw hr hQ dX7_harmOdds_51
        · replace hf := if_f q2 hf
          refine lv_ldc (pc := 41) (v := 1000000) hx hb C.1.2.2.2.1 (C.1.2.2.2.2 _ zc_X7_232) dX7_harmOdds_41 ?_
          refine lv_iload_n (pc := 43) hx hb dX7_harmOdds_43 rfl (lv_at hl 3 rfl) ?_
          refine lv_imul (pc := 44) hx hb dX7_harmOdds_44 ?_
          refine lv_iload_n (pc := 45) hx hb dX7_harmOdds_45 rfl (lv_at hl 2 rfl) ?_
          obtain ⟨q3, hf⟩ := ck0 hf
          refine lv_idiv (pc := 46) hx hb dX7_harmOdds_46 q3 ?_
          refine lv_goto (pc := 47) (tgt := 51) hx hb dX7_harmOdds_47 (by decide) ?_
          have hf := Option.some.inj hf
          subst hf
          exact zk_reti (pc := 51) (ww := [xU L b_seedNow b_keptSeed b_isKept, xTe ((L 1)) b_now, xSt ((L 5)) ((L 6)) ((L 7)) ((L 8)) ((L 9)) b_staff.1, xI cy ((L 6)) 8 b_staff.2.1, xI cy ((L 7)) 8 b_staff.2.2.1, xI cy ((L 8)) 8 b_staff.2.2.2.1, xI cy ((L 9)) 8 b_staff.2.2.2.2, xWa ((L 34)) ((L 35)) b_walk.2.1 b_walk.2.2.1 b_walk.2.2.2.1 b_walk.2.2.2.2.1 b_walk.2.2.2.2.2.1 b_walk.2.2.2.2.2.2.1 b_walk.2.2.2.2.2.2.2.1 b_walk.2.2.2.2.2.2.2.2, xTe ((L 35)) b_walk.1, xI cy ((L 46)) 48 b_plan]) C hw hr hQ dX7_harmOdds_51
      · replace hf := if_f q1 hf
        refine lv_aload_n (pc := 11) hx hb dX7_harmOdds_11 rfl (lv_at hl 0 rfl) ?_
        refine lv_iload (pc := 12) hx hb dX7_harmOdds_12 (lv_at hl 4 rfl) ?_
        refine lv_iload_n (pc := 14) hx hb dX7_harmOdds_14 rfl (lv_at hl 1 rfl) ?_
        obtain ⟨u4, u4e, hf⟩ := bd hf
        refine zk_cV (pc := 15) (ci := 7) (q0 := 0) (rest := []) (st1 := []) (w' := [xU L b_seedNow b_keptSeed b_isKept, xTe ((L 1)) b_now, xSt ((L 5)) ((L 6)) ((L 7)) ((L 8)) ((L 9)) b_staff.1, xI cy ((L 6)) 8 b_staff.2.1, xI cy ((L 7)) 8 b_staff.2.2.1, xI cy ((L 8)) 8 b_staff.2.2.2.1, xI cy ((L 9)) 8 b_staff.2.2.2.2, xWa ((L 34)) ((L 35)) u4.1.2.1 u4.1.2.2.1 u4.1.2.2.2.1 u4.1.2.2.2.2.1 u4.1.2.2.2.2.2.1 u4.1.2.2.2.2.2.2.1 u4.1.2.2.2.2.2.2.2.1 u4.1.2.2.2.2.2.2.2.2, xTe ((L 35)) u4.1.1, xI cy ((L 46)) 48 u4.2]) (mk := [none, none, none, none, none, none, none, some (xWa ((L 34)) ((L 35)) u4.1.2.1 u4.1.2.2.1 u4.1.2.2.2.1 u4.1.2.2.2.2.1 u4.1.2.2.2.2.2.1 u4.1.2.2.2.2.2.2.1 u4.1.2.2.2.2.2.2.2.1 u4.1.2.2.2.2.2.2.2.2), some (xTe ((L 35)) u4.1.1), some (xI cy ((L 46)) 48 u4.2)]) C hw (c_X7_walkCode l G cy tt L b_seedNow b_keptSeed b_isKept v4 v1 b_now b_staff b_walk b_plan _ u4e) zy_X7_walkCode zm_X7_411 rfl rfl rfl [0, 1, 2, 3, 4, 5, 6, 7, 8, 9] rfl rfl rfl rfl rfl rfl rfl rfl hl.1 ⟨rfl, rfl⟩ ⟨Nat.le_of_ble_eq_true rfl, Nat.le_of_ble_eq_true rfl⟩ rfl (Nat.le_of_ble_eq_true rfl) ⟨Nat.zero_le _, Nat.zero_le _⟩ dX7_harmOdds_15 (fun H locs hw => ?_)
        refine lv_aload_n (pc := 18) hx hb dX7_harmOdds_18 rfl (lv_at hl 0 rfl) ?_
        refine zk_gt (pc := 19) C hw zl_X7_55 0 rfl rfl dX7_harmOdds_19 ?_
        refine zk_gt (pc := 22) C hw zl_X7_250 7 rfl rfl dX7_harmOdds_22 ?_
        refine lv_if_le (pc := 25) (tgt := 31) hx hb dX7_harmOdds_25 (by decide) (fun q5 => ?_) (fun q5 => ?_)
        · replace hf := if_t q5 hf
          exact J31 (zf_X7_harmOdds_5 b_now b_staff n) ih v1 v2 v3 v4 u4.1 u4.2 _ _ _ hf hw (lv_sub hl [0, 1, 2, 3, 4] rfl)
        · replace hf := if_f q5 hf
          refine lv_iinc (pc := 28) (v := (v3 + 1)) (lv' := [(3, .int ((v3 + 1))), (0, .ref ((L 0))), (1, .int v1), (2, .int v2), (4, .int v4)]) hx hb dX7_harmOdds_28 hl (k := 3) rfl rfl (by decide) rfl (fun ls hl => ?_)
          exact J31 (zf_X7_harmOdds_5 b_now b_staff n) ih v1 v2 ((v3 + 1)) v4 u4.1 u4.2 _ _ _ hf hw (lv_sub hl [1, 2, 3, 0, 4] rfl)
  rw [zf_X7_harmOdds] at hf
  refine lv_iconst (pc := 0) (v := 0) hx hb dX7_harmOdds_0 (by decide) ?_
  refine lv_istore_n (pc := 1) (lv' := [(3, .int ((0 : Int32))), (0, .ref ((L 0))), (1, .int x1), (2, .int x2)]) hx hb dX7_harmOdds_1 rfl hl (by decide) rfl (fun ls hl => ?_)
  refine lv_iconst (pc := 2) (v := 0) hx hb dX7_harmOdds_2 (by decide) ?_
  refine lv_istore (pc := 3) (lv' := [(4, .int ((0 : Int32))), (3, .int ((0 : Int32))), (0, .ref ((L 0))), (1, .int x1), (2, .int x2)]) hx hb dX7_harmOdds_3 hl (by decide) rfl (fun ls hl => ?_)
  exact J5 FU x1 x2 ((0 : Int32)) ((0 : Int32)) b_walk b_plan _ _ _ hf hw (lv_sub hl [2, 3, 4, 1, 0] rfl)
def zf_X7_odds_18 (b_now : TTe) (b_staff : TSt) (b_walk : TWa) (b_plan : Nat → Int32) (b_refusals : Nat → Int32) : Option (Int32 × TWa × (Nat → Int32) × (Nat → Int32)) := (Option.bind (zf_X7_refused (((-2 : Int32))) b_refusals) (fun u11 => some (u11.1, b_walk, b_plan, u11.2)))
def zf_X7_odds_47 (b_now : TTe) (b_staff : TSt) : Nat → Int32 → Int32 → Int32 → Int32 → TWa → (Nat → Int32) → (Nat → Int32) → Option (Int32 × TWa × (Nat → Int32) × (Nat → Int32))
  | 0, _, _, _, _, _, _, _ => none
  | n + 1, v1, v2, v3, v4, b_walk, b_plan, b_refusals => (if v1 ≤ v4 then (if v2 = 0 then (Option.bind (zf_X7_harmOdds v1 v3 b_now b_staff b_walk b_plan) (fun u10 => some (u10.1, u10.2.1, u10.2.2, b_refusals))) else (Option.bind (zf_X7_meanRage v1 v3 b_now b_staff b_walk b_plan) (fun u9 => some (u9.1, u9.2.1, u9.2.2, b_refusals)))) else zf_X7_odds_47 b_now b_staff n v1 v2 ((v3 * b_staff.1)) ((v4 + 1)) b_walk b_plan b_refusals)
def zf_X7_odds (x1 : Int32) (x2 : Int32) (b_now : TTe) (b_staff : TSt) (b_walk : TWa) (b_plan : Nat → Int32) (b_refusals : Nat → Int32) : Option (Int32 × TWa × (Nat → Int32) × (Nat → Int32)) := (Option.bind (zf_X7_isWithin x1 (((0 : Int32))) (((3 : Int32)))) (fun u1 => (if u1 then (Option.bind (zf_X7_isWithin x2 (((0 : Int32))) (((1 : Int32)))) (fun u3 => (if u3 then (if 0 < b_staff.1 then zf_X7_odds_47 b_now b_staff FU x1 x2 ((1 : Int32)) ((0 : Int32)) b_walk b_plan b_refusals else (Option.bind (zf_X7_refused (((-5 : Int32))) b_refusals) (fun u6 => some (u6.1, b_walk, b_plan, u6.2)))) else zf_X7_odds_18 b_now b_staff b_walk b_plan b_refusals))) else zf_X7_odds_18 b_now b_staff b_walk b_plan b_refusals)))
abbrev zr_X7_odds : Room := { frames := 6, cells := 0, slots := 0, locals := 141 }
set_option maxHeartbeats 4000000 in
set_option maxRecDepth 100000 in
theorem c_X7_odds (l : Launch) (G : va_G) (cy : Nat → ClassId) (tt : Nat → Nat) (L : Nat → Nat) (b_seedNow : Int32) (b_keptSeed : Int32) (b_isKept : Bool) (x1 : Int32) (x2 : Int32) (b_now : TTe) (b_staff : TSt) (b_walk : TWa) (b_plan : Nat → Int32) (b_refusals : Nat → Int32) (res : Int32 × TWa × (Nat → Int32) × (Nat → Int32)) (hf : zf_X7_odds x1 x2 b_now b_staff b_walk b_plan b_refusals = some res) : zCT l yX7_odds cX7_odds 5 (some .int) zr_X7_odds G cy tt [.ref ((L 0)), .int x1, .int x2] [xU L b_seedNow b_keptSeed b_isKept, xTe ((L 1)) b_now, xSt ((L 5)) ((L 6)) ((L 7)) ((L 8)) ((L 9)) b_staff.1, xI cy ((L 6)) 8 b_staff.2.1, xI cy ((L 7)) 8 b_staff.2.2.1, xI cy ((L 8)) 8 b_staff.2.2.2.1, xI cy ((L 9)) 8 b_staff.2.2.2.2, xWa ((L 34)) ((L 35)) b_walk.2.1 b_walk.2.2.1 b_walk.2.2.2.1 b_walk.2.2.2.2.1 b_walk.2.2.2.2.2.1 b_walk.2.2.2.2.2.2.1 b_walk.2.2.2.2.2.2.2.1 b_walk.2.2.2.2.2.2.2.2, xTe ((L 35)) b_walk.1, xI cy ((L 46)) 48 b_plan, xI cy ((L 48)) 5 b_refusals] (some (.int res.1)) [xU L b_seedNow b_keptSeed b_isKept, xTe ((L 1)) b_now, xSt ((L 5)) ((L 6)) ((L 7)) ((L 8)) ((L 9)) b_staff.1, xI cy ((L 6)) 8 b_staff.2.1, xI cy ((L 7)) 8 b_staff.2.2.1, xI cy ((L 8)) 8 b_staff.2.2.2.1, xI cy ((L 9)) 8 b_staff.2.2.2.2, xWa ((L 34)) ((L 35)) res.2.1.2.1 res.2.1.2.2.1 res.2.1.2.2.2.1 res.2.1.2.2.2.2.1 res.2.1.2.2.2.2.2.1 res.2.1.2.2.2.2.2.2.1 res.2.1.2.2.2.2.2.2.2.1 res.2.1.2.2.2.2.2.2.2.2, xTe ((L 35)) res.2.1.1, xI cy ((L 46)) 48 res.2.2.1, xI cy ((L 48)) 5 res.2.2.2] := by
  refine zk_start zn_X7 (Nat.le_of_ble_eq_true rfl) ?_
  intro p e s m args below meth c A ls Q C hr hQ hw hl
  have C : zCx p m c s args meth cX7_odds 5 RX7 G cy tt A := C
  have hx := C.1.1
  have hb := C.1.2.1
  have hl : lv_has ls 5 [(0, .ref ((L 0))), (1, .int x1), (2, .int x2)] := hl
  have J18 : ∀ (b_walk : TWa) (b_plan : Nat → Int32) (b_refusals : Nat → Int32) (H : Heap) (locs : List Loc) (ls : Array Slot), zf_X7_odds_18 b_now b_staff b_walk b_plan b_refusals = some res → zWd G A s.heap H locs [xU L b_seedNow b_keptSeed b_isKept, xTe ((L 1)) b_now, xSt ((L 5)) ((L 6)) ((L 7)) ((L 8)) ((L 9)) b_staff.1, xI cy ((L 6)) 8 b_staff.2.1, xI cy ((L 7)) 8 b_staff.2.2.1, xI cy ((L 8)) 8 b_staff.2.2.2.1, xI cy ((L 9)) 8 b_staff.2.2.2.2, xWa ((L 34)) ((L 35)) b_walk.2.1 b_walk.2.2.1 b_walk.2.2.2.1 b_walk.2.2.2.2.1 b_walk.2.2.2.2.2.1 b_walk.2.2.2.2.2.2.1 b_walk.2.2.2.2.2.2.2.1 b_walk.2.2.2.2.2.2.2.2, xTe ((L 35)) b_walk.1, xI cy ((L 46)) 48 b_plan, xI cy ((L 48)) 5 b_refusals] → lv_has ls 5 [(0, .ref ((L 0)))] → W p l e zr_X7_odds s m args below meth c H locs 0 0 Q (F0 m 18 ls []) := by
    intro b_walk b_plan b_refusals H locs ls hf hw hl
    rw [zf_X7_odds_18] at hf
    refine lv_aload_n (pc := 18) hx hb dX7_odds_18 rfl (lv_at hl 0 rfl) ?_
    refine lv_bipush (pc := 19) (v := -2) hx hb dX7_odds_19 (by decide) ?_
    obtain ⟨u11, u11e, hf⟩ := bd hf
    refine zk_cV (pc := 21) (ci := 7) (q0 := 0) (rest := []) (st1 := [.int u11.1]) (w' := [xU L b_seedNow b_keptSeed b_isKept, xTe ((L 1)) b_now, xSt ((L 5)) ((L 6)) ((L 7)) ((L 8)) ((L 9)) b_staff.1, xI cy ((L 6)) 8 b_staff.2.1, xI cy ((L 7)) 8 b_staff.2.2.1, xI cy ((L 8)) 8 b_staff.2.2.2.1, xI cy ((L 9)) 8 b_staff.2.2.2.2, xWa ((L 34)) ((L 35)) b_walk.2.1 b_walk.2.2.1 b_walk.2.2.2.1 b_walk.2.2.2.2.1 b_walk.2.2.2.2.2.1 b_walk.2.2.2.2.2.2.1 b_walk.2.2.2.2.2.2.2.1 b_walk.2.2.2.2.2.2.2.2, xTe ((L 35)) b_walk.1, xI cy ((L 46)) 48 b_plan, xI cy ((L 48)) 5 u11.2]) (mk := [none, none, none, none, none, none, none, none, none, none, some (xI cy ((L 48)) 5 u11.2)]) C hw (c_X7_refused l G cy tt L b_seedNow b_keptSeed b_isKept (((-2 : Int32))) b_refusals _ u11e) zy_X7_refused zm_X7_103 rfl rfl rfl [0, 10] rfl rfl rfl rfl rfl rfl rfl rfl hl.1 ⟨rfl, rfl⟩ ⟨Nat.le_of_ble_eq_true rfl, Nat.le_of_ble_eq_true rfl⟩ rfl (Nat.le_of_ble_eq_true rfl) ⟨Nat.zero_le _, Nat.zero_le _⟩ dX7_odds_21 (fun H locs hw => ?_)
    have hf := Option.some.inj hf
    subst hf
    exact zk_reti (pc := 24) (ww := [xU L b_seedNow b_keptSeed b_isKept, xTe ((L 1)) b_now, xSt ((L 5)) ((L 6)) ((L 7)) ((L 8)) ((L 9)) b_staff.1, xI cy ((L 6)) 8 b_staff.2.1, xI cy ((L 7)) 8 b_staff.2.2.1, xI cy ((L 8)) 8 b_staff.2.2.2.1, xI cy ((L 9)) 8 b_staff.2.2.2.2, xWa ((L 34)) ((L 35)) b_walk.2.1 b_walk.2.2.1 b_walk.2.2.2.1 b_walk.2.2.2.2.1 b_walk.2.2.2.2.2.1 b_walk.2.2.2.2.2.2.1 b_walk.2.2.2.2.2.2.2.1 b_walk.2.2.2.2.2.2.2.2, xTe ((L 35)) b_walk.1, xI cy ((L 46)) 48 b_plan, xI cy ((L 48)) 5 u11.2]) C hw hr hQ dX7_odds_24
  have J47 : ∀ (n : Nat), ∀ (v1 : Int32) (v2 : Int32) (v3 : Int32) (v4 : Int32) (b_walk : TWa) (b_plan : Nat → Int32) (b_refusals : Nat → Int32) (H : Heap) (locs : List Loc) (ls : Array Slot), zf_X7_odds_47 b_now b_staff n v1 v2 v3 v4 b_walk b_plan b_refusals = some res → zWd G A s.heap H locs [xU L b_seedNow b_keptSeed b_isKept, xTe ((L 1)) b_now, xSt ((L 5)) ((L 6)) ((L 7)) ((L 8)) ((L 9)) b_staff.1, xI cy ((L 6)) 8 b_staff.2.1, xI cy ((L 7)) 8 b_staff.2.2.1, xI cy ((L 8)) 8 b_staff.2.2.2.1, xI cy ((L 9)) 8 b_staff.2.2.2.2, xWa ((L 34)) ((L 35)) b_walk.2.1 b_walk.2.2.1 b_walk.2.2.2.1 b_walk.2.2.2.2.1 b_walk.2.2.2.2.2.1 b_walk.2.2.2.2.2.2.1 b_walk.2.2.2.2.2.2.2.1 b_walk.2.2.2.2.2.2.2.2, xTe ((L 35)) b_walk.1, xI cy ((L 46)) 48 b_plan, xI cy ((L 48)) 5 b_refusals] → lv_has ls 5 [(0, .ref ((L 0))), (1, .int v1), (2, .int v2), (3, .int v3), (4, .int v4)] → W p l e zr_X7_odds s m args below meth c H locs 0 0 Q (F0 m 47 ls []) := by
    intro n
    induction n with
    | zero =>
      intro v1 v2 v3 v4 b_walk b_plan b_refusals H locs ls hf hw hl
      rw [zf_X7_odds_47] at hf
      cases hf
    | succ n ih =>
      intro v1 v2 v3 v4 b_walk b_plan b_refusals H locs ls hf hw hl
      rw [zf_X7_odds_47] at hf
      refine lv_iload (pc := 47) hx hb dX7_odds_47 (lv_at hl 4 rfl) ?_
      refine lv_iload_n (pc := 49) hx hb dX7_odds_49 rfl (lv_at hl 1 rfl) ?_
      refine lv_icmp_ge (pc := 50) (tgt := 69) hx hb dX7_odds_50 (by decide) (fun q7 => ?_) (fun q7 => ?_)
      · replace hf := if_t q7 hf
        refine lv_iload_n (pc := 69) hx hb dX7_odds_69 rfl (lv_at hl 2 rfl) ?_
        refine lv_if_ne (pc := 70) (tgt := 82) hx hb dX7_odds_70 (by decide) (fun q8 => ?_) (fun q8 => ?_)
        · replace hf := if_f q8 hf
          refine lv_aload_n (pc := 82) hx hb dX7_odds_82 rfl (lv_at hl 0 rfl) ?_
          refine lv_iload_n (pc := 83) hx hb dX7_odds_83 rfl (lv_at hl 1 rfl) ?_
          refine lv_iload_n (pc := 84) hx hb dX7_odds_84 rfl (lv_at hl 3 rfl) ?_
          obtain ⟨u9, u9e, hf⟩ := bd hf
          refine zk_cV (pc := 85) (ci := 7) (q0 := 0) (rest := []) (st1 := [.int u9.1]) (w' := [xU L b_seedNow b_keptSeed b_isKept, xTe ((L 1)) b_now, xSt ((L 5)) ((L 6)) ((L 7)) ((L 8)) ((L 9)) b_staff.1, xI cy ((L 6)) 8 b_staff.2.1, xI cy ((L 7)) 8 b_staff.2.2.1, xI cy ((L 8)) 8 b_staff.2.2.2.1, xI cy ((L 9)) 8 b_staff.2.2.2.2, xWa ((L 34)) ((L 35)) u9.2.1.2.1 u9.2.1.2.2.1 u9.2.1.2.2.2.1 u9.2.1.2.2.2.2.1 u9.2.1.2.2.2.2.2.1 u9.2.1.2.2.2.2.2.2.1 u9.2.1.2.2.2.2.2.2.2.1 u9.2.1.2.2.2.2.2.2.2.2, xTe ((L 35)) u9.2.1.1, xI cy ((L 46)) 48 u9.2.2, xI cy ((L 48)) 5 b_refusals]) (mk := [none, none, none, none, none, none, none, some (xWa ((L 34)) ((L 35)) u9.2.1.2.1 u9.2.1.2.2.1 u9.2.1.2.2.2.1 u9.2.1.2.2.2.2.1 u9.2.1.2.2.2.2.2.1 u9.2.1.2.2.2.2.2.2.1 u9.2.1.2.2.2.2.2.2.2.1 u9.2.1.2.2.2.2.2.2.2.2), some (xTe ((L 35)) u9.2.1.1), some (xI cy ((L 46)) 48 u9.2.2), none]) C hw (c_X7_meanRage l G cy tt L b_seedNow b_keptSeed b_isKept v1 v3 b_now b_staff b_walk b_plan _ u9e) zy_X7_meanRage zm_X7_327 rfl rfl rfl [0, 1, 2, 3, 4, 5, 6, 7, 8, 9] rfl rfl rfl rfl rfl rfl rfl rfl hl.1 ⟨rfl, rfl⟩ ⟨Nat.le_of_ble_eq_true rfl, Nat.le_of_ble_eq_true rfl⟩ rfl (Nat.le_of_ble_eq_true rfl) ⟨Nat.zero_le _, Nat.zero_le _⟩ dX7_odds_85 (fun H locs hw => ?_)
          have hf := Option.some.inj hf
          subst hf
          exact zk_reti (pc := 88) (ww := [xU L b_seedNow b_keptSeed b_isKept, xTe ((L 1)) b_now, xSt ((L 5)) ((L 6)) ((L 7)) ((L 8)) ((L 9)) b_staff.1, xI cy ((L 6)) 8 b_staff.2.1, xI cy ((L 7)) 8 b_staff.2.2.1, xI cy ((L 8)) 8 b_staff.2.2.2.1, xI cy ((L 9)) 8 b_staff.2.2.2.2, xWa ((L 34)) ((L 35)) u9.2.1.2.1 u9.2.1.2.2.1 u9.2.1.2.2.2.1 u9.2.1.2.2.2.2.1 u9.2.1.2.2.2.2.2.1 u9.2.1.2.2.2.2.2.2.1 u9.2.1.2.2.2.2.2.2.2.1 u9.2.1.2.2.2.2.2.2.2.2, xTe ((L 35)) u9.2.1.1, xI cy ((L 46)) 48 u9.2.2, xI cy ((L 48)) 5 b_refusals]) C hw hr hQ dX7_odds_88
        · replace hf := if_t q8 hf
          refine lv_aload_n (pc := 73) hx hb dX7_odds_73 rfl (lv_at hl 0 rfl) ?_
          refine lv_iload_n (pc := 74) hx hb dX7_odds_74 rfl (lv_at hl 1 rfl) ?_
          refine lv_iload_n (pc := 75) hx hb dX7_odds_75 rfl (lv_at hl 3 rfl) ?_
          obtain ⟨u10, u10e, hf⟩ := bd hf
          refine zk_cV (pc := 76) (ci := 7) (q0 := 0) (rest := []) (st1 := [.int u10.1]) (w' := [xU L b_seedNow b_keptSeed b_isKept, xTe ((L 1)) b_now, xSt ((L 5)) ((L 6)) ((L 7)) ((L 8)) ((L 9)) b_staff.1, xI cy ((L 6)) 8 b_staff.2.1, xI cy ((L 7)) 8 b_staff.2.2.1, xI cy ((L 8)) 8 b_staff.2.2.2.1, xI cy ((L 9)) 8 b_staff.2.2.2.2, xWa ((L 34)) ((L 35)) u10.2.1.2.1 u10.2.1.2.2.1 u10.2.1.2.2.2.1 u10.2.1.2.2.2.2.1 u10.2.1.2.2.2.2.2.1 u10.2.1.2.2.2.2.2.2.1 u10.2.1.2.2.2.2.2.2.2.1 u10.2.1.2.2.2.2.2.2.2.2, xTe ((L 35)) u10.2.1.1, xI cy ((L 46)) 48 u10.2.2, xI cy ((L 48)) 5 b_refusals]) (mk := [none, none, none, none, none, none, none, some (xWa ((L 34)) ((L 35)) u10.2.1.2.1 u10.2.1.2.2.1 u10.2.1.2.2.2.1 u10.2.1.2.2.2.2.1 u10.2.1.2.2.2.2.2.1 u10.2.1.2.2.2.2.2.2.1 u10.2.1.2.2.2.2.2.2.2.1 u10.2.1.2.2.2.2.2.2.2.2), some (xTe ((L 35)) u10.2.1.1), some (xI cy ((L 46)) 48 u10.2.2), none]) C hw (c_X7_harmOdds l G cy tt L b_seedNow b_keptSeed b_isKept v1 v3 b_now b_staff b_walk b_plan _ u10e) zy_X7_harmOdds zm_X7_324 rfl rfl rfl [0, 1, 2, 3, 4, 5, 6, 7, 8, 9] rfl rfl rfl rfl rfl rfl rfl rfl hl.1 ⟨rfl, rfl⟩ ⟨Nat.le_of_ble_eq_true rfl, Nat.le_of_ble_eq_true rfl⟩ rfl (Nat.le_of_ble_eq_true rfl) ⟨Nat.zero_le _, Nat.zero_le _⟩ dX7_odds_76 (fun H locs hw => ?_)
          refine lv_goto (pc := 79) (tgt := 88) hx hb dX7_odds_79 (by decide) ?_
          have hf := Option.some.inj hf
          subst hf
          exact zk_reti (pc := 88) (ww := [xU L b_seedNow b_keptSeed b_isKept, xTe ((L 1)) b_now, xSt ((L 5)) ((L 6)) ((L 7)) ((L 8)) ((L 9)) b_staff.1, xI cy ((L 6)) 8 b_staff.2.1, xI cy ((L 7)) 8 b_staff.2.2.1, xI cy ((L 8)) 8 b_staff.2.2.2.1, xI cy ((L 9)) 8 b_staff.2.2.2.2, xWa ((L 34)) ((L 35)) u10.2.1.2.1 u10.2.1.2.2.1 u10.2.1.2.2.2.1 u10.2.1.2.2.2.2.1 u10.2.1.2.2.2.2.2.1 u10.2.1.2.2.2.2.2.2.1 u10.2.1.2.2.2.2.2.2.2.1 u10.2.1.2.2.2.2.2.2.2.2, xTe ((L 35)) u10.2.1.1, xI cy ((L 46)) 48 u10.2.2, xI cy ((L 48)) 5 b_refusals]) C hw hr hQ dX7_odds_88
      · replace hf := if_f q7 hf
        refine lv_iload_n (pc := 53) hx hb dX7_odds_53 rfl (lv_at hl 3 rfl) ?_
        refine lv_aload_n (pc := 54) hx hb dX7_odds_54 rfl (lv_at hl 0 rfl) ?_
        refine zk_gt (pc := 55) C hw zl_X7_28 0 rfl rfl dX7_odds_55 ?_
        refine zk_gt (pc := 58) C hw zl_X7_303 2 rfl rfl dX7_odds_58 ?_
        refine lv_imul (pc := 61) hx hb dX7_odds_61 ?_
        refine lv_istore_n (pc := 62) (lv' := [(3, .int ((v3 * b_staff.1))), (0, .ref ((L 0))), (1, .int v1), (2, .int v2), (4, .int v4)]) hx hb dX7_odds_62 rfl hl (by decide) rfl (fun ls hl => ?_)
        refine lv_iinc (pc := 63) (v := (v4 + 1)) (lv' := [(4, .int ((v4 + 1))), (3, .int ((v3 * b_staff.1))), (0, .ref ((L 0))), (1, .int v1), (2, .int v2)]) hx hb dX7_odds_63 hl (k := 4) rfl rfl (by decide) rfl (fun ls hl => ?_)
        refine lv_goto (pc := 66) (tgt := 47) hx hb dX7_odds_66 (by decide) ?_
        exact ih v1 v2 ((v3 * b_staff.1)) ((v4 + 1)) b_walk b_plan b_refusals _ _ _ hf hw (lv_sub hl [2, 3, 4, 1, 0] rfl)
  rw [zf_X7_odds] at hf
  refine lv_iload_n (pc := 0) hx hb dX7_odds_0 rfl (lv_at hl 1 rfl) ?_
  refine lv_iconst (pc := 1) (v := 0) hx hb dX7_odds_1 (by decide) ?_
  refine lv_iconst (pc := 2) (v := 3) hx hb dX7_odds_2 (by decide) ?_
  obtain ⟨u1, u1e, hf⟩ := bd hf
  refine zk_cS (pc := 3) (rest := []) (st1 := [.int (bI u1)]) (w' := [xU L b_seedNow b_keptSeed b_isKept, xTe ((L 1)) b_now, xSt ((L 5)) ((L 6)) ((L 7)) ((L 8)) ((L 9)) b_staff.1, xI cy ((L 6)) 8 b_staff.2.1, xI cy ((L 7)) 8 b_staff.2.2.1, xI cy ((L 8)) 8 b_staff.2.2.2.1, xI cy ((L 9)) 8 b_staff.2.2.2.2, xWa ((L 34)) ((L 35)) b_walk.2.1 b_walk.2.2.1 b_walk.2.2.2.1 b_walk.2.2.2.2.1 b_walk.2.2.2.2.2.1 b_walk.2.2.2.2.2.2.1 b_walk.2.2.2.2.2.2.2.1 b_walk.2.2.2.2.2.2.2.2, xTe ((L 35)) b_walk.1, xI cy ((L 46)) 48 b_plan, xI cy ((L 48)) 5 b_refusals]) (mk := [none, none, none, none, none, none, none, none, none, none, none]) C hw (c_X7_isWithin l G cy tt x1 (((0 : Int32))) (((3 : Int32))) _ u1e) zy_X7_isWithin zm_X7_99 [] rfl rfl rfl rfl rfl rfl rfl rfl hl.1 ⟨rfl, rfl⟩ ⟨Nat.le_of_ble_eq_true rfl, Nat.le_of_ble_eq_true rfl⟩ rfl (Nat.le_of_ble_eq_true rfl) ⟨Nat.zero_le _, Nat.zero_le _⟩ dX7_odds_3 (fun H locs hw => ?_)
  refine zk_ifz (pc := 6) (tgt := 18) hx hb dX7_odds_6 (by decide) (fun q2 => ?_) (fun q2 => ?_)
  · replace hf := if_f q2 hf
    exact J18 b_walk b_plan b_refusals _ _ _ hf hw (lv_sub hl [0] rfl)
  · replace hf := if_t q2 hf
    refine lv_iload_n (pc := 9) hx hb dX7_odds_9 rfl (lv_at hl 2 rfl) ?_
    refine lv_iconst (pc := 10) (v := 0) hx hb dX7_odds_10 (by decide) ?_
    refine lv_iconst (pc := 11) (v := 1) hx hb dX7_odds_11 (by decide) ?_
    obtain ⟨u3, u3e, hf⟩ := bd hf
    refine zk_cS (pc := 12) (rest := []) (st1 := [.int (bI u3)]) (w' := [xU L b_seedNow b_keptSeed b_isKept, xTe ((L 1)) b_now, xSt ((L 5)) ((L 6)) ((L 7)) ((L 8)) ((L 9)) b_staff.1, xI cy ((L 6)) 8 b_staff.2.1, xI cy ((L 7)) 8 b_staff.2.2.1, xI cy ((L 8)) 8 b_staff.2.2.2.1, xI cy ((L 9)) 8 b_staff.2.2.2.2, xWa ((L 34)) ((L 35)) b_walk.2.1 b_walk.2.2.1 b_walk.2.2.2.1 b_walk.2.2.2.2.1 b_walk.2.2.2.2.2.1 b_walk.2.2.2.2.2.2.1 b_walk.2.2.2.2.2.2.2.1 b_walk.2.2.2.2.2.2.2.2, xTe ((L 35)) b_walk.1, xI cy ((L 46)) 48 b_plan, xI cy ((L 48)) 5 b_refusals]) (mk := [none, none, none, none, none, none, none, none, none, none, none]) C hw (c_X7_isWithin l G cy tt x2 (((0 : Int32))) (((1 : Int32))) _ u3e) zy_X7_isWithin zm_X7_99 [] rfl rfl rfl rfl rfl rfl rfl rfl hl.1 ⟨rfl, rfl⟩ ⟨Nat.le_of_ble_eq_true rfl, Nat.le_of_ble_eq_true rfl⟩ rfl (Nat.le_of_ble_eq_true rfl) ⟨Nat.zero_le _, Nat.zero_le _⟩ dX7_odds_12 (fun H locs hw => ?_)
    refine zk_ifnz (pc := 15) (tgt := 25) hx hb dX7_odds_15 (by decide) (fun q4 => ?_) (fun q4 => ?_)
    · replace hf := if_t q4 hf
      refine lv_aload_n (pc := 25) hx hb dX7_odds_25 rfl (lv_at hl 0 rfl) ?_
      refine zk_gt (pc := 26) C hw zl_X7_28 0 rfl rfl dX7_odds_26 ?_
      refine zk_gt (pc := 29) C hw zl_X7_303 2 rfl rfl dX7_odds_29 ?_
      refine lv_if_gt (pc := 32) (tgt := 42) hx hb dX7_odds_32 (by decide) (fun q5 => ?_) (fun q5 => ?_)
      · replace hf := if_t q5 hf
        refine lv_iconst (pc := 42) (v := 1) hx hb dX7_odds_42 (by decide) ?_
        refine lv_istore_n (pc := 43) (lv' := [(3, .int ((1 : Int32))), (0, .ref ((L 0))), (1, .int x1), (2, .int x2)]) hx hb dX7_odds_43 rfl hl (by decide) rfl (fun ls hl => ?_)
        refine lv_iconst (pc := 44) (v := 0) hx hb dX7_odds_44 (by decide) ?_
        refine lv_istore (pc := 45) (lv' := [(4, .int ((0 : Int32))), (3, .int ((1 : Int32))), (0, .ref ((L 0))), (1, .int x1), (2, .int x2)]) hx hb dX7_odds_45 hl (by decide) rfl (fun ls hl => ?_)
        exact J47 FU x1 x2 ((1 : Int32)) ((0 : Int32)) b_walk b_plan b_refusals _ _ _ hf hw (lv_sub hl [2, 3, 4, 1, 0] rfl)
      · replace hf := if_f q5 hf
        refine lv_aload_n (pc := 35) hx hb dX7_odds_35 rfl (lv_at hl 0 rfl) ?_
        refine lv_bipush (pc := 36) (v := -5) hx hb dX7_odds_36 (by decide) ?_
        obtain ⟨u6, u6e, hf⟩ := bd hf
        refine zk_cV (pc := 38) (ci := 7) (q0 := 0) (rest := []) (st1 := [.int u6.1]) (w' := [xU L b_seedNow b_keptSeed b_isKept, xTe ((L 1)) b_now, xSt ((L 5)) ((L 6)) ((L 7)) ((L 8)) ((L 9)) b_staff.1, xI cy ((L 6)) 8 b_staff.2.1, xI cy ((L 7)) 8 b_staff.2.2.1, xI cy ((L 8)) 8 b_staff.2.2.2.1, xI cy ((L 9)) 8 b_staff.2.2.2.2, xWa ((L 34)) ((L 35)) b_walk.2.1 b_walk.2.2.1 b_walk.2.2.2.1 b_walk.2.2.2.2.1 b_walk.2.2.2.2.2.1 b_walk.2.2.2.2.2.2.1 b_walk.2.2.2.2.2.2.2.1 b_walk.2.2.2.2.2.2.2.2, xTe ((L 35)) b_walk.1, xI cy ((L 46)) 48 b_plan, xI cy ((L 48)) 5 u6.2]) (mk := [none, none, none, none, none, none, none, none, none, none, some (xI cy ((L 48)) 5 u6.2)]) C hw (c_X7_refused l G cy tt L b_seedNow b_keptSeed b_isKept (((-5 : Int32))) b_refusals _ u6e) zy_X7_refused zm_X7_103 rfl rfl rfl [0, 10] rfl rfl rfl rfl rfl rfl rfl rfl hl.1 ⟨rfl, rfl⟩ ⟨Nat.le_of_ble_eq_true rfl, Nat.le_of_ble_eq_true rfl⟩ rfl (Nat.le_of_ble_eq_true rfl) ⟨Nat.zero_le _, Nat.zero_le _⟩ dX7_odds_38 (fun H locs hw => ?_)
        have hf := Option.some.inj hf
        subst hf
        exact zk_reti (pc := 41) (ww := [xU L b_seedNow b_keptSeed b_isKept, xTe ((L 1)) b_now, xSt ((L 5)) ((L 6)) ((L 7)) ((L 8)) ((L 9)) b_staff.1, xI cy ((L 6)) 8 b_staff.2.1, xI cy ((L 7)) 8 b_staff.2.2.1, xI cy ((L 8)) 8 b_staff.2.2.2.1, xI cy ((L 9)) 8 b_staff.2.2.2.2, xWa ((L 34)) ((L 35)) b_walk.2.1 b_walk.2.2.1 b_walk.2.2.2.1 b_walk.2.2.2.2.1 b_walk.2.2.2.2.2.1 b_walk.2.2.2.2.2.2.1 b_walk.2.2.2.2.2.2.2.1 b_walk.2.2.2.2.2.2.2.2, xTe ((L 35)) b_walk.1, xI cy ((L 46)) 48 b_plan, xI cy ((L 48)) 5 u6.2]) C hw hr hQ dX7_odds_41
    · replace hf := if_f q4 hf
      exact J18 b_walk b_plan b_refusals _ _ _ hf hw (lv_sub hl [0] rfl)
def zf_X7_flees_31 (b_now : TTe) (b_staff : TSt) : Nat → Int32 → Int32 → TTe → (Nat → Int32) → Option (Int32 × TTe × (Nat → Int32))
  | 0, _, _, _, _ => none
  | n + 1, v1, v2, b_trial, b_refusals => (if (99 : Int32) < v2 then some ((-1 : Int32), b_trial, b_refusals) else (Option.bind (zf_X2_remains v1 b_staff ((v2, b_trial.2.1, b_trial.2.2.1, b_trial.2.2.2.1, b_trial.2.2.2.2.1, b_trial.2.2.2.2.2.1, b_trial.2.2.2.2.2.2))) (fun u6 => (if u6 then zf_X7_flees_31 b_now b_staff n v1 ((v2 + 1)) ((v2, b_trial.2.1, b_trial.2.2.1, b_trial.2.2.2.1, b_trial.2.2.2.2.1, b_trial.2.2.2.2.2.1, b_trial.2.2.2.2.2.2)) b_refusals else some (v2, (v2, b_trial.2.1, b_trial.2.2.1, b_trial.2.2.2.1, b_trial.2.2.2.2.1, b_trial.2.2.2.2.2.1, b_trial.2.2.2.2.2.2), b_refusals)))))
def zf_X7_flees (x1 : Int32) (b_now : TTe) (b_trial : TTe) (b_staff : TSt) (b_refusals : Nat → Int32) : Option (Int32 × TTe × (Nat → Int32)) := (Option.bind (zf_X2_has x1 b_staff) (fun u1 => (if u1 then (Option.bind (zf_X5_become b_trial b_now) (fun u3 => zf_X7_flees_31 b_now b_staff FU x1 ((0 : Int32)) u3 b_refusals)) else (Option.bind (zf_X7_refused (((-2 : Int32))) b_refusals) (fun u4 => some (u4.1, b_trial, u4.2))))))
abbrev zr_X7_flees : Room := { frames := 2, cells := 0, slots := 0, locals := 44 }
set_option maxHeartbeats 4000000 in
set_option maxRecDepth 100000 in
theorem c_X7_flees (l : Launch) (G : va_G) (cy : Nat → ClassId) (tt : Nat → Nat) (L : Nat → Nat) (b_seedNow : Int32) (b_keptSeed : Int32) (b_isKept : Bool) (x1 : Int32) (b_now : TTe) (b_trial : TTe) (b_staff : TSt) (b_refusals : Nat → Int32) (res : Int32 × TTe × (Nat → Int32)) (hf : zf_X7_flees x1 b_now b_trial b_staff b_refusals = some res) : zCT l yX7_flees cX7_flees 3 (some .int) zr_X7_flees G cy tt [.ref ((L 0)), .int x1] [xU L b_seedNow b_keptSeed b_isKept, xTe ((L 1)) b_now, xTe ((L 2)) b_trial, xSt ((L 5)) ((L 6)) ((L 7)) ((L 8)) ((L 9)) b_staff.1, xI cy ((L 6)) 8 b_staff.2.1, xI cy ((L 7)) 8 b_staff.2.2.1, xI cy ((L 8)) 8 b_staff.2.2.2.1, xI cy ((L 9)) 8 b_staff.2.2.2.2, xI cy ((L 48)) 5 b_refusals] (some (.int res.1)) [xU L b_seedNow b_keptSeed b_isKept, xTe ((L 1)) b_now, xTe ((L 2)) res.2.1, xSt ((L 5)) ((L 6)) ((L 7)) ((L 8)) ((L 9)) b_staff.1, xI cy ((L 6)) 8 b_staff.2.1, xI cy ((L 7)) 8 b_staff.2.2.1, xI cy ((L 8)) 8 b_staff.2.2.2.1, xI cy ((L 9)) 8 b_staff.2.2.2.2, xI cy ((L 48)) 5 res.2.2] := by
  refine zk_start zn_X7 (Nat.le_of_ble_eq_true rfl) ?_
  intro p e s m args below meth c A ls Q C hr hQ hw hl
  have C : zCx p m c s args meth cX7_flees 3 RX7 G cy tt A := C
  have hx := C.1.1
  have hb := C.1.2.1
  have hl : lv_has ls 3 [(0, .ref ((L 0))), (1, .int x1)] := hl
  have J31 : ∀ (n : Nat), ∀ (v1 : Int32) (v2 : Int32) (b_trial : TTe) (b_refusals : Nat → Int32) (H : Heap) (locs : List Loc) (ls : Array Slot), zf_X7_flees_31 b_now b_staff n v1 v2 b_trial b_refusals = some res → zWd G A s.heap H locs [xU L b_seedNow b_keptSeed b_isKept, xTe ((L 1)) b_now, xTe ((L 2)) b_trial, xSt ((L 5)) ((L 6)) ((L 7)) ((L 8)) ((L 9)) b_staff.1, xI cy ((L 6)) 8 b_staff.2.1, xI cy ((L 7)) 8 b_staff.2.2.1, xI cy ((L 8)) 8 b_staff.2.2.2.1, xI cy ((L 9)) 8 b_staff.2.2.2.2, xI cy ((L 48)) 5 b_refusals] → lv_has ls 3 [(0, .ref ((L 0))), (1, .int v1), (2, .int v2)] → W p l e zr_X7_flees s m args below meth c H locs 0 0 Q (F0 m 31 ls []) := by
    intro n
    induction n with
    | zero =>
      intro v1 v2 b_trial b_refusals H locs ls hf hw hl
      rw [zf_X7_flees_31] at hf
      cases hf
    | succ n ih =>
      intro v1 v2 b_trial b_refusals H locs ls hf hw hl
      rw [zf_X7_flees_31] at hf
      refine lv_iload_n (pc := 31) hx hb dX7_flees_31 rfl (lv_at hl 2 rfl) ?_
      refine lv_bipush (pc := 32) (v := 99) hx hb dX7_flees_32 (by decide) ?_
      refine lv_icmp_gt (pc := 34) (tgt := 68) hx hb dX7_flees_34 (by decide) (fun q5 => ?_) (fun q5 => ?_)
      · replace hf := if_t q5 hf
        refine lv_iconst (pc := 68) (v := -1) hx hb dX7_flees_68 (by decide) ?_
        have hf := Option.some.inj hf
        subst hf
        exact zk_reti (pc := 69) (ww := [xU L b_seedNow b_keptSeed b_isKept, xTe ((L 1)) b_now, xTe ((L 2)) b_trial, xSt ((L 5)) ((L 6)) ((L 7)) ((L 8)) ((L 9)) b_staff.1, xI cy ((L 6)) 8 b_staff.2.1, xI cy ((L 7)) 8 b_staff.2.2.1, xI cy ((L 8)) 8 b_staff.2.2.2.1, xI cy ((L 9)) 8 b_staff.2.2.2.2, xI cy ((L 48)) 5 b_refusals]) C hw hr hQ dX7_flees_69
      · replace hf := if_f q5 hf
        refine lv_aload_n (pc := 37) hx hb dX7_flees_37 rfl (lv_at hl 0 rfl) ?_
        refine zk_gt (pc := 38) C hw zl_X7_16 0 rfl rfl dX7_flees_38 ?_
        refine lv_iload_n (pc := 41) hx hb dX7_flees_41 rfl (lv_at hl 2 rfl) ?_
        refine zk_put (pc := 42) (w' := [xU L b_seedNow b_keptSeed b_isKept, xTe ((L 1)) b_now, xTe ((L 2)) ((v2, b_trial.2.1, b_trial.2.2.1, b_trial.2.2.2.1, b_trial.2.2.2.2.1, b_trial.2.2.2.2.2.1, b_trial.2.2.2.2.2.2)), xSt ((L 5)) ((L 6)) ((L 7)) ((L 8)) ((L 9)) b_staff.1, xI cy ((L 6)) 8 b_staff.2.1, xI cy ((L 7)) 8 b_staff.2.2.1, xI cy ((L 8)) 8 b_staff.2.2.2.1, xI cy ((L 9)) 8 b_staff.2.2.2.2, xI cy ((L 48)) 5 b_refusals]) C hw zp_X7_330 2 rfl rfl rfl (Nat.le_of_ble_eq_true rfl) rfl dX7_flees_42 (fun H locs hw => ?_)
        refine lv_aload_n (pc := 45) hx hb dX7_flees_45 rfl (lv_at hl 0 rfl) ?_
        refine zk_gt (pc := 46) C hw zl_X7_28 0 rfl rfl dX7_flees_46 ?_
        refine lv_iload_n (pc := 49) hx hb dX7_flees_49 rfl (lv_at hl 1 rfl) ?_
        refine lv_aload_n (pc := 50) hx hb dX7_flees_50 rfl (lv_at hl 0 rfl) ?_
        refine zk_gt (pc := 51) C hw zl_X7_16 0 rfl rfl dX7_flees_51 ?_
        obtain ⟨u6, u6e, hf⟩ := bd hf
        refine zk_cV (pc := 54) (ci := 2) (q0 := 3) (rest := []) (st1 := [.int (bI u6)]) (w' := [xU L b_seedNow b_keptSeed b_isKept, xTe ((L 1)) b_now, xTe ((L 2)) ((v2, b_trial.2.1, b_trial.2.2.1, b_trial.2.2.2.1, b_trial.2.2.2.2.1, b_trial.2.2.2.2.2.1, b_trial.2.2.2.2.2.2)), xSt ((L 5)) ((L 6)) ((L 7)) ((L 8)) ((L 9)) b_staff.1, xI cy ((L 6)) 8 b_staff.2.1, xI cy ((L 7)) 8 b_staff.2.2.1, xI cy ((L 8)) 8 b_staff.2.2.2.1, xI cy ((L 9)) 8 b_staff.2.2.2.2, xI cy ((L 48)) 5 b_refusals]) (mk := [none, none, none, none, none, none, none, none, none]) C hw (c_X2_remains l G cy tt ((L 5)) ((L 6)) ((L 7)) ((L 8)) ((L 9)) ((L 2)) v1 b_staff ((v2, b_trial.2.1, b_trial.2.2.1, b_trial.2.2.2.1, b_trial.2.2.2.2.1, b_trial.2.2.2.2.2.1, b_trial.2.2.2.2.2.2)) _ u6e) zy_X2_remains zm_X7_213 rfl rfl rfl [3, 4, 5, 6, 7, 2] rfl rfl rfl rfl rfl rfl rfl rfl hl.1 ⟨rfl, rfl⟩ ⟨Nat.le_of_ble_eq_true rfl, Nat.le_of_ble_eq_true rfl⟩ rfl (Nat.le_of_ble_eq_true rfl) ⟨Nat.zero_le _, Nat.zero_le _⟩ dX7_flees_54 (fun H locs hw => ?_)
        refine zk_ifnz (pc := 57) (tgt := 62) hx hb dX7_flees_57 (by decide) (fun q7 => ?_) (fun q7 => ?_)
        · replace hf := if_t q7 hf
          refine lv_iinc (pc := 62) (v := (v2 + 1)) (lv' := [(2, .int ((v2 + 1))), (0, .ref ((L 0))), (1, .int v1)]) hx hb dX7_flees_62 hl (k := 2) rfl rfl (by decide) rfl (fun ls hl => ?_)
          refine lv_goto (pc := 65) (tgt := 31) hx hb dX7_flees_65 (by decide) ?_
          exact ih v1 ((v2 + 1)) ((v2, b_trial.2.1, b_trial.2.2.1, b_trial.2.2.2.1, b_trial.2.2.2.2.1, b_trial.2.2.2.2.2.1, b_trial.2.2.2.2.2.2)) b_refusals _ _ _ hf hw (lv_sub hl [1, 2, 0] rfl)
        · replace hf := if_f q7 hf
          refine lv_iload_n (pc := 60) hx hb dX7_flees_60 rfl (lv_at hl 2 rfl) ?_
          have hf := Option.some.inj hf
          subst hf
          exact zk_reti (pc := 61) (ww := [xU L b_seedNow b_keptSeed b_isKept, xTe ((L 1)) b_now, xTe ((L 2)) ((v2, b_trial.2.1, b_trial.2.2.1, b_trial.2.2.2.1, b_trial.2.2.2.2.1, b_trial.2.2.2.2.2.1, b_trial.2.2.2.2.2.2)), xSt ((L 5)) ((L 6)) ((L 7)) ((L 8)) ((L 9)) b_staff.1, xI cy ((L 6)) 8 b_staff.2.1, xI cy ((L 7)) 8 b_staff.2.2.1, xI cy ((L 8)) 8 b_staff.2.2.2.1, xI cy ((L 9)) 8 b_staff.2.2.2.2, xI cy ((L 48)) 5 b_refusals]) C hw hr hQ dX7_flees_61
  rw [zf_X7_flees] at hf
  refine lv_aload_n (pc := 0) hx hb dX7_flees_0 rfl (lv_at hl 0 rfl) ?_
  refine zk_gt (pc := 1) C hw zl_X7_28 0 rfl rfl dX7_flees_1 ?_
  refine lv_iload_n (pc := 4) hx hb dX7_flees_4 rfl (lv_at hl 1 rfl) ?_
  obtain ⟨u1, u1e, hf⟩ := bd hf
  refine zk_cV (pc := 5) (ci := 2) (q0 := 3) (rest := []) (st1 := [.int (bI u1)]) (w' := [xU L b_seedNow b_keptSeed b_isKept, xTe ((L 1)) b_now, xTe ((L 2)) b_trial, xSt ((L 5)) ((L 6)) ((L 7)) ((L 8)) ((L 9)) b_staff.1, xI cy ((L 6)) 8 b_staff.2.1, xI cy ((L 7)) 8 b_staff.2.2.1, xI cy ((L 8)) 8 b_staff.2.2.2.1, xI cy ((L 9)) 8 b_staff.2.2.2.2, xI cy ((L 48)) 5 b_refusals]) (mk := [none, none, none, none, none, none, none, none, none]) C hw (c_X2_has l G cy tt ((L 5)) ((L 6)) ((L 7)) ((L 8)) ((L 9)) x1 b_staff _ u1e) zy_X2_has zm_X7_146 rfl rfl rfl [3, 4, 5, 6, 7] rfl rfl rfl rfl rfl rfl rfl rfl hl.1 ⟨rfl, rfl⟩ ⟨Nat.le_of_ble_eq_true rfl, Nat.le_of_ble_eq_true rfl⟩ rfl (Nat.le_of_ble_eq_true rfl) ⟨Nat.zero_le _, Nat.zero_le _⟩ dX7_flees_5 (fun H locs hw => ?_)
  refine zk_ifnz (pc := 8) (tgt := 18) hx hb dX7_flees_8 (by decide) (fun q2 => ?_) (fun q2 => ?_)
  · replace hf := if_t q2 hf
    refine lv_aload_n (pc := 18) hx hb dX7_flees_18 rfl (lv_at hl 0 rfl) ?_
    refine zk_gt (pc := 19) C hw zl_X7_16 0 rfl rfl dX7_flees_19 ?_
    refine lv_aload_n (pc := 22) hx hb dX7_flees_22 rfl (lv_at hl 0 rfl) ?_
    refine zk_gt (pc := 23) C hw zl_X7_10 0 rfl rfl dX7_flees_23 ?_
    obtain ⟨u3, u3e, hf⟩ := bd hf
    refine zk_cV (pc := 26) (ci := 5) (q0 := 2) (rest := []) (st1 := []) (w' := [xU L b_seedNow b_keptSeed b_isKept, xTe ((L 1)) b_now, xTe ((L 2)) u3, xSt ((L 5)) ((L 6)) ((L 7)) ((L 8)) ((L 9)) b_staff.1, xI cy ((L 6)) 8 b_staff.2.1, xI cy ((L 7)) 8 b_staff.2.2.1, xI cy ((L 8)) 8 b_staff.2.2.2.1, xI cy ((L 9)) 8 b_staff.2.2.2.2, xI cy ((L 48)) 5 b_refusals]) (mk := [none, none, some (xTe ((L 2)) u3), none, none, none, none, none, none]) C hw (c_X5_become l G cy tt ((L 2)) ((L 1)) b_trial b_now _ u3e) zy_X5_become zm_X7_193 rfl rfl rfl [2, 1] rfl rfl rfl rfl rfl rfl rfl rfl hl.1 ⟨rfl, rfl⟩ ⟨Nat.le_of_ble_eq_true rfl, Nat.le_of_ble_eq_true rfl⟩ rfl (Nat.le_of_ble_eq_true rfl) ⟨Nat.zero_le _, Nat.zero_le _⟩ dX7_flees_26 (fun H locs hw => ?_)
    refine lv_iconst (pc := 29) (v := 0) hx hb dX7_flees_29 (by decide) ?_
    refine lv_istore_n (pc := 30) (lv' := [(2, .int ((0 : Int32))), (0, .ref ((L 0))), (1, .int x1)]) hx hb dX7_flees_30 rfl hl (by decide) rfl (fun ls hl => ?_)
    exact J31 FU x1 ((0 : Int32)) u3 b_refusals _ _ _ hf hw (lv_sub hl [1, 2, 0] rfl)
  · replace hf := if_f q2 hf
    refine lv_aload_n (pc := 11) hx hb dX7_flees_11 rfl (lv_at hl 0 rfl) ?_
    refine lv_bipush (pc := 12) (v := -2) hx hb dX7_flees_12 (by decide) ?_
    obtain ⟨u4, u4e, hf⟩ := bd hf
    refine zk_cV (pc := 14) (ci := 7) (q0 := 0) (rest := []) (st1 := [.int u4.1]) (w' := [xU L b_seedNow b_keptSeed b_isKept, xTe ((L 1)) b_now, xTe ((L 2)) b_trial, xSt ((L 5)) ((L 6)) ((L 7)) ((L 8)) ((L 9)) b_staff.1, xI cy ((L 6)) 8 b_staff.2.1, xI cy ((L 7)) 8 b_staff.2.2.1, xI cy ((L 8)) 8 b_staff.2.2.2.1, xI cy ((L 9)) 8 b_staff.2.2.2.2, xI cy ((L 48)) 5 u4.2]) (mk := [none, none, none, none, none, none, none, none, some (xI cy ((L 48)) 5 u4.2)]) C hw (c_X7_refused l G cy tt L b_seedNow b_keptSeed b_isKept (((-2 : Int32))) b_refusals _ u4e) zy_X7_refused zm_X7_103 rfl rfl rfl [0, 8] rfl rfl rfl rfl rfl rfl rfl rfl hl.1 ⟨rfl, rfl⟩ ⟨Nat.le_of_ble_eq_true rfl, Nat.le_of_ble_eq_true rfl⟩ rfl (Nat.le_of_ble_eq_true rfl) ⟨Nat.zero_le _, Nat.zero_le _⟩ dX7_flees_14 (fun H locs hw => ?_)
    have hf := Option.some.inj hf
    subst hf
    exact zk_reti (pc := 17) (ww := [xU L b_seedNow b_keptSeed b_isKept, xTe ((L 1)) b_now, xTe ((L 2)) b_trial, xSt ((L 5)) ((L 6)) ((L 7)) ((L 8)) ((L 9)) b_staff.1, xI cy ((L 6)) 8 b_staff.2.1, xI cy ((L 7)) 8 b_staff.2.2.1, xI cy ((L 8)) 8 b_staff.2.2.2.1, xI cy ((L 9)) 8 b_staff.2.2.2.2, xI cy ((L 48)) 5 u4.2]) C hw hr hQ dX7_flees_17
def zf_X7_needs_31 (b_now : TTe) (b_staff : TSt) : Nat → Int32 → Int32 → TSt → (Nat → Int32) → Option (Int32 × TSt × (Nat → Int32))
  | 0, _, _, _, _ => none
  | n + 1, v1, v2, b_trialStaff, b_refusals => (if (40 : Int32) < v2 then some ((-1 : Int32), b_trialStaff, b_refusals) else (Option.bind (zf_X2_putNerve v1 v2 b_trialStaff) (fun u6 => (Option.bind (zf_X2_remains v1 u6 b_now) (fun u7 => (if u7 then some (v2, u6, b_refusals) else zf_X7_needs_31 b_now b_staff n v1 ((v2 + 1)) u6 b_refusals))))))
def zf_X7_needs (x1 : Int32) (b_now : TTe) (b_staff : TSt) (b_trialStaff : TSt) (b_refusals : Nat → Int32) : Option (Int32 × TSt × (Nat → Int32)) := (Option.bind (zf_X2_has x1 b_staff) (fun u1 => (if u1 then (Option.bind (zf_X2_become b_trialStaff b_staff) (fun u3 => zf_X7_needs_31 b_now b_staff FU x1 ((0 : Int32)) u3 b_refusals)) else (Option.bind (zf_X7_refused (((-2 : Int32))) b_refusals) (fun u4 => some (u4.1, b_trialStaff, u4.2))))))
abbrev zr_X7_needs : Room := { frames := 2, cells := 0, slots := 0, locals := 44 }
set_option maxHeartbeats 4000000 in
set_option maxRecDepth 100000 in
theorem c_X7_needs (l : Launch) (G : va_G) (cy : Nat → ClassId) (tt : Nat → Nat) (L : Nat → Nat) (b_seedNow : Int32) (b_keptSeed : Int32) (b_isKept : Bool) (x1 : Int32) (b_now : TTe) (b_staff : TSt) (b_trialStaff : TSt) (b_refusals : Nat → Int32) (res : Int32 × TSt × (Nat → Int32)) (hf : zf_X7_needs x1 b_now b_staff b_trialStaff b_refusals = some res) : zCT l yX7_needs cX7_needs 3 (some .int) zr_X7_needs G cy tt [.ref ((L 0)), .int x1] [xU L b_seedNow b_keptSeed b_isKept, xTe ((L 1)) b_now, xSt ((L 5)) ((L 6)) ((L 7)) ((L 8)) ((L 9)) b_staff.1, xI cy ((L 6)) 8 b_staff.2.1, xI cy ((L 7)) 8 b_staff.2.2.1, xI cy ((L 8)) 8 b_staff.2.2.2.1, xI cy ((L 9)) 8 b_staff.2.2.2.2, xSt ((L 10)) ((L 11)) ((L 12)) ((L 13)) ((L 14)) b_trialStaff.1, xI cy ((L 11)) 8 b_trialStaff.2.1, xI cy ((L 12)) 8 b_trialStaff.2.2.1, xI cy ((L 13)) 8 b_trialStaff.2.2.2.1, xI cy ((L 14)) 8 b_trialStaff.2.2.2.2, xI cy ((L 48)) 5 b_refusals] (some (.int res.1)) [xU L b_seedNow b_keptSeed b_isKept, xTe ((L 1)) b_now, xSt ((L 5)) ((L 6)) ((L 7)) ((L 8)) ((L 9)) b_staff.1, xI cy ((L 6)) 8 b_staff.2.1, xI cy ((L 7)) 8 b_staff.2.2.1, xI cy ((L 8)) 8 b_staff.2.2.2.1, xI cy ((L 9)) 8 b_staff.2.2.2.2, xSt ((L 10)) ((L 11)) ((L 12)) ((L 13)) ((L 14)) res.2.1.1, xI cy ((L 11)) 8 res.2.1.2.1, xI cy ((L 12)) 8 res.2.1.2.2.1, xI cy ((L 13)) 8 res.2.1.2.2.2.1, xI cy ((L 14)) 8 res.2.1.2.2.2.2, xI cy ((L 48)) 5 res.2.2] := by
  refine zk_start zn_X7 (Nat.le_of_ble_eq_true rfl) ?_
  intro p e s m args below meth c A ls Q C hr hQ hw hl
  have C : zCx p m c s args meth cX7_needs 3 RX7 G cy tt A := C
  have hx := C.1.1
  have hb := C.1.2.1
  have hl : lv_has ls 3 [(0, .ref ((L 0))), (1, .int x1)] := hl
  have J31 : ∀ (n : Nat), ∀ (v1 : Int32) (v2 : Int32) (b_trialStaff : TSt) (b_refusals : Nat → Int32) (H : Heap) (locs : List Loc) (ls : Array Slot), zf_X7_needs_31 b_now b_staff n v1 v2 b_trialStaff b_refusals = some res → zWd G A s.heap H locs [xU L b_seedNow b_keptSeed b_isKept, xTe ((L 1)) b_now, xSt ((L 5)) ((L 6)) ((L 7)) ((L 8)) ((L 9)) b_staff.1, xI cy ((L 6)) 8 b_staff.2.1, xI cy ((L 7)) 8 b_staff.2.2.1, xI cy ((L 8)) 8 b_staff.2.2.2.1, xI cy ((L 9)) 8 b_staff.2.2.2.2, xSt ((L 10)) ((L 11)) ((L 12)) ((L 13)) ((L 14)) b_trialStaff.1, xI cy ((L 11)) 8 b_trialStaff.2.1, xI cy ((L 12)) 8 b_trialStaff.2.2.1, xI cy ((L 13)) 8 b_trialStaff.2.2.2.1, xI cy ((L 14)) 8 b_trialStaff.2.2.2.2, xI cy ((L 48)) 5 b_refusals] → lv_has ls 3 [(0, .ref ((L 0))), (1, .int v1), (2, .int v2)] → W p l e zr_X7_needs s m args below meth c H locs 0 0 Q (F0 m 31 ls []) := by
    intro n
    induction n with
    | zero =>
      intro v1 v2 b_trialStaff b_refusals H locs ls hf hw hl
      rw [zf_X7_needs_31] at hf
      cases hf
    | succ n ih =>
      intro v1 v2 b_trialStaff b_refusals H locs ls hf hw hl
      rw [zf_X7_needs_31] at hf
      refine lv_iload_n (pc := 31) hx hb dX7_needs_31 rfl (lv_at hl 2 rfl) ?_
      refine lv_bipush (pc := 32) (v := 40) hx hb dX7_needs_32 (by decide) ?_
      refine lv_icmp_gt (pc := 34) (tgt := 69) hx hb dX7_needs_34 (by decide) (fun q5 => ?_) (fun q5 => ?_)
      · replace hf := if_t q5 hf
        refine lv_iconst (pc := 69) (v := -1) hx hb dX7_needs_69 (by decide) ?_
        have hf := Option.some.inj hf
        subst hf
        exact zk_reti (pc := 70) (ww := [xU L b_seedNow b_keptSeed b_isKept, xTe ((L 1)) b_now, xSt ((L 5)) ((L 6)) ((L 7)) ((L 8)) ((L 9)) b_staff.1, xI cy ((L 6)) 8 b_staff.2.1, xI cy ((L 7)) 8 b_staff.2.2.1, xI cy ((L 8)) 8 b_staff.2.2.2.1, xI cy ((L 9)) 8 b_staff.2.2.2.2, xSt ((L 10)) ((L 11)) ((L 12)) ((L 13)) ((L 14)) b_trialStaff.1, xI cy ((L 11)) 8 b_trialStaff.2.1, xI cy ((L 12)) 8 b_trialStaff.2.2.1, xI cy ((L 13)) 8 b_trialStaff.2.2.2.1, xI cy ((L 14)) 8 b_trialStaff.2.2.2.2, xI cy ((L 48)) 5 b_refusals]) C hw hr hQ dX7_needs_70
      · replace hf := if_f q5 hf
        refine lv_aload_n (pc := 37) hx hb dX7_needs_37 rfl (lv_at hl 0 rfl) ?_
        refine zk_gt (pc := 38) C hw zl_X7_32 0 rfl rfl dX7_needs_38 ?_
        refine lv_iload_n (pc := 41) hx hb dX7_needs_41 rfl (lv_at hl 1 rfl) ?_
        refine lv_iload_n (pc := 42) hx hb dX7_needs_42 rfl (lv_at hl 2 rfl) ?_
        obtain ⟨u6, u6e, hf⟩ := bd hf
        refine zk_cV (pc := 43) (ci := 2) (q0 := 7) (rest := []) (st1 := []) (w' := [xU L b_seedNow b_keptSeed b_isKept, xTe ((L 1)) b_now, xSt ((L 5)) ((L 6)) ((L 7)) ((L 8)) ((L 9)) b_staff.1, xI cy ((L 6)) 8 b_staff.2.1, xI cy ((L 7)) 8 b_staff.2.2.1, xI cy ((L 8)) 8 b_staff.2.2.2.1, xI cy ((L 9)) 8 b_staff.2.2.2.2, xSt ((L 10)) ((L 11)) ((L 12)) ((L 13)) ((L 14)) u6.1, xI cy ((L 11)) 8 u6.2.1, xI cy ((L 12)) 8 u6.2.2.1, xI cy ((L 13)) 8 u6.2.2.2.1, xI cy ((L 14)) 8 u6.2.2.2.2, xI cy ((L 48)) 5 b_refusals]) (mk := [none, none, none, none, none, none, none, some (xSt ((L 10)) ((L 11)) ((L 12)) ((L 13)) ((L 14)) u6.1), some (xI cy ((L 11)) 8 u6.2.1), some (xI cy ((L 12)) 8 u6.2.2.1), some (xI cy ((L 13)) 8 u6.2.2.2.1), some (xI cy ((L 14)) 8 u6.2.2.2.2), none]) C hw (c_X2_putNerve l G cy tt ((L 10)) ((L 11)) ((L 12)) ((L 13)) ((L 14)) v1 v2 b_trialStaff _ u6e) zy_X2_putNerve zm_X7_174 rfl rfl rfl [7, 8, 9, 10, 11] rfl rfl rfl rfl rfl rfl rfl rfl hl.1 ⟨rfl, rfl⟩ ⟨Nat.le_of_ble_eq_true rfl, Nat.le_of_ble_eq_true rfl⟩ rfl (Nat.le_of_ble_eq_true rfl) ⟨Nat.zero_le _, Nat.zero_le _⟩ dX7_needs_43 (fun H locs hw => ?_)
        refine lv_aload_n (pc := 46) hx hb dX7_needs_46 rfl (lv_at hl 0 rfl) ?_
        refine zk_gt (pc := 47) C hw zl_X7_32 0 rfl rfl dX7_needs_47 ?_
        refine lv_iload_n (pc := 50) hx hb dX7_needs_50 rfl (lv_at hl 1 rfl) ?_
        refine lv_aload_n (pc := 51) hx hb dX7_needs_51 rfl (lv_at hl 0 rfl) ?_
        refine zk_gt (pc := 52) C hw zl_X7_10 0 rfl rfl dX7_needs_52 ?_
        obtain ⟨u7, u7e, hf⟩ := bd hf
        refine zk_cV (pc := 55) (ci := 2) (q0 := 7) (rest := []) (st1 := [.int (bI u7)]) (w' := [xU L b_seedNow b_keptSeed b_isKept, xTe ((L 1)) b_now, xSt ((L 5)) ((L 6)) ((L 7)) ((L 8)) ((L 9)) b_staff.1, xI cy ((L 6)) 8 b_staff.2.1, xI cy ((L 7)) 8 b_staff.2.2.1, xI cy ((L 8)) 8 b_staff.2.2.2.1, xI cy ((L 9)) 8 b_staff.2.2.2.2, xSt ((L 10)) ((L 11)) ((L 12)) ((L 13)) ((L 14)) u6.1, xI cy ((L 11)) 8 u6.2.1, xI cy ((L 12)) 8 u6.2.2.1, xI cy ((L 13)) 8 u6.2.2.2.1, xI cy ((L 14)) 8 u6.2.2.2.2, xI cy ((L 48)) 5 b_refusals]) (mk := [none, none, none, none, none, none, none, none, none, none, none, none, none]) C hw (c_X2_remains l G cy tt ((L 10)) ((L 11)) ((L 12)) ((L 13)) ((L 14)) ((L 1)) v1 u6 b_now _ u7e) zy_X2_remains zm_X7_213 rfl rfl rfl [7, 8, 9, 10, 11, 1] rfl rfl rfl rfl rfl rfl rfl rfl hl.1 ⟨rfl, rfl⟩ ⟨Nat.le_of_ble_eq_true rfl, Nat.le_of_ble_eq_true rfl⟩ rfl (Nat.le_of_ble_eq_true rfl) ⟨Nat.zero_le _, Nat.zero_le _⟩ dX7_needs_55 (fun H locs hw => ?_)
        refine zk_ifz (pc := 58) (tgt := 63) hx hb dX7_needs_58 (by decide) (fun q8 => ?_) (fun q8 => ?_)
        · replace hf := if_f q8 hf
          refine lv_iinc (pc := 63) (v := (v2 + 1)) (lv' := [(2, .int ((v2 + 1))), (0, .ref ((L 0))), (1, .int v1)]) hx hb dX7_needs_63 hl (k := 2) rfl rfl (by decide) rfl (fun ls hl => ?_)
          refine lv_goto (pc := 66) (tgt := 31) hx hb dX7_needs_66 (by decide) ?_
          exact ih v1 ((v2 + 1)) u6 b_refusals _ _ _ hf hw (lv_sub hl [1, 2, 0] rfl)
        · replace hf := if_t q8 hf
          refine lv_iload_n (pc := 61) hx hb dX7_needs_61 rfl (lv_at hl 2 rfl) ?_
          have hf := Option.some.inj hf
          subst hf
          exact zk_reti (pc := 62) (ww := [xU L b_seedNow b_keptSeed b_isKept, xTe ((L 1)) b_now, xSt ((L 5)) ((L 6)) ((L 7)) ((L 8)) ((L 9)) b_staff.1, xI cy ((L 6)) 8 b_staff.2.1, xI cy ((L 7)) 8 b_staff.2.2.1, xI cy ((L 8)) 8 b_staff.2.2.2.1, xI cy ((L 9)) 8 b_staff.2.2.2.2, xSt ((L 10)) ((L 11)) ((L 12)) ((L 13)) ((L 14)) u6.1, xI cy ((L 11)) 8 u6.2.1, xI cy ((L 12)) 8 u6.2.2.1, xI cy ((L 13)) 8 u6.2.2.2.1, xI cy ((L 14)) 8 u6.2.2.2.2, xI cy ((L 48)) 5 b_refusals]) C hw hr hQ dX7_needs_62
  rw [zf_X7_needs] at hf
  refine lv_aload_n (pc := 0) hx hb dX7_needs_0 rfl (lv_at hl 0 rfl) ?_
  refine zk_gt (pc := 1) C hw zl_X7_28 0 rfl rfl dX7_needs_1 ?_
  refine lv_iload_n (pc := 4) hx hb dX7_needs_4 rfl (lv_at hl 1 rfl) ?_
  obtain ⟨u1, u1e, hf⟩ := bd hf
  refine zk_cV (pc := 5) (ci := 2) (q0 := 2) (rest := []) (st1 := [.int (bI u1)]) (w' := [xU L b_seedNow b_keptSeed b_isKept, xTe ((L 1)) b_now, xSt ((L 5)) ((L 6)) ((L 7)) ((L 8)) ((L 9)) b_staff.1, xI cy ((L 6)) 8 b_staff.2.1, xI cy ((L 7)) 8 b_staff.2.2.1, xI cy ((L 8)) 8 b_staff.2.2.2.1, xI cy ((L 9)) 8 b_staff.2.2.2.2, xSt ((L 10)) ((L 11)) ((L 12)) ((L 13)) ((L 14)) b_trialStaff.1, xI cy ((L 11)) 8 b_trialStaff.2.1, xI cy ((L 12)) 8 b_trialStaff.2.2.1, xI cy ((L 13)) 8 b_trialStaff.2.2.2.1, xI cy ((L 14)) 8 b_trialStaff.2.2.2.2, xI cy ((L 48)) 5 b_refusals]) (mk := [none, none, none, none, none, none, none, none, none, none, none, none, none]) C hw (c_X2_has l G cy tt ((L 5)) ((L 6)) ((L 7)) ((L 8)) ((L 9)) x1 b_staff _ u1e) zy_X2_has zm_X7_146 rfl rfl rfl [2, 3, 4, 5, 6] rfl rfl rfl rfl rfl rfl rfl rfl hl.1 ⟨rfl, rfl⟩ ⟨Nat.le_of_ble_eq_true rfl, Nat.le_of_ble_eq_true rfl⟩ rfl (Nat.le_of_ble_eq_true rfl) ⟨Nat.zero_le _, Nat.zero_le _⟩ dX7_needs_5 (fun H locs hw => ?_)
  refine zk_ifnz (pc := 8) (tgt := 18) hx hb dX7_needs_8 (by decide) (fun q2 => ?_) (fun q2 => ?_)
  · replace hf := if_t q2 hf
    refine lv_aload_n (pc := 18) hx hb dX7_needs_18 rfl (lv_at hl 0 rfl) ?_
    refine zk_gt (pc := 19) C hw zl_X7_32 0 rfl rfl dX7_needs_19 ?_
    refine lv_aload_n (pc := 22) hx hb dX7_needs_22 rfl (lv_at hl 0 rfl) ?_
    refine zk_gt (pc := 23) C hw zl_X7_28 0 rfl rfl dX7_needs_23 ?_
    obtain ⟨u3, u3e, hf⟩ := bd hf
    refine zk_cV (pc := 26) (ci := 2) (q0 := 7) (rest := []) (st1 := []) (w' := [xU L b_seedNow b_keptSeed b_isKept, xTe ((L 1)) b_now, xSt ((L 5)) ((L 6)) ((L 7)) ((L 8)) ((L 9)) b_staff.1, xI cy ((L 6)) 8 b_staff.2.1, xI cy ((L 7)) 8 b_staff.2.2.1, xI cy ((L 8)) 8 b_staff.2.2.2.1, xI cy ((L 9)) 8 b_staff.2.2.2.2, xSt ((L 10)) ((L 11)) ((L 12)) ((L 13)) ((L 14)) u3.1, xI cy ((L 11)) 8 u3.2.1, xI cy ((L 12)) 8 u3.2.2.1, xI cy ((L 13)) 8 u3.2.2.2.1, xI cy ((L 14)) 8 u3.2.2.2.2, xI cy ((L 48)) 5 b_refusals]) (mk := [none, none, none, none, none, none, none, some (xSt ((L 10)) ((L 11)) ((L 12)) ((L 13)) ((L 14)) u3.1), some (xI cy ((L 11)) 8 u3.2.1), some (xI cy ((L 12)) 8 u3.2.2.1), some (xI cy ((L 13)) 8 u3.2.2.2.1), some (xI cy ((L 14)) 8 u3.2.2.2.2), none]) C hw (c_X2_become l G cy tt ((L 10)) ((L 11)) ((L 12)) ((L 13)) ((L 14)) ((L 5)) ((L 6)) ((L 7)) ((L 8)) ((L 9)) b_trialStaff b_staff _ u3e) zy_X2_become zm_X7_197 rfl rfl rfl [7, 8, 9, 10, 11, 2, 3, 4, 5, 6] rfl rfl rfl rfl rfl rfl rfl rfl hl.1 ⟨rfl, rfl⟩ ⟨Nat.le_of_ble_eq_true rfl, Nat.le_of_ble_eq_true rfl⟩ rfl (Nat.le_of_ble_eq_true rfl) ⟨Nat.zero_le _, Nat.zero_le _⟩ dX7_needs_26 (fun H locs hw => ?_)
    refine lv_iconst (pc := 29) (v := 0) hx hb dX7_needs_29 (by decide) ?_
    refine lv_istore_n (pc := 30) (lv' := [(2, .int ((0 : Int32))), (0, .ref ((L 0))), (1, .int x1)]) hx hb dX7_needs_30 rfl hl (by decide) rfl (fun ls hl => ?_)
    exact J31 FU x1 ((0 : Int32)) u3 b_refusals _ _ _ hf hw (lv_sub hl [1, 2, 0] rfl)
  · replace hf := if_f q2 hf
    refine lv_aload_n (pc := 11) hx hb dX7_needs_11 rfl (lv_at hl 0 rfl) ?_
    refine lv_bipush (pc := 12) (v := -2) hx hb dX7_needs_12 (by decide) ?_
    obtain ⟨u4, u4e, hf⟩ := bd hf
    refine zk_cV (pc := 14) (ci := 7) (q0 := 0) (rest := []) (st1 := [.int u4.1]) (w' := [xU L b_seedNow b_keptSeed b_isKept, xTe ((L 1)) b_now, xSt ((L 5)) ((L 6)) ((L 7)) ((L 8)) ((L 9)) b_staff.1, xI cy ((L 6)) 8 b_staff.2.1, xI cy ((L 7)) 8 b_staff.2.2.1, xI cy ((L 8)) 8 b_staff.2.2.2.1, xI cy ((L 9)) 8 b_staff.2.2.2.2, xSt ((L 10)) ((L 11)) ((L 12)) ((L 13)) ((L 14)) b_trialStaff.1, xI cy ((L 11)) 8 b_trialStaff.2.1, xI cy ((L 12)) 8 b_trialStaff.2.2.1, xI cy ((L 13)) 8 b_trialStaff.2.2.2.1, xI cy ((L 14)) 8 b_trialStaff.2.2.2.2, xI cy ((L 48)) 5 u4.2]) (mk := [none, none, none, none, none, none, none, none, none, none, none, none, some (xI cy ((L 48)) 5 u4.2)]) C hw (c_X7_refused l G cy tt L b_seedNow b_keptSeed b_isKept (((-2 : Int32))) b_refusals _ u4e) zy_X7_refused zm_X7_103 rfl rfl rfl [0, 12] rfl rfl rfl rfl rfl rfl rfl rfl hl.1 ⟨rfl, rfl⟩ ⟨Nat.le_of_ble_eq_true rfl, Nat.le_of_ble_eq_true rfl⟩ rfl (Nat.le_of_ble_eq_true rfl) ⟨Nat.zero_le _, Nat.zero_le _⟩ dX7_needs_14 (fun H locs hw => ?_)
    have hf := Option.some.inj hf
    subst hf
    exact zk_reti (pc := 17) (ww := [xU L b_seedNow b_keptSeed b_isKept, xTe ((L 1)) b_now, xSt ((L 5)) ((L 6)) ((L 7)) ((L 8)) ((L 9)) b_staff.1, xI cy ((L 6)) 8 b_staff.2.1, xI cy ((L 7)) 8 b_staff.2.2.1, xI cy ((L 8)) 8 b_staff.2.2.2.1, xI cy ((L 9)) 8 b_staff.2.2.2.2, xSt ((L 10)) ((L 11)) ((L 12)) ((L 13)) ((L 14)) b_trialStaff.1, xI cy ((L 11)) 8 b_trialStaff.2.1, xI cy ((L 12)) 8 b_trialStaff.2.2.1, xI cy ((L 13)) 8 b_trialStaff.2.2.2.1, xI cy ((L 14)) 8 b_trialStaff.2.2.2.2, xI cy ((L 48)) 5 u4.2]) C hw hr hQ dX7_needs_17
def zf_X7_until_19 (b_now : TTe) (b_staff : TSt) (b_trial : TTe) (b_refusals : Nat → Int32) : Option (Int32 × TTe × (Nat → Int32)) := (Option.bind (zf_X7_refused (((-2 : Int32))) b_refusals) (fun u9 => some (u9.1, b_trial, u9.2)))
def zf_X7_until_39 (b_now : TTe) (b_staff : TSt) : Nat → Int32 → Int32 → Int32 → TTe → (Nat → Int32) → Option (Int32 × TTe × (Nat → Int32))
  | 0, _, _, _, _, _ => none
  | n + 1, v1, v2, v3, b_trial, b_refusals => (if (200 : Int32) < v3 then some ((-1 : Int32), b_trial, b_refusals) else (if v2 < b_trial.1 then (Option.bind (zf_X5_pass v1 b_trial b_staff) (fun u8 => zf_X7_until_39 b_now b_staff n v1 v2 ((v3 + 1)) u8 b_refusals)) else some (v3, b_trial, b_refusals)))
def zf_X7_until (x1 : Int32) (x2 : Int32) (b_now : TTe) (b_trial : TTe) (b_staff : TSt) (b_refusals : Nat → Int32) : Option (Int32 × TTe × (Nat → Int32)) := (Option.bind (zf_X7_isOrder x1.toInt64 b_staff) (fun u1 => (if u1 then (Option.bind (zf_X7_isWithin x2 (((0 : Int32))) (((99 : Int32)))) (fun u3 => (if u3 then (Option.bind (zf_X5_become b_trial b_now) (fun u5 => zf_X7_until_39 b_now b_staff FU x1 x2 ((0 : Int32)) u5 b_refusals)) else zf_X7_until_19 b_now b_staff b_trial b_refusals))) else zf_X7_until_19 b_now b_staff b_trial b_refusals)))
abbrev zr_X7_until : Room := { frames := 3, cells := 0, slots := 0, locals := 68 }
set_option maxHeartbeats 4000000 in
set_option maxRecDepth 100000 in
theorem c_X7_until (l : Launch) (G : va_G) (cy : Nat → ClassId) (tt : Nat → Nat) (L : Nat → Nat) (b_seedNow : Int32) (b_keptSeed : Int32) (b_isKept : Bool) (x1 : Int32) (x2 : Int32) (b_now : TTe) (b_trial : TTe) (b_staff : TSt) (b_refusals : Nat → Int32) (res : Int32 × TTe × (Nat → Int32)) (hf : zf_X7_until x1 x2 b_now b_trial b_staff b_refusals = some res) : zCT l yX7_until cX7_until 4 (some .int) zr_X7_until G cy tt [.ref ((L 0)), .int x1, .int x2] [xU L b_seedNow b_keptSeed b_isKept, xTe ((L 1)) b_now, xTe ((L 2)) b_trial, xSt ((L 5)) ((L 6)) ((L 7)) ((L 8)) ((L 9)) b_staff.1, xI cy ((L 6)) 8 b_staff.2.1, xI cy ((L 7)) 8 b_staff.2.2.1, xI cy ((L 8)) 8 b_staff.2.2.2.1, xI cy ((L 9)) 8 b_staff.2.2.2.2, xI cy ((L 48)) 5 b_refusals] (some (.int res.1)) [xU L b_seedNow b_keptSeed b_isKept, xTe ((L 1)) b_now, xTe ((L 2)) res.2.1, xSt ((L 5)) ((L 6)) ((L 7)) ((L 8)) ((L 9)) b_staff.1, xI cy ((L 6)) 8 b_staff.2.1, xI cy ((L 7)) 8 b_staff.2.2.1, xI cy ((L 8)) 8 b_staff.2.2.2.1, xI cy ((L 9)) 8 b_staff.2.2.2.2, xI cy ((L 48)) 5 res.2.2] := by
  refine zk_start zn_X7 (Nat.le_of_ble_eq_true rfl) ?_
  intro p e s m args below meth c A ls Q C hr hQ hw hl
  have C : zCx p m c s args meth cX7_until 4 RX7 G cy tt A := C
  have hx := C.1.1
  have hb := C.1.2.1
  have hl : lv_has ls 4 [(0, .ref ((L 0))), (1, .int x1), (2, .int x2)] := hl
  have J19 : ∀ (b_trial : TTe) (b_refusals : Nat → Int32) (H : Heap) (locs : List Loc) (ls : Array Slot), zf_X7_until_19 b_now b_staff b_trial b_refusals = some res → zWd G A s.heap H locs [xU L b_seedNow b_keptSeed b_isKept, xTe ((L 1)) b_now, xTe ((L 2)) b_trial, xSt ((L 5)) ((L 6)) ((L 7)) ((L 8)) ((L 9)) b_staff.1, xI cy ((L 6)) 8 b_staff.2.1, xI cy ((L 7)) 8 b_staff.2.2.1, xI cy ((L 8)) 8 b_staff.2.2.2.1, xI cy ((L 9)) 8 b_staff.2.2.2.2, xI cy ((L 48)) 5 b_refusals] → lv_has ls 4 [(0, .ref ((L 0)))] → W p l e zr_X7_until s m args below meth c H locs 0 0 Q (F0 m 19 ls []) := by
    intro b_trial b_refusals H locs ls hf hw hl
    rw [zf_X7_until_19] at hf
    refine lv_aload_n (pc := 19) hx hb dX7_until_19 rfl (lv_at hl 0 rfl) ?_
    refine lv_bipush (pc := 20) (v := -2) hx hb dX7_until_20 (by decide) ?_
    obtain ⟨u9, u9e, hf⟩ := bd hf
    refine zk_cV (pc := 22) (ci := 7) (q0 := 0) (rest := []) (st1 := [.int u9.1]) (w' := [xU L b_seedNow b_keptSeed b_isKept, xTe ((L 1)) b_now, xTe ((L 2)) b_trial, xSt ((L 5)) ((L 6)) ((L 7)) ((L 8)) ((L 9)) b_staff.1, xI cy ((L 6)) 8 b_staff.2.1, xI cy ((L 7)) 8 b_staff.2.2.1, xI cy ((L 8)) 8 b_staff.2.2.2.1, xI cy ((L 9)) 8 b_staff.2.2.2.2, xI cy ((L 48)) 5 u9.2]) (mk := [none, none, none, none, none, none, none, none, some (xI cy ((L 48)) 5 u9.2)]) C hw (c_X7_refused l G cy tt L b_seedNow b_keptSeed b_isKept (((-2 : Int32))) b_refusals _ u9e) zy_X7_refused zm_X7_103 rfl rfl rfl [0, 8] rfl rfl rfl rfl rfl rfl rfl rfl hl.1 ⟨rfl, rfl⟩ ⟨Nat.le_of_ble_eq_true rfl, Nat.le_of_ble_eq_true rfl⟩ rfl (Nat.le_of_ble_eq_true rfl) ⟨Nat.zero_le _, Nat.zero_le _⟩ dX7_until_22 (fun H locs hw => ?_)
    have hf := Option.some.inj hf
    subst hf
    exact zk_reti (pc := 25) (ww := [xU L b_seedNow b_keptSeed b_isKept, xTe ((L 1)) b_now, xTe ((L 2)) b_trial, xSt ((L 5)) ((L 6)) ((L 7)) ((L 8)) ((L 9)) b_staff.1, xI cy ((L 6)) 8 b_staff.2.1, xI cy ((L 7)) 8 b_staff.2.2.1, xI cy ((L 8)) 8 b_staff.2.2.2.1, xI cy ((L 9)) 8 b_staff.2.2.2.2, xI cy ((L 48)) 5 u9.2]) C hw hr hQ dX7_until_25
  have J39 : ∀ (n : Nat), ∀ (v1 : Int32) (v2 : Int32) (v3 : Int32) (b_trial : TTe) (b_refusals : Nat → Int32) (H : Heap) (locs : List Loc) (ls : Array Slot), zf_X7_until_39 b_now b_staff n v1 v2 v3 b_trial b_refusals = some res → zWd G A s.heap H locs [xU L b_seedNow b_keptSeed b_isKept, xTe ((L 1)) b_now, xTe ((L 2)) b_trial, xSt ((L 5)) ((L 6)) ((L 7)) ((L 8)) ((L 9)) b_staff.1, xI cy ((L 6)) 8 b_staff.2.1, xI cy ((L 7)) 8 b_staff.2.2.1, xI cy ((L 8)) 8 b_staff.2.2.2.1, xI cy ((L 9)) 8 b_staff.2.2.2.2, xI cy ((L 48)) 5 b_refusals] → lv_has ls 4 [(0, .ref ((L 0))), (1, .int v1), (2, .int v2), (3, .int v3)] → W p l e zr_X7_until s m args below meth c H locs 0 0 Q (F0 m 39 ls []) := by
    intro n
    induction n with
    | zero =>
      intro v1 v2 v3 b_trial b_refusals H locs ls hf hw hl
      rw [zf_X7_until_39] at hf
      cases hf
    | succ n ih =>
      intro v1 v2 v3 b_trial b_refusals H locs ls hf hw hl
      rw [zf_X7_until_39] at hf
      refine lv_iload_n (pc := 39) hx hb dX7_until_39 rfl (lv_at hl 3 rfl) ?_
      refine lv_sipush (pc := 40) (v := 200) hx hb dX7_until_40 (by decide) ?_
      refine lv_icmp_gt (pc := 43) (tgt := 77) hx hb dX7_until_43 (by decide) (fun q6 => ?_) (fun q6 => ?_)
      · replace hf := if_t q6 hf
        refine lv_iconst (pc := 77) (v := -1) hx hb dX7_until_77 (by decide) ?_
        have hf := Option.some.inj hf
        subst hf
        exact zk_reti (pc := 78) (ww := [xU L b_seedNow b_keptSeed b_isKept, xTe ((L 1)) b_now, xTe ((L 2)) b_trial, xSt ((L 5)) ((L 6)) ((L 7)) ((L 8)) ((L 9)) b_staff.1, xI cy ((L 6)) 8 b_staff.2.1, xI cy ((L 7)) 8 b_staff.2.2.1, xI cy ((L 8)) 8 b_staff.2.2.2.1, xI cy ((L 9)) 8 b_staff.2.2.2.2, xI cy ((L 48)) 5 b_refusals]) C hw hr hQ dX7_until_78
      · replace hf := if_f q6 hf
        refine lv_aload_n (pc := 46) hx hb dX7_until_46 rfl (lv_at hl 0 rfl) ?_
        refine zk_gt (pc := 47) C hw zl_X7_16 0 rfl rfl dX7_until_47 ?_
        refine zk_gt (pc := 50) C hw zl_X7_330 2 rfl rfl dX7_until_50 ?_
        refine lv_iload_n (pc := 53) hx hb dX7_until_53 rfl (lv_at hl 2 rfl) ?_
        refine lv_icmp_gt (pc := 54) (tgt := 59) hx hb dX7_until_54 (by decide) (fun q7 => ?_) (fun q7 => ?_)
        · replace hf := if_t q7 hf
          refine lv_aload_n (pc := 59) hx hb dX7_until_59 rfl (lv_at hl 0 rfl) ?_
          refine zk_gt (pc := 60) C hw zl_X7_16 0 rfl rfl dX7_until_60 ?_
          refine lv_iload_n (pc := 63) hx hb dX7_until_63 rfl (lv_at hl 1 rfl) ?_
          refine lv_aload_n (pc := 64) hx hb dX7_until_64 rfl (lv_at hl 0 rfl) ?_
          refine zk_gt (pc := 65) C hw zl_X7_28 0 rfl rfl dX7_until_65 ?_
          obtain ⟨u8, u8e, hf⟩ := bd hf
          refine zk_cV (pc := 68) (ci := 5) (q0 := 2) (rest := []) (st1 := []) (w' := [xU L b_seedNow b_keptSeed b_isKept, xTe ((L 1)) b_now, xTe ((L 2)) u8, xSt ((L 5)) ((L 6)) ((L 7)) ((L 8)) ((L 9)) b_staff.1, xI cy ((L 6)) 8 b_staff.2.1, xI cy ((L 7)) 8 b_staff.2.2.1, xI cy ((L 8)) 8 b_staff.2.2.2.1, xI cy ((L 9)) 8 b_staff.2.2.2.2, xI cy ((L 48)) 5 b_refusals]) (mk := [none, none, some (xTe ((L 2)) u8), none, none, none, none, none, none]) C hw (c_X5_pass l G cy tt ((L 2)) ((L 5)) ((L 6)) ((L 7)) ((L 8)) ((L 9)) v1 b_trial b_staff _ u8e) zy_X5_pass zm_X7_307 rfl rfl rfl [2, 3, 4, 5, 6, 7] rfl rfl rfl rfl rfl rfl rfl rfl hl.1 ⟨rfl, rfl⟩ ⟨Nat.le_of_ble_eq_true rfl, Nat.le_of_ble_eq_true rfl⟩ rfl (Nat.le_of_ble_eq_true rfl) ⟨Nat.zero_le _, Nat.zero_le _⟩ dX7_until_68 (fun H locs hw => ?_)
          refine lv_iinc (pc := 71) (v := (v3 + 1)) (lv' := [(3, .int ((v3 + 1))), (0, .ref ((L 0))), (1, .int v1), (2, .int v2)]) hx hb dX7_until_71 hl (k := 3) rfl rfl (by decide) rfl (fun ls hl => ?_)
          refine lv_goto (pc := 74) (tgt := 39) hx hb dX7_until_74 (by decide) ?_
          exact ih v1 v2 ((v3 + 1)) u8 b_refusals _ _ _ hf hw (lv_sub hl [1, 2, 3, 0] rfl)
        · replace hf := if_f q7 hf
          refine lv_iload_n (pc := 57) hx hb dX7_until_57 rfl (lv_at hl 3 rfl) ?_
          have hf := Option.some.inj hf
          subst hf
          exact zk_reti (pc := 58) (ww := [xU L b_seedNow b_keptSeed b_isKept, xTe ((L 1)) b_now, xTe ((L 2)) b_trial, xSt ((L 5)) ((L 6)) ((L 7)) ((L 8)) ((L 9)) b_staff.1, xI cy ((L 6)) 8 b_staff.2.1, xI cy ((L 7)) 8 b_staff.2.2.1, xI cy ((L 8)) 8 b_staff.2.2.2.1, xI cy ((L 9)) 8 b_staff.2.2.2.2, xI cy ((L 48)) 5 b_refusals]) C hw hr hQ dX7_until_58
  rw [zf_X7_until] at hf
  refine lv_aload_n (pc := 0) hx hb dX7_until_0 rfl (lv_at hl 0 rfl) ?_
  refine lv_iload_n (pc := 1) hx hb dX7_until_1 rfl (lv_at hl 1 rfl) ?_
  refine lv_i2l (pc := 2) (v := x1.toInt64) hx hb dX7_until_2 rfl ?_
  obtain ⟨u1, u1e, hf⟩ := bd hf
  refine zk_cV (pc := 3) (ci := 7) (q0 := 0) (rest := []) (st1 := [.int (bI u1)]) (w' := [xU L b_seedNow b_keptSeed b_isKept, xTe ((L 1)) b_now, xTe ((L 2)) b_trial, xSt ((L 5)) ((L 6)) ((L 7)) ((L 8)) ((L 9)) b_staff.1, xI cy ((L 6)) 8 b_staff.2.1, xI cy ((L 7)) 8 b_staff.2.2.1, xI cy ((L 8)) 8 b_staff.2.2.2.1, xI cy ((L 9)) 8 b_staff.2.2.2.2, xI cy ((L 48)) 5 b_refusals]) (mk := [none, none, none, none, none, none, none, none, none]) C hw (c_X7_isOrder l G cy tt L b_seedNow b_keptSeed b_isKept x1.toInt64 b_staff _ u1e) zy_X7_isOrder zm_X7_221 rfl rfl rfl [0, 3, 4, 5, 6, 7] rfl rfl rfl rfl rfl rfl rfl rfl hl.1 ⟨rfl, rfl⟩ ⟨Nat.le_of_ble_eq_true rfl, Nat.le_of_ble_eq_true rfl⟩ rfl (Nat.le_of_ble_eq_true rfl) ⟨Nat.zero_le _, Nat.zero_le _⟩ dX7_until_3 (fun H locs hw => ?_)
  refine zk_ifz (pc := 6) (tgt := 19) hx hb dX7_until_6 (by decide) (fun q2 => ?_) (fun q2 => ?_)
  · replace hf := if_f q2 hf
    exact J19 b_trial b_refusals _ _ _ hf hw (lv_sub hl [0] rfl)
  · replace hf := if_t q2 hf
    refine lv_iload_n (pc := 9) hx hb dX7_until_9 rfl (lv_at hl 2 rfl) ?_
    refine lv_iconst (pc := 10) (v := 0) hx hb dX7_until_10 (by decide) ?_
    refine lv_bipush (pc := 11) (v := 99) hx hb dX7_until_11 (by decide) ?_
    obtain ⟨u3, u3e, hf⟩ := bd hf
    refine zk_cS (pc := 13) (rest := []) (st1 := [.int (bI u3)]) (w' := [xU L b_seedNow b_keptSeed b_isKept, xTe ((L 1)) b_now, xTe ((L 2)) b_trial, xSt ((L 5)) ((L 6)) ((L 7)) ((L 8)) ((L 9)) b_staff.1, xI cy ((L 6)) 8 b_staff.2.1, xI cy ((L 7)) 8 b_staff.2.2.1, xI cy ((L 8)) 8 b_staff.2.2.2.1, xI cy ((L 9)) 8 b_staff.2.2.2.2, xI cy ((L 48)) 5 b_refusals]) (mk := [none, none, none, none, none, none, none, none, none]) C hw (c_X7_isWithin l G cy tt x2 (((0 : Int32))) (((99 : Int32))) _ u3e) zy_X7_isWithin zm_X7_99 [] rfl rfl rfl rfl rfl rfl rfl rfl hl.1 ⟨rfl, rfl⟩ ⟨Nat.le_of_ble_eq_true rfl, Nat.le_of_ble_eq_true rfl⟩ rfl (Nat.le_of_ble_eq_true rfl) ⟨Nat.zero_le _, Nat.zero_le _⟩ dX7_until_13 (fun H locs hw => ?_)
    refine zk_ifnz (pc := 16) (tgt := 26) hx hb dX7_until_16 (by decide) (fun q4 => ?_) (fun q4 => ?_)
    · replace hf := if_t q4 hf
      refine lv_aload_n (pc := 26) hx hb dX7_until_26 rfl (lv_at hl 0 rfl) ?_
      refine zk_gt (pc := 27) C hw zl_X7_16 0 rfl rfl dX7_until_27 ?_
      refine lv_aload_n (pc := 30) hx hb dX7_until_30 rfl (lv_at hl 0 rfl) ?_
      refine zk_gt (pc := 31) C hw zl_X7_10 0 rfl rfl dX7_until_31 ?_
      obtain ⟨u5, u5e, hf⟩ := bd hf
      refine zk_cV (pc := 34) (ci := 5) (q0 := 2) (rest := []) (st1 := []) (w' := [xU L b_seedNow b_keptSeed b_isKept, xTe ((L 1)) b_now, xTe ((L 2)) u5, xSt ((L 5)) ((L 6)) ((L 7)) ((L 8)) ((L 9)) b_staff.1, xI cy ((L 6)) 8 b_staff.2.1, xI cy ((L 7)) 8 b_staff.2.2.1, xI cy ((L 8)) 8 b_staff.2.2.2.1, xI cy ((L 9)) 8 b_staff.2.2.2.2, xI cy ((L 48)) 5 b_refusals]) (mk := [none, none, some (xTe ((L 2)) u5), none, none, none, none, none, none]) C hw (c_X5_become l G cy tt ((L 2)) ((L 1)) b_trial b_now _ u5e) zy_X5_become zm_X7_193 rfl rfl rfl [2, 1] rfl rfl rfl rfl rfl rfl rfl rfl hl.1 ⟨rfl, rfl⟩ ⟨Nat.le_of_ble_eq_true rfl, Nat.le_of_ble_eq_true rfl⟩ rfl (Nat.le_of_ble_eq_true rfl) ⟨Nat.zero_le _, Nat.zero_le _⟩ dX7_until_34 (fun H locs hw => ?_)
      refine lv_iconst (pc := 37) (v := 0) hx hb dX7_until_37 (by decide) ?_
      refine lv_istore_n (pc := 38) (lv' := [(3, .int ((0 : Int32))), (0, .ref ((L 0))), (1, .int x1), (2, .int x2)]) hx hb dX7_until_38 rfl hl (by decide) rfl (fun ls hl => ?_)
      exact J39 FU x1 x2 ((0 : Int32)) u5 b_refusals _ _ _ hf hw (lv_sub hl [1, 2, 3, 0] rfl)
    · replace hf := if_f q4 hf
      exact J19 b_trial b_refusals _ _ _ hf hw (lv_sub hl [0] rfl)
def zf_X7_first_18 (b_now : TTe) (b_staff : TSt) (b_trial : TTe) (b_rival : TTe) (b_refusals : Nat → Int32) : Option (Int32 × TTe × TTe × (Nat → Int32)) := (Option.bind (zf_X7_refused (((-2 : Int32))) b_refusals) (fun u13 => some (u13.1, b_trial, b_rival, u13.2)))
def zf_X7_first (x1 : Int32) (x2 : Int32) (b_now : TTe) (b_trial : TTe) (b_rival : TTe) (b_staff : TSt) (b_refusals : Nat → Int32) : Option (Int32 × TTe × TTe × (Nat → Int32)) := (Option.bind (zf_X7_isOrder x1.toInt64 b_staff) (fun u1 => (if u1 then (Option.bind (zf_X7_isOrder x2.toInt64 b_staff) (fun u3 => (if u3 then (Option.bind (zf_X5_become b_trial b_now) (fun u5 => (Option.bind (zf_X5_pass x1 u5 b_staff) (fun u6 => (Option.bind (zf_X5_pass x2 u6 b_staff) (fun u7 => (Option.bind (zf_X5_become b_rival b_now) (fun u8 => (Option.bind (zf_X5_pass x2 u8 b_staff) (fun u9 => (Option.bind (zf_X5_pass x1 u9 b_staff) (fun u10 => (if u7.1 = u10.1 then some ((2 : Int32), u7, u10, b_refusals) else (if u10.1 ≤ u7.1 then some ((1 : Int32), u7, u10, b_refusals) else some ((0 : Int32), u7, u10, b_refusals))))))))))))))) else zf_X7_first_18 b_now b_staff b_trial b_rival b_refusals))) else zf_X7_first_18 b_now b_staff b_trial b_rival b_refusals)))
abbrev zr_X7_first : Room := { frames := 3, cells := 0, slots := 0, locals := 68 }
set_option maxHeartbeats 4000000 in
set_option maxRecDepth 100000 in
theorem c_X7_first (l : Launch) (G : va_G) (cy : Nat → ClassId) (tt : Nat → Nat) (L : Nat → Nat) (b_seedNow : Int32) (b_keptSeed : Int32) (b_isKept : Bool) (x1 : Int32) (x2 : Int32) (b_now : TTe) (b_trial : TTe) (b_rival : TTe) (b_staff : TSt) (b_refusals : Nat → Int32) (res : Int32 × TTe × TTe × (Nat → Int32)) (hf : zf_X7_first x1 x2 b_now b_trial b_rival b_staff b_refusals = some res) : zCT l yX7_first cX7_first 3 (some .int) zr_X7_first G cy tt [.ref ((L 0)), .int x1, .int x2] [xU L b_seedNow b_keptSeed b_isKept, xTe ((L 1)) b_now, xTe ((L 2)) b_trial, xTe ((L 3)) b_rival, xSt ((L 5)) ((L 6)) ((L 7)) ((L 8)) ((L 9)) b_staff.1, xI cy ((L 6)) 8 b_staff.2.1, xI cy ((L 7)) 8 b_staff.2.2.1, xI cy ((L 8)) 8 b_staff.2.2.2.1, xI cy ((L 9)) 8 b_staff.2.2.2.2, xI cy ((L 48)) 5 b_refusals] (some (.int res.1)) [xU L b_seedNow b_keptSeed b_isKept, xTe ((L 1)) b_now, xTe ((L 2)) res.2.1, xTe ((L 3)) res.2.2.1, xSt ((L 5)) ((L 6)) ((L 7)) ((L 8)) ((L 9)) b_staff.1, xI cy ((L 6)) 8 b_staff.2.1, xI cy ((L 7)) 8 b_staff.2.2.1, xI cy ((L 8)) 8 b_staff.2.2.2.1, xI cy ((L 9)) 8 b_staff.2.2.2.2, xI cy ((L 48)) 5 res.2.2.2] := by
  refine zk_start zn_X7 (Nat.le_of_ble_eq_true rfl) ?_
  intro p e s m args below meth c A ls Q C hr hQ hw hl
  have C : zCx p m c s args meth cX7_first 3 RX7 G cy tt A := C
  have hx := C.1.1
  have hb := C.1.2.1
  have hl : lv_has ls 3 [(0, .ref ((L 0))), (1, .int x1), (2, .int x2)] := hl
  have J18 : ∀ (b_trial : TTe) (b_rival : TTe) (b_refusals : Nat → Int32) (H : Heap) (locs : List Loc) (ls : Array Slot), zf_X7_first_18 b_now b_staff b_trial b_rival b_refusals = some res → zWd G A s.heap H locs [xU L b_seedNow b_keptSeed b_isKept, xTe ((L 1)) b_now, xTe ((L 2)) b_trial, xTe ((L 3)) b_rival, xSt ((L 5)) ((L 6)) ((L 7)) ((L 8)) ((L 9)) b_staff.1, xI cy ((L 6)) 8 b_staff.2.1, xI cy ((L 7)) 8 b_staff.2.2.1, xI cy ((L 8)) 8 b_staff.2.2.2.1, xI cy ((L 9)) 8 b_staff.2.2.2.2, xI cy ((L 48)) 5 b_refusals] → lv_has ls 3 [(0, .ref ((L 0)))] → W p l e zr_X7_first s m args below meth c H locs 0 0 Q (F0 m 18 ls []) := by
    intro b_trial b_rival b_refusals H locs ls hf hw hl
    rw [zf_X7_first_18] at hf
    refine lv_aload_n (pc := 18) hx hb dX7_first_18 rfl (lv_at hl 0 rfl) ?_
    refine lv_bipush (pc := 19) (v := -2) hx hb dX7_first_19 (by decide) ?_
    obtain ⟨u13, u13e, hf⟩ := bd hf
    refine zk_cV (pc := 21) (ci := 7) (q0 := 0) (rest := []) (st1 := [.int u13.1]) (w' := [xU L b_seedNow b_keptSeed b_isKept, xTe ((L 1)) b_now, xTe ((L 2)) b_trial, xTe ((L 3)) b_rival, xSt ((L 5)) ((L 6)) ((L 7)) ((L 8)) ((L 9)) b_staff.1, xI cy ((L 6)) 8 b_staff.2.1, xI cy ((L 7)) 8 b_staff.2.2.1, xI cy ((L 8)) 8 b_staff.2.2.2.1, xI cy ((L 9)) 8 b_staff.2.2.2.2, xI cy ((L 48)) 5 u13.2]) (mk := [none, none, none, none, none, none, none, none, none, some (xI cy ((L 48)) 5 u13.2)]) C hw (c_X7_refused l G cy tt L b_seedNow b_keptSeed b_isKept (((-2 : Int32))) b_refusals _ u13e) zy_X7_refused zm_X7_103 rfl rfl rfl [0, 9] rfl rfl rfl rfl rfl rfl rfl rfl hl.1 ⟨rfl, rfl⟩ ⟨Nat.le_of_ble_eq_true rfl, Nat.le_of_ble_eq_true rfl⟩ rfl (Nat.le_of_ble_eq_true rfl) ⟨Nat.zero_le _, Nat.zero_le _⟩ dX7_first_21 (fun H locs hw => ?_)
    have hf := Option.some.inj hf
    subst hf
    exact zk_reti (pc := 24) (ww := [xU L b_seedNow b_keptSeed b_isKept, xTe ((L 1)) b_now, xTe ((L 2)) b_trial, xTe ((L 3)) b_rival, xSt ((L 5)) ((L 6)) ((L 7)) ((L 8)) ((L 9)) b_staff.1, xI cy ((L 6)) 8 b_staff.2.1, xI cy ((L 7)) 8 b_staff.2.2.1, xI cy ((L 8)) 8 b_staff.2.2.2.1, xI cy ((L 9)) 8 b_staff.2.2.2.2, xI cy ((L 48)) 5 u13.2]) C hw hr hQ dX7_first_24
  rw [zf_X7_first] at hf
  refine lv_aload_n (pc := 0) hx hb dX7_first_0 rfl (lv_at hl 0 rfl) ?_
  refine lv_iload_n (pc := 1) hx hb dX7_first_1 rfl (lv_at hl 1 rfl) ?_
  refine lv_i2l (pc := 2) (v := x1.toInt64) hx hb dX7_first_2 rfl ?_
  obtain ⟨u1, u1e, hf⟩ := bd hf
  refine zk_cV (pc := 3) (ci := 7) (q0 := 0) (rest := []) (st1 := [.int (bI u1)]) (w' := [xU L b_seedNow b_keptSeed b_isKept, xTe ((L 1)) b_now, xTe ((L 2)) b_trial, xTe ((L 3)) b_rival, xSt ((L 5)) ((L 6)) ((L 7)) ((L 8)) ((L 9)) b_staff.1, xI cy ((L 6)) 8 b_staff.2.1, xI cy ((L 7)) 8 b_staff.2.2.1, xI cy ((L 8)) 8 b_staff.2.2.2.1, xI cy ((L 9)) 8 b_staff.2.2.2.2, xI cy ((L 48)) 5 b_refusals]) (mk := [none, none, none, none, none, none, none, none, none, none]) C hw (c_X7_isOrder l G cy tt L b_seedNow b_keptSeed b_isKept x1.toInt64 b_staff _ u1e) zy_X7_isOrder zm_X7_221 rfl rfl rfl [0, 4, 5, 6, 7, 8] rfl rfl rfl rfl rfl rfl rfl rfl hl.1 ⟨rfl, rfl⟩ ⟨Nat.le_of_ble_eq_true rfl, Nat.le_of_ble_eq_true rfl⟩ rfl (Nat.le_of_ble_eq_true rfl) ⟨Nat.zero_le _, Nat.zero_le _⟩ dX7_first_3 (fun H locs hw => ?_)
  refine zk_ifz (pc := 6) (tgt := 18) hx hb dX7_first_6 (by decide) (fun q2 => ?_) (fun q2 => ?_)
  · replace hf := if_f q2 hf
    exact J18 b_trial b_rival b_refusals _ _ _ hf hw (lv_sub hl [0] rfl)
  · replace hf := if_t q2 hf
    refine lv_aload_n (pc := 9) hx hb dX7_first_9 rfl (lv_at hl 0 rfl) ?_
    refine lv_iload_n (pc := 10) hx hb dX7_first_10 rfl (lv_at hl 2 rfl) ?_
    refine lv_i2l (pc := 11) (v := x2.toInt64) hx hb dX7_first_11 rfl ?_
    obtain ⟨u3, u3e, hf⟩ := bd hf
    refine zk_cV (pc := 12) (ci := 7) (q0 := 0) (rest := []) (st1 := [.int (bI u3)]) (w' := [xU L b_seedNow b_keptSeed b_isKept, xTe ((L 1)) b_now, xTe ((L 2)) b_trial, xTe ((L 3)) b_rival, xSt ((L 5)) ((L 6)) ((L 7)) ((L 8)) ((L 9)) b_staff.1, xI cy ((L 6)) 8 b_staff.2.1, xI cy ((L 7)) 8 b_staff.2.2.1, xI cy ((L 8)) 8 b_staff.2.2.2.1, xI cy ((L 9)) 8 b_staff.2.2.2.2, xI cy ((L 48)) 5 b_refusals]) (mk := [none, none, none, none, none, none, none, none, none, none]) C hw (c_X7_isOrder l G cy tt L b_seedNow b_keptSeed b_isKept x2.toInt64 b_staff _ u3e) zy_X7_isOrder zm_X7_221 rfl rfl rfl [0, 4, 5, 6, 7, 8] rfl rfl rfl rfl rfl rfl rfl rfl hl.1 ⟨rfl, rfl⟩ ⟨Nat.le_of_ble_eq_true rfl, Nat.le_of_ble_eq_true rfl⟩ rfl (Nat.le_of_ble_eq_true rfl) ⟨Nat.zero_le _, Nat.zero_le _⟩ dX7_first_12 (fun H locs hw => ?_)
    refine zk_ifnz (pc := 15) (tgt := 25) hx hb dX7_first_15 (by decide) (fun q4 => ?_) (fun q4 => ?_)
    · replace hf := if_t q4 hf
      refine lv_aload_n (pc := 25) hx hb dX7_first_25 rfl (lv_at hl 0 rfl) ?_
      refine zk_gt (pc := 26) C hw zl_X7_16 0 rfl rfl dX7_first_26 ?_
      refine lv_aload_n (pc := 29) hx hb dX7_first_29 rfl (lv_at hl 0 rfl) ?_
      refine zk_gt (pc := 30) C hw zl_X7_10 0 rfl rfl dX7_first_30 ?_
      obtain ⟨u5, u5e, hf⟩ := bd hf
      refine zk_cV (pc := 33) (ci := 5) (q0 := 2) (rest := []) (st1 := []) (w' := [xU L b_seedNow b_keptSeed b_isKept, xTe ((L 1)) b_now, xTe ((L 2)) u5, xTe ((L 3)) b_rival, xSt ((L 5)) ((L 6)) ((L 7)) ((L 8)) ((L 9)) b_staff.1, xI cy ((L 6)) 8 b_staff.2.1, xI cy ((L 7)) 8 b_staff.2.2.1, xI cy ((L 8)) 8 b_staff.2.2.2.1, xI cy ((L 9)) 8 b_staff.2.2.2.2, xI cy ((L 48)) 5 b_refusals]) (mk := [none, none, some (xTe ((L 2)) u5), none, none, none, none, none, none, none]) C hw (c_X5_become l G cy tt ((L 2)) ((L 1)) b_trial b_now _ u5e) zy_X5_become zm_X7_193 rfl rfl rfl [2, 1] rfl rfl rfl rfl rfl rfl rfl rfl hl.1 ⟨rfl, rfl⟩ ⟨Nat.le_of_ble_eq_true rfl, Nat.le_of_ble_eq_true rfl⟩ rfl (Nat.le_of_ble_eq_true rfl) ⟨Nat.zero_le _, Nat.zero_le _⟩ dX7_first_33 (fun H locs hw => ?_)
      refine lv_aload_n (pc := 36) hx hb dX7_first_36 rfl (lv_at hl 0 rfl) ?_
      refine zk_gt (pc := 37) C hw zl_X7_16 0 rfl rfl dX7_first_37 ?_
      refine lv_iload_n (pc := 40) hx hb dX7_first_40 rfl (lv_at hl 1 rfl) ?_
      refine lv_aload_n (pc := 41) hx hb dX7_first_41 rfl (lv_at hl 0 rfl) ?_
      refine zk_gt (pc := 42) C hw zl_X7_28 0 rfl rfl dX7_first_42 ?_
      obtain ⟨u6, u6e, hf⟩ := bd hf
      refine zk_cV (pc := 45) (ci := 5) (q0 := 2) (rest := []) (st1 := []) (w' := [xU L b_seedNow b_keptSeed b_isKept, xTe ((L 1)) b_now, xTe ((L 2)) u6, xTe ((L 3)) b_rival, xSt ((L 5)) ((L 6)) ((L 7)) ((L 8)) ((L 9)) b_staff.1, xI cy ((L 6)) 8 b_staff.2.1, xI cy ((L 7)) 8 b_staff.2.2.1, xI cy ((L 8)) 8 b_staff.2.2.2.1, xI cy ((L 9)) 8 b_staff.2.2.2.2, xI cy ((L 48)) 5 b_refusals]) (mk := [none, none, some (xTe ((L 2)) u6), none, none, none, none, none, none, none]) C hw (c_X5_pass l G cy tt ((L 2)) ((L 5)) ((L 6)) ((L 7)) ((L 8)) ((L 9)) x1 u5 b_staff _ u6e) zy_X5_pass zm_X7_307 rfl rfl rfl [2, 4, 5, 6, 7, 8] rfl rfl rfl rfl rfl rfl rfl rfl hl.1 ⟨rfl, rfl⟩ ⟨Nat.le_of_ble_eq_true rfl, Nat.le_of_ble_eq_true rfl⟩ rfl (Nat.le_of_ble_eq_true rfl) ⟨Nat.zero_le _, Nat.zero_le _⟩ dX7_first_45 (fun H locs hw => ?_)
      refine lv_aload_n (pc := 48) hx hb dX7_first_48 rfl (lv_at hl 0 rfl) ?_
      refine zk_gt (pc := 49) C hw zl_X7_16 0 rfl rfl dX7_first_49 ?_
      refine lv_iload_n (pc := 52) hx hb dX7_first_52 rfl (lv_at hl 2 rfl) ?_
      refine lv_aload_n (pc := 53) hx hb dX7_first_53 rfl (lv_at hl 0 rfl) ?_
      refine zk_gt (pc := 54) C hw zl_X7_28 0 rfl rfl dX7_first_54 ?_
      obtain ⟨u7, u7e, hf⟩ := bd hf
      refine zk_cV (pc := 57) (ci := 5) (q0 := 2) (rest := []) (st1 := []) (w' := [xU L b_seedNow b_keptSeed b_isKept, xTe ((L 1)) b_now, xTe ((L 2)) u7, xTe ((L 3)) b_rival, xSt ((L 5)) ((L 6)) ((L 7)) ((L 8)) ((L 9)) b_staff.1, xI cy ((L 6)) 8 b_staff.2.1, xI cy ((L 7)) 8 b_staff.2.2.1, xI cy ((L 8)) 8 b_staff.2.2.2.1, xI cy ((L 9)) 8 b_staff.2.2.2.2, xI cy ((L 48)) 5 b_refusals]) (mk := [none, none, some (xTe ((L 2)) u7), none, none, none, none, none, none, none]) C hw (c_X5_pass l G cy tt ((L 2)) ((L 5)) ((L 6)) ((L 7)) ((L 8)) ((L 9)) x2 u6 b_staff _ u7e) zy_X5_pass zm_X7_307 rfl rfl rfl [2, 4, 5, 6, 7, 8] rfl rfl rfl rfl rfl rfl rfl rfl hl.1 ⟨rfl, rfl⟩ ⟨Nat.le_of_ble_eq_true rfl, Nat.le_of_ble_eq_true rfl⟩ rfl (Nat.le_of_ble_eq_true rfl) ⟨Nat.zero_le _, Nat.zero_le _⟩ dX7_first_57 (fun H locs hw => ?_)
      refine lv_aload_n (pc := 60) hx hb dX7_first_60 rfl (lv_at hl 0 rfl) ?_
      refine zk_gt (pc := 61) C hw zl_X7_19 0 rfl rfl dX7_first_61 ?_
      refine lv_aload_n (pc := 64) hx hb dX7_first_64 rfl (lv_at hl 0 rfl) ?_
      refine zk_gt (pc := 65) C hw zl_X7_10 0 rfl rfl dX7_first_65 ?_
      obtain ⟨u8, u8e, hf⟩ := bd hf
      refine zk_cV (pc := 68) (ci := 5) (q0 := 3) (rest := []) (st1 := []) (w' := [xU L b_seedNow b_keptSeed b_isKept, xTe ((L 1)) b_now, xTe ((L 2)) u7, xTe ((L 3)) u8, xSt ((L 5)) ((L 6)) ((L 7)) ((L 8)) ((L 9)) b_staff.1, xI cy ((L 6)) 8 b_staff.2.1, xI cy ((L 7)) 8 b_staff.2.2.1, xI cy ((L 8)) 8 b_staff.2.2.2.1, xI cy ((L 9)) 8 b_staff.2.2.2.2, xI cy ((L 48)) 5 b_refusals]) (mk := [none, none, none, some (xTe ((L 3)) u8), none, none, none, none, none, none]) C hw (c_X5_become l G cy tt ((L 3)) ((L 1)) b_rival b_now _ u8e) zy_X5_become zm_X7_193 rfl rfl rfl [3, 1] rfl rfl rfl rfl rfl rfl rfl rfl hl.1 ⟨rfl, rfl⟩ ⟨Nat.le_of_ble_eq_true rfl, Nat.le_of_ble_eq_true rfl⟩ rfl (Nat.le_of_ble_eq_true rfl) ⟨Nat.zero_le _, Nat.zero_le _⟩ dX7_first_68 (fun H locs hw => ?_)
      refine lv_aload_n (pc := 71) hx hb dX7_first_71 rfl (lv_at hl 0 rfl) ?_
      refine zk_gt (pc := 72) C hw zl_X7_19 0 rfl rfl dX7_first_72 ?_
      refine lv_iload_n (pc := 75) hx hb dX7_first_75 rfl (lv_at hl 2 rfl) ?_
      refine lv_aload_n (pc := 76) hx hb dX7_first_76 rfl (lv_at hl 0 rfl) ?_
      refine zk_gt (pc := 77) C hw zl_X7_28 0 rfl rfl dX7_first_77 ?_
      obtain ⟨u9, u9e, hf⟩ := bd hf
      refine zk_cV (pc := 80) (ci := 5) (q0 := 3) (rest := []) (st1 := []) (w' := [xU L b_seedNow b_keptSeed b_isKept, xTe ((L 1)) b_now, xTe ((L 2)) u7, xTe ((L 3)) u9, xSt ((L 5)) ((L 6)) ((L 7)) ((L 8)) ((L 9)) b_staff.1, xI cy ((L 6)) 8 b_staff.2.1, xI cy ((L 7)) 8 b_staff.2.2.1, xI cy ((L 8)) 8 b_staff.2.2.2.1, xI cy ((L 9)) 8 b_staff.2.2.2.2, xI cy ((L 48)) 5 b_refusals]) (mk := [none, none, none, some (xTe ((L 3)) u9), none, none, none, none, none, none]) C hw (c_X5_pass l G cy tt ((L 3)) ((L 5)) ((L 6)) ((L 7)) ((L 8)) ((L 9)) x2 u8 b_staff _ u9e) zy_X5_pass zm_X7_307 rfl rfl rfl [3, 4, 5, 6, 7, 8] rfl rfl rfl rfl rfl rfl rfl rfl hl.1 ⟨rfl, rfl⟩ ⟨Nat.le_of_ble_eq_true rfl, Nat.le_of_ble_eq_true rfl⟩ rfl (Nat.le_of_ble_eq_true rfl) ⟨Nat.zero_le _, Nat.zero_le _⟩ dX7_first_80 (fun H locs hw => ?_)
      refine lv_aload_n (pc := 83) hx hb dX7_first_83 rfl (lv_at hl 0 rfl) ?_
      refine zk_gt (pc := 84) C hw zl_X7_19 0 rfl rfl dX7_first_84 ?_
      refine lv_iload_n (pc := 87) hx hb dX7_first_87 rfl (lv_at hl 1 rfl) ?_
      refine lv_aload_n (pc := 88) hx hb dX7_first_88 rfl (lv_at hl 0 rfl) ?_
      refine zk_gt (pc := 89) C hw zl_X7_28 0 rfl rfl dX7_first_89 ?_
      obtain ⟨u10, u10e, hf⟩ := bd hf
      refine zk_cV (pc := 92) (ci := 5) (q0 := 3) (rest := []) (st1 := []) (w' := [xU L b_seedNow b_keptSeed b_isKept, xTe ((L 1)) b_now, xTe ((L 2)) u7, xTe ((L 3)) u10, xSt ((L 5)) ((L 6)) ((L 7)) ((L 8)) ((L 9)) b_staff.1, xI cy ((L 6)) 8 b_staff.2.1, xI cy ((L 7)) 8 b_staff.2.2.1, xI cy ((L 8)) 8 b_staff.2.2.2.1, xI cy ((L 9)) 8 b_staff.2.2.2.2, xI cy ((L 48)) 5 b_refusals]) (mk := [none, none, none, some (xTe ((L 3)) u10), none, none, none, none, none, none]) C hw (c_X5_pass l G cy tt ((L 3)) ((L 5)) ((L 6)) ((L 7)) ((L 8)) ((L 9)) x1 u9 b_staff _ u10e) zy_X5_pass zm_X7_307 rfl rfl rfl [3, 4, 5, 6, 7, 8] rfl rfl rfl rfl rfl rfl rfl rfl hl.1 ⟨rfl, rfl⟩ ⟨Nat.le_of_ble_eq_true rfl, Nat.le_of_ble_eq_true rfl⟩ rfl (Nat.le_of_ble_eq_true rfl) ⟨Nat.zero_le _, Nat.zero_le _⟩ dX7_first_92 (fun H locs hw => ?_)
      refine lv_aload_n (pc := 95) hx hb dX7_first_95 rfl (lv_at hl 0 rfl) ?_
      refine zk_gt (pc := 96) C hw zl_X7_16 0 rfl rfl dX7_first_96 ?_
      refine zk_gt (pc := 99) C hw zl_X7_330 2 rfl rfl dX7_first_99 ?_
      refine lv_aload_n (pc := 102) hx hb dX7_first_102 rfl (lv_at hl 0 rfl) ?_
      refine zk_gt (pc := 103) C hw zl_X7_19 0 rfl rfl dX7_first_103 ?_
      refine zk_gt (pc := 106) C hw zl_X7_330 3 rfl rfl dX7_first_106 ?_
      refine lv_icmp_ne (pc := 109) (tgt := 114) hx hb dX7_first_109 (by decide) (fun q11 => ?_) (fun q11 => ?_)
      · replace hf := if_f q11 hf
        refine lv_aload_n (pc := 114) hx hb dX7_first_114 rfl (lv_at hl 0 rfl) ?_
        refine zk_gt (pc := 115) C hw zl_X7_16 0 rfl rfl dX7_first_115 ?_
        refine zk_gt (pc := 118) C hw zl_X7_330 2 rfl rfl dX7_first_118 ?_
        refine lv_aload_n (pc := 121) hx hb dX7_first_121 rfl (lv_at hl 0 rfl) ?_
        refine zk_gt (pc := 122) C hw zl_X7_19 0 rfl rfl dX7_first_122 ?_
        refine zk_gt (pc := 125) C hw zl_X7_330 3 rfl rfl dX7_first_125 ?_
        refine lv_icmp_ge (pc := 128) (tgt := 135) hx hb dX7_first_128 (by decide) (fun q12 => ?_) (fun q12 => ?_)
        · replace hf := if_t q12 hf
          refine lv_iconst (pc := 135) (v := 1) hx hb dX7_first_135 (by decide) ?_
          have hf := Option.some.inj hf
          subst hf
          exact zk_reti (pc := 136) (ww := [xU L b_seedNow b_keptSeed b_isKept, xTe ((L 1)) b_now, xTe ((L 2)) u7, xTe ((L 3)) u10, xSt ((L 5)) ((L 6)) ((L 7)) ((L 8)) ((L 9)) b_staff.1, xI cy ((L 6)) 8 b_staff.2.1, xI cy ((L 7)) 8 b_staff.2.2.1, xI cy ((L 8)) 8 b_staff.2.2.2.1, xI cy ((L 9)) 8 b_staff.2.2.2.2, xI cy ((L 48)) 5 b_refusals]) C hw hr hQ dX7_first_136
        · replace hf := if_f q12 hf
          refine lv_iconst (pc := 131) (v := 0) hx hb dX7_first_131 (by decide) ?_
          refine lv_goto (pc := 132) (tgt := 136) hx hb dX7_first_132 (by decide) ?_
          have hf := Option.some.inj hf
          subst hf
          exact zk_reti (pc := 136) (ww := [xU L b_seedNow b_keptSeed b_isKept, xTe ((L 1)) b_now, xTe ((L 2)) u7, xTe ((L 3)) u10, xSt ((L 5)) ((L 6)) ((L 7)) ((L 8)) ((L 9)) b_staff.1, xI cy ((L 6)) 8 b_staff.2.1, xI cy ((L 7)) 8 b_staff.2.2.1, xI cy ((L 8)) 8 b_staff.2.2.2.1, xI cy ((L 9)) 8 b_staff.2.2.2.2, xI cy ((L 48)) 5 b_refusals]) C hw hr hQ dX7_first_136
      · replace hf := if_t q11 hf
        refine lv_iconst (pc := 112) (v := 2) hx hb dX7_first_112 (by decide) ?_
        have hf := Option.some.inj hf
        subst hf
        exact zk_reti (pc := 113) (ww := [xU L b_seedNow b_keptSeed b_isKept, xTe ((L 1)) b_now, xTe ((L 2)) u7, xTe ((L 3)) u10, xSt ((L 5)) ((L 6)) ((L 7)) ((L 8)) ((L 9)) b_staff.1, xI cy ((L 6)) 8 b_staff.2.1, xI cy ((L 7)) 8 b_staff.2.2.1, xI cy ((L 8)) 8 b_staff.2.2.2.1, xI cy ((L 9)) 8 b_staff.2.2.2.2, xI cy ((L 48)) 5 b_refusals]) C hw hr hQ dX7_first_113
    · replace hf := if_f q4 hf
      exact J18 b_trial b_rival b_refusals _ _ _ hf hw (lv_sub hl [0] rfl)
def zf_X7_meetings_13 (b_now : TTe) (b_staff : TSt) : Nat → Int32 → TTe → Option (Int32 × TTe)
  | 0, _, _ => none
  | n + 1, v1, b_trial => (if (200 : Int32) < v1 then some ((-1 : Int32), b_trial) else (if b_trial.2.1 < b_trial.1 then (Option.bind (zf_X5_pass (((10 : Int32))) b_trial b_staff) (fun u4 => zf_X7_meetings_13 b_now b_staff n ((v1 + 1)) u4)) else some (v1, b_trial)))
def zf_X7_meetings  (b_now : TTe) (b_trial : TTe) (b_staff : TSt) : Option (Int32 × TTe) := (Option.bind (zf_X5_become b_trial b_now) (fun u1 => zf_X7_meetings_13 b_now b_staff FU ((0 : Int32)) u1))
abbrev zr_X7_meetings : Room := { frames := 3, cells := 0, slots := 0, locals := 68 }
set_option maxHeartbeats 4000000 in
set_option maxRecDepth 100000 in
theorem c_X7_meetings (l : Launch) (G : va_G) (cy : Nat → ClassId) (tt : Nat → Nat) (L : Nat → Nat) (b_seedNow : Int32) (b_keptSeed : Int32) (b_isKept : Bool)  (b_now : TTe) (b_trial : TTe) (b_staff : TSt) (res : Int32 × TTe) (hf : zf_X7_meetings b_now b_trial b_staff = some res) : zCT l yX7_meetings cX7_meetings 2 (some .int) zr_X7_meetings G cy tt [.ref ((L 0))] [xU L b_seedNow b_keptSeed b_isKept, xTe ((L 1)) b_now, xTe ((L 2)) b_trial, xSt ((L 5)) ((L 6)) ((L 7)) ((L 8)) ((L 9)) b_staff.1, xI cy ((L 6)) 8 b_staff.2.1, xI cy ((L 7)) 8 b_staff.2.2.1, xI cy ((L 8)) 8 b_staff.2.2.2.1, xI cy ((L 9)) 8 b_staff.2.2.2.2] (some (.int res.1)) [xU L b_seedNow b_keptSeed b_isKept, xTe ((L 1)) b_now, xTe ((L 2)) res.2, xSt ((L 5)) ((L 6)) ((L 7)) ((L 8)) ((L 9)) b_staff.1, xI cy ((L 6)) 8 b_staff.2.1, xI cy ((L 7)) 8 b_staff.2.2.1, xI cy ((L 8)) 8 b_staff.2.2.2.1, xI cy ((L 9)) 8 b_staff.2.2.2.2] := by
  refine zk_start zn_X7 (Nat.le_of_ble_eq_true rfl) ?_
  intro p e s m args below meth c A ls Q C hr hQ hw hl
  have C : zCx p m c s args meth cX7_meetings 2 RX7 G cy tt A := C
  have hx := C.1.1
  have hb := C.1.2.1
  have hl : lv_has ls 2 [(0, .ref ((L 0)))] := hl
  have J13 : ∀ (n : Nat), ∀ (v1 : Int32) (b_trial : TTe) (H : Heap) (locs : List Loc) (ls : Array Slot), zf_X7_meetings_13 b_now b_staff n v1 b_trial = some res → zWd G A s.heap H locs [xU L b_seedNow b_keptSeed b_isKept, xTe ((L 1)) b_now, xTe ((L 2)) b_trial, xSt ((L 5)) ((L 6)) ((L 7)) ((L 8)) ((L 9)) b_staff.1, xI cy ((L 6)) 8 b_staff.2.1, xI cy ((L 7)) 8 b_staff.2.2.1, xI cy ((L 8)) 8 b_staff.2.2.2.1, xI cy ((L 9)) 8 b_staff.2.2.2.2] → lv_has ls 2 [(0, .ref ((L 0))), (1, .int v1)] → W p l e zr_X7_meetings s m args below meth c H locs 0 0 Q (F0 m 13 ls []) := by
    intro n
    induction n with
    | zero =>
      intro v1 b_trial H locs ls hf hw hl
      rw [zf_X7_meetings_13] at hf
      cases hf
    | succ n ih =>
      intro v1 b_trial H locs ls hf hw hl
      rw [zf_X7_meetings_13] at hf
      refine lv_iload_n (pc := 13) hx hb dX7_meetings_13 rfl (lv_at hl 1 rfl) ?_
      refine lv_sipush (pc := 14) (v := 200) hx hb dX7_meetings_14 (by decide) ?_
      refine lv_icmp_gt (pc := 17) (tgt := 58) hx hb dX7_meetings_17 (by decide) (fun q2 => ?_) (fun q2 => ?_)
      · replace hf := if_t q2 hf
        refine lv_iconst (pc := 58) (v := -1) hx hb dX7_meetings_58 (by decide) ?_
        have hf := Option.some.inj hf
        subst hf
        exact zk_reti (pc := 59) (ww := [xU L b_seedNow b_keptSeed b_isKept, xTe ((L 1)) b_now, xTe ((L 2)) b_trial, xSt ((L 5)) ((L 6)) ((L 7)) ((L 8)) ((L 9)) b_staff.1, xI cy ((L 6)) 8 b_staff.2.1, xI cy ((L 7)) 8 b_staff.2.2.1, xI cy ((L 8)) 8 b_staff.2.2.2.1, xI cy ((L 9)) 8 b_staff.2.2.2.2]) C hw hr hQ dX7_meetings_59
      · replace hf := if_f q2 hf
        refine lv_aload_n (pc := 20) hx hb dX7_meetings_20 rfl (lv_at hl 0 rfl) ?_
        refine zk_gt (pc := 21) C hw zl_X7_16 0 rfl rfl dX7_meetings_21 ?_
        refine zk_gt (pc := 24) C hw zl_X7_330 2 rfl rfl dX7_meetings_24 ?_
        refine lv_aload_n (pc := 27) hx hb dX7_meetings_27 rfl (lv_at hl 0 rfl) ?_
        refine zk_gt (pc := 28) C hw zl_X7_16 0 rfl rfl dX7_meetings_28 ?_
        refine zk_gt (pc := 31) C hw zl_X7_239 2 rfl rfl dX7_meetings_31 ?_
        refine lv_icmp_gt (pc := 34) (tgt := 39) hx hb dX7_meetings_34 (by decide) (fun q3 => ?_) (fun q3 => ?_)
        · replace hf := if_t q3 hf
          refine lv_aload_n (pc := 39) hx hb dX7_meetings_39 rfl (lv_at hl 0 rfl) ?_
          refine zk_gt (pc := 40) C hw zl_X7_16 0 rfl rfl dX7_meetings_40 ?_
          refine lv_bipush (pc := 43) (v := 10) hx hb dX7_meetings_43 (by decide) ?_
          refine lv_aload_n (pc := 45) hx hb dX7_meetings_45 rfl (lv_at hl 0 rfl) ?_
          refine zk_gt (pc := 46) C hw zl_X7_28 0 rfl rfl dX7_meetings_46 ?_
          obtain ⟨u4, u4e, hf⟩ := bd hf
          refine zk_cV (pc := 49) (ci := 5) (q0 := 2) (rest := []) (st1 := []) (w' := [xU L b_seedNow b_keptSeed b_isKept, xTe ((L 1)) b_now, xTe ((L 2)) u4, xSt ((L 5)) ((L 6)) ((L 7)) ((L 8)) ((L 9)) b_staff.1, xI cy ((L 6)) 8 b_staff.2.1, xI cy ((L 7)) 8 b_staff.2.2.1, xI cy ((L 8)) 8 b_staff.2.2.2.1, xI cy ((L 9)) 8 b_staff.2.2.2.2]) (mk := [none, none, some (xTe ((L 2)) u4), none, none, none, none, none]) C hw (c_X5_pass l G cy tt ((L 2)) ((L 5)) ((L 6)) ((L 7)) ((L 8)) ((L 9)) (((10 : Int32))) b_trial b_staff _ u4e) zy_X5_pass zm_X7_307 rfl rfl rfl [2, 3, 4, 5, 6, 7] rfl rfl rfl rfl rfl rfl rfl rfl hl.1 ⟨rfl, rfl⟩ ⟨Nat.le_of_ble_eq_true rfl, Nat.le_of_ble_eq_true rfl⟩ rfl (Nat.le_of_ble_eq_true rfl) ⟨Nat.zero_le _, Nat.zero_le _⟩ dX7_meetings_49 (fun H locs hw => ?_)
          refine lv_iinc (pc := 52) (v := (v1 + 1)) (lv' := [(1, .int ((v1 + 1))), (0, .ref ((L 0)))]) hx hb dX7_meetings_52 hl (k := 1) rfl rfl (by decide) rfl (fun ls hl => ?_)
          refine lv_goto (pc := 55) (tgt := 13) hx hb dX7_meetings_55 (by decide) ?_
          exact ih ((v1 + 1)) u4 _ _ _ hf hw (lv_sub hl [1, 0] rfl)
        · replace hf := if_f q3 hf
          refine lv_iload_n (pc := 37) hx hb dX7_meetings_37 rfl (lv_at hl 1 rfl) ?_
          have hf := Option.some.inj hf
          subst hf
          exact zk_reti (pc := 38) (ww := [xU L b_seedNow b_keptSeed b_isKept, xTe ((L 1)) b_now, xTe ((L 2)) b_trial, xSt ((L 5)) ((L 6)) ((L 7)) ((L 8)) ((L 9)) b_staff.1, xI cy ((L 6)) 8 b_staff.2.1, xI cy ((L 7)) 8 b_staff.2.2.1, xI cy ((L 8)) 8 b_staff.2.2.2.1, xI cy ((L 9)) 8 b_staff.2.2.2.2]) C hw hr hQ dX7_meetings_38
  rw [zf_X7_meetings] at hf
  refine lv_aload_n (pc := 0) hx hb dX7_meetings_0 rfl (lv_at hl 0 rfl) ?_
  refine zk_gt (pc := 1) C hw zl_X7_16 0 rfl rfl dX7_meetings_1 ?_
  refine lv_aload_n (pc := 4) hx hb dX7_meetings_4 rfl (lv_at hl 0 rfl) ?_
  refine zk_gt (pc := 5) C hw zl_X7_10 0 rfl rfl dX7_meetings_5 ?_
  obtain ⟨u1, u1e, hf⟩ := bd hf
  refine zk_cV (pc := 8) (ci := 5) (q0 := 2) (rest := []) (st1 := []) (w' := [xU L b_seedNow b_keptSeed b_isKept, xTe ((L 1)) b_now, xTe ((L 2)) u1, xSt ((L 5)) ((L 6)) ((L 7)) ((L 8)) ((L 9)) b_staff.1, xI cy ((L 6)) 8 b_staff.2.1, xI cy ((L 7)) 8 b_staff.2.2.1, xI cy ((L 8)) 8 b_staff.2.2.2.1, xI cy ((L 9)) 8 b_staff.2.2.2.2]) (mk := [none, none, some (xTe ((L 2)) u1), none, none, none, none, none]) C hw (c_X5_become l G cy tt ((L 2)) ((L 1)) b_trial b_now _ u1e) zy_X5_become zm_X7_193 rfl rfl rfl [2, 1] rfl rfl rfl rfl rfl rfl rfl rfl hl.1 ⟨rfl, rfl⟩ ⟨Nat.le_of_ble_eq_true rfl, Nat.le_of_ble_eq_true rfl⟩ rfl (Nat.le_of_ble_eq_true rfl) ⟨Nat.zero_le _, Nat.zero_le _⟩ dX7_meetings_8 (fun H locs hw => ?_)
  refine lv_iconst (pc := 11) (v := 0) hx hb dX7_meetings_11 (by decide) ?_
  refine lv_istore_n (pc := 12) (lv' := [(1, .int ((0 : Int32))), (0, .ref ((L 0)))]) hx hb dX7_meetings_12 rfl hl (by decide) rfl (fun ls hl => ?_)
  exact J13 FU ((0 : Int32)) u1 _ _ _ hf hw (lv_sub hl [1, 0] rfl)
def zf_X7_walkTurns_49 (b_now : TTe) (b_staff : TSt) (k5 : Int32 → Int32 → Int32 → TWa → (Nat → Int32) → Option (TWa × (Nat → Int32))) (v2 : Int32) (v4 : Int32) (t0 : Int32) (b_walk : TWa) (b_plan : Nat → Int32) : Option (TWa × (Nat → Int32)) := k5 v2 t0 ((v4 + 1)) b_walk b_plan
def zf_X7_walkTurns_56 (b_now : TTe) (b_staff : TSt) (v2 : Int32) (b_walk : TWa) (b_plan : Nat → Int32) : Option (TWa × (Nat → Int32)) := (Option.bind (zf_X6_along v2 b_walk b_plan b_now b_staff) (fun u5 => some (u5, b_plan)))
def zf_X7_walkTurns_5 (b_now : TTe) (b_staff : TSt) : Nat → Int32 → Int32 → Int32 → TWa → (Nat → Int32) → Option (TWa × (Nat → Int32))
  | 0, _, _, _, _, _ => none
  | n + 1, v2, v3, v4, b_walk, b_plan => (if v2 ≤ v4 then zf_X7_walkTurns_56 b_now b_staff v2 b_walk b_plan else (if (48 : Int32) ≤ v4 then zf_X7_walkTurns_56 b_now b_staff v2 b_walk b_plan else (if ix v4 48 then (if b_staff.1 ≤ (v3 + (1 : Int32)) then zf_X7_walkTurns_49 b_now b_staff (zf_X7_walkTurns_5 b_now b_staff n) v2 v4 ((0 : Int32)) b_walk ((upd b_plan v4.toNatClampNeg v3)) else zf_X7_walkTurns_49 b_now b_staff (zf_X7_walkTurns_5 b_now b_staff n) v2 v4 ((v3 + (1 : Int32))) b_walk ((upd b_plan v4.toNatClampNeg v3))) else none)))
def zf_X7_walkTurns (x1 : Int32) (x2 : Int32) (b_now : TTe) (b_staff : TSt) (b_walk : TWa) (b_plan : Nat → Int32) : Option (TWa × (Nat → Int32)) := zf_X7_walkTurns_5 b_now b_staff FU x2 x1 ((0 : Int32)) b_walk b_plan
abbrev zr_X7_walkTurns : Room := { frames := 4, cells := 0, slots := 0, locals := 93 }
set_option maxHeartbeats 4000000 in
set_option maxRecDepth 100000 in
theorem c_X7_walkTurns (l : Launch) (G : va_G) (cy : Nat → ClassId) (tt : Nat → Nat) (L : Nat → Nat) (b_seedNow : Int32) (b_keptSeed : Int32) (b_isKept : Bool) (x1 : Int32) (x2 : Int32) (b_now : TTe) (b_staff : TSt) (b_walk : TWa) (b_plan : Nat → Int32) (res : TWa × (Nat → Int32)) (hf : zf_X7_walkTurns x1 x2 b_now b_staff b_walk b_plan = some res) : zCT l yX7_walkTurns cX7_walkTurns 5 none zr_X7_walkTurns G cy tt [.ref ((L 0)), .int x1, .int x2] [xU L b_seedNow b_keptSeed b_isKept, xTe ((L 1)) b_now, xSt ((L 5)) ((L 6)) ((L 7)) ((L 8)) ((L 9)) b_staff.1, xI cy ((L 6)) 8 b_staff.2.1, xI cy ((L 7)) 8 b_staff.2.2.1, xI cy ((L 8)) 8 b_staff.2.2.2.1, xI cy ((L 9)) 8 b_staff.2.2.2.2, xWa ((L 34)) ((L 35)) b_walk.2.1 b_walk.2.2.1 b_walk.2.2.2.1 b_walk.2.2.2.2.1 b_walk.2.2.2.2.2.1 b_walk.2.2.2.2.2.2.1 b_walk.2.2.2.2.2.2.2.1 b_walk.2.2.2.2.2.2.2.2, xTe ((L 35)) b_walk.1, xI cy ((L 46)) 48 b_plan] none [xU L b_seedNow b_keptSeed b_isKept, xTe ((L 1)) b_now, xSt ((L 5)) ((L 6)) ((L 7)) ((L 8)) ((L 9)) b_staff.1, xI cy ((L 6)) 8 b_staff.2.1, xI cy ((L 7)) 8 b_staff.2.2.1, xI cy ((L 8)) 8 b_staff.2.2.2.1, xI cy ((L 9)) 8 b_staff.2.2.2.2, xWa ((L 34)) ((L 35)) res.1.2.1 res.1.2.2.1 res.1.2.2.2.1 res.1.2.2.2.2.1 res.1.2.2.2.2.2.1 res.1.2.2.2.2.2.2.1 res.1.2.2.2.2.2.2.2.1 res.1.2.2.2.2.2.2.2.2, xTe ((L 35)) res.1.1, xI cy ((L 46)) 48 res.2] := by
  refine zk_start zn_X7 (Nat.le_of_ble_eq_true rfl) ?_
  intro p e s m args below meth c A ls Q C hr hQ hw hl
  have C : zCx p m c s args meth cX7_walkTurns 5 RX7 G cy tt A := C
  have hx := C.1.1
  have hb := C.1.2.1
  have hl : lv_has ls 5 [(0, .ref ((L 0))), (1, .int x1), (2, .int x2)] := hl
  have J49 : ∀ (k5 : Int32 → Int32 → Int32 → TWa → (Nat → Int32) → Option (TWa × (Nat → Int32))) (K5 : ∀ (v2 : Int32) (v3 : Int32) (v4 : Int32) (b_walk : TWa) (b_plan : Nat → Int32) (H : Heap) (locs : List Loc) (ls : Array Slot), k5 v2 v3 v4 b_walk b_plan = some res → zWd G A s.heap H locs [xU L b_seedNow b_keptSeed b_isKept, xTe ((L 1)) b_now, xSt ((L 5)) ((L 6)) ((L 7)) ((L 8)) ((L 9)) b_staff.1, xI cy ((L 6)) 8 b_staff.2.1, xI cy ((L 7)) 8 b_staff.2.2.1, xI cy ((L 8)) 8 b_staff.2.2.2.1, xI cy ((L 9)) 8 b_staff.2.2.2.2, xWa ((L 34)) ((L 35)) b_walk.2.1 b_walk.2.2.1 b_walk.2.2.2.1 b_walk.2.2.2.2.1 b_walk.2.2.2.2.2.1 b_walk.2.2.2.2.2.2.1 b_walk.2.2.2.2.2.2.2.1 b_walk.2.2.2.2.2.2.2.2, xTe ((L 35)) b_walk.1, xI cy ((L 46)) 48 b_plan] → lv_has ls 5 [(0, .ref ((L 0))), (2, .int v2), (3, .int v3), (4, .int v4)] → W p l e zr_X7_walkTurns s m args below meth c H locs 0 0 Q (F0 m 5 ls [])), ∀ (v2 : Int32) (v4 : Int32) (t0 : Int32) (b_walk : TWa) (b_plan : Nat → Int32) (H : Heap) (locs : List Loc) (ls : Array Slot), zf_X7_walkTurns_49 b_now b_staff k5 v2 v4 t0 b_walk b_plan = some res → zWd G A s.heap H locs [xU L b_seedNow b_keptSeed b_isKept, xTe ((L 1)) b_now, xSt ((L 5)) ((L 6)) ((L 7)) ((L 8)) ((L 9)) b_staff.1, xI cy ((L 6)) 8 b_staff.2.1, xI cy ((L 7)) 8 b_staff.2.2.1, xI cy ((L 8)) 8 b_staff.2.2.2.1, xI cy ((L 9)) 8 b_staff.2.2.2.2, xWa ((L 34)) ((L 35)) b_walk.2.1 b_walk.2.2.1 b_walk.2.2.2.1 b_walk.2.2.2.2.1 b_walk.2.2.2.2.2.1 b_walk.2.2.2.2.2.2.1 b_walk.2.2.2.2.2.2.2.1 b_walk.2.2.2.2.2.2.2.2, xTe ((L 35)) b_walk.1, xI cy ((L 46)) 48 b_plan] → lv_has ls 5 [(0, .ref ((L 0))), (2, .int v2), (4, .int v4)] → W p l e zr_X7_walkTurns s m args below meth c H locs 0 0 Q (F0 m 49 ls [.int t0]) := by
    intro k5 K5 v2 v4 t0 b_walk b_plan H locs ls hf hw hl
    rw [zf_X7_walkTurns_49] at hf
    refine lv_istore_n (pc := 49) (lv' := [(3, .int t0), (0, .ref ((L 0))), (2, .int v2), (4, .int v4)]) hx hb dX7_walkTurns_49 rfl hl (by decide) rfl (fun ls hl => ?_)
    refine lv_iinc (pc := 50) (v := (v4 + 1)) (lv' := [(4, .int ((v4 + 1))), (3, .int t0), (0, .ref ((L 0))), (2, .int v2)]) hx hb dX7_walkTurns_50 hl (k := 3) rfl rfl (by decide) rfl (fun ls hl => ?_)
    refine lv_goto (pc := 53) (tgt := 5) hx hb dX7_walkTurns_53 (by decide) ?_
    exact K5 v2 t0 ((v4 + 1)) b_walk b_plan _ _ _ hf hw (lv_sub hl [2, 3, 1, 0] rfl)
  have J56 : ∀ (v2 : Int32) (b_walk : TWa) (b_plan : Nat → Int32) (H : Heap) (locs : List Loc) (ls : Array Slot), zf_X7_walkTurns_56 b_now b_staff v2 b_walk b_plan = some res → zWd G A s.heap H locs [xU L b_seedNow b_keptSeed b_isKept, xTe ((L 1)) b_now, xSt ((L 5)) ((L 6)) ((L 7)) ((L 8)) ((L 9)) b_staff.1, xI cy ((L 6)) 8 b_staff.2.1, xI cy ((L 7)) 8 b_staff.2.2.1, xI cy ((L 8)) 8 b_staff.2.2.2.1, xI cy ((L 9)) 8 b_staff.2.2.2.2, xWa ((L 34)) ((L 35)) b_walk.2.1 b_walk.2.2.1 b_walk.2.2.2.1 b_walk.2.2.2.2.1 b_walk.2.2.2.2.2.1 b_walk.2.2.2.2.2.2.1 b_walk.2.2.2.2.2.2.2.1 b_walk.2.2.2.2.2.2.2.2, xTe ((L 35)) b_walk.1, xI cy ((L 46)) 48 b_plan] → lv_has ls 5 [(0, .ref ((L 0))), (2, .int v2)] → W p l e zr_X7_walkTurns s m args below meth c H locs 0 0 Q (F0 m 56 ls []) := by
    intro v2 b_walk b_plan H locs ls hf hw hl
    rw [zf_X7_walkTurns_56] at hf
    refine lv_aload_n (pc := 56) hx hb dX7_walkTurns_56 rfl (lv_at hl 0 rfl) ?_
    refine zk_gt (pc := 57) C hw zl_X7_55 0 rfl rfl dX7_walkTurns_57 ?_
    refine lv_aload_n (pc := 60) hx hb dX7_walkTurns_60 rfl (lv_at hl 0 rfl) ?_
    refine zk_gt (pc := 61) C hw zl_X7_73 0 rfl rfl dX7_walkTurns_61 ?_
    refine lv_iload_n (pc := 64) hx hb dX7_walkTurns_64 rfl (lv_at hl 1 rfl) ?_
    refine lv_aload_n (pc := 65) hx hb dX7_walkTurns_65 rfl (lv_at hl 0 rfl) ?_
    refine zk_gt (pc := 66) C hw zl_X7_10 0 rfl rfl dX7_walkTurns_66 ?_
    refine lv_aload_n (pc := 69) hx hb dX7_walkTurns_69 rfl (lv_at hl 0 rfl) ?_
    refine zk_gt (pc := 70) C hw zl_X7_28 0 rfl rfl dX7_walkTurns_70 ?_
    obtain ⟨u5, u5e, hf⟩ := bd hf
    refine zk_cV (pc := 73) (ci := 6) (q0 := 7) (rest := []) (st1 := []) (w' := [xU L b_seedNow b_keptSeed b_isKept, xTe ((L 1)) b_now, xSt ((L 5)) ((L 6)) ((L 7)) ((L 8)) ((L 9)) b_staff.1, xI cy ((L 6)) 8 b_staff.2.1, xI cy ((L 7)) 8 b_staff.2.2.1, xI cy ((L 8)) 8 b_staff.2.2.2.1, xI cy ((L 9)) 8 b_staff.2.2.2.2, xWa ((L 34)) ((L 35)) u5.2.1 u5.2.2.1 u5.2.2.2.1 u5.2.2.2.2.1 u5.2.2.2.2.2.1 u5.2.2.2.2.2.2.1 u5.2.2.2.2.2.2.2.1 u5.2.2.2.2.2.2.2.2, xTe ((L 35)) u5.1, xI cy ((L 46)) 48 b_plan]) (mk := [none, none, none, none, none, none, none, some (xWa ((L 34)) ((L 35)) u5.2.1 u5.2.2.1 u5.2.2.2.1 u5.2.2.2.2.1 u5.2.2.2.2.2.1 u5.2.2.2.2.2.2.1 u5.2.2.2.2.2.2.2.1 u5.2.2.2.2.2.2.2.2), some (xTe ((L 35)) u5.1), none]) C hw (c_X6_along l G cy tt ((L 34)) ((L 35)) ((L 46)) ((L 1)) ((L 5)) ((L 6)) ((L 7)) ((L 8)) ((L 9)) v2 b_walk b_plan b_now b_staff _ u5e) zy_X6_along zm_X7_246 rfl rfl rfl [7, 8, 9, 1, 2, 3, 4, 5, 6] rfl rfl rfl rfl rfl rfl rfl rfl hl.1 ⟨rfl, rfl⟩ ⟨Nat.le_of_ble_eq_true rfl, Nat.le_of_ble_eq_true rfl⟩ rfl (Nat.le_of_ble_eq_true rfl) ⟨Nat.zero_le _, Nat.zero_le _⟩ dX7_walkTurns_73 (fun H locs hw => ?_)
    have hf := Option.some.inj hf
    subst hf
    exact zk_retv (pc := 76) (ww := [xU L b_seedNow b_keptSeed b_isKept, xTe ((L 1)) b_now, xSt ((L 5)) ((L 6)) ((L 7)) ((L 8)) ((L 9)) b_staff.1, xI cy ((L 6)) 8 b_staff.2.1, xI cy ((L 7)) 8 b_staff.2.2.1, xI cy ((L 8)) 8 b_staff.2.2.2.1, xI cy ((L 9)) 8 b_staff.2.2.2.2, xWa ((L 34)) ((L 35)) u5.2.1 u5.2.2.1 u5.2.2.2.1 u5.2.2.2.2.1 u5.2.2.2.2.2.1 u5.2.2.2.2.2.2.1 u5.2.2.2.2.2.2.2.1 u5.2.2.2.2.2.2.2.2, xTe ((L 35)) u5.1, xI cy ((L 46)) 48 b_plan]) C hw hr hQ dX7_walkTurns_76
  have J5 : ∀ (n : Nat), ∀ (v2 : Int32) (v3 : Int32) (v4 : Int32) (b_walk : TWa) (b_plan : Nat → Int32) (H : Heap) (locs : List Loc) (ls : Array Slot), zf_X7_walkTurns_5 b_now b_staff n v2 v3 v4 b_walk b_plan = some res → zWd G A s.heap H locs [xU L b_seedNow b_keptSeed b_isKept, xTe ((L 1)) b_now, xSt ((L 5)) ((L 6)) ((L 7)) ((L 8)) ((L 9)) b_staff.1, xI cy ((L 6)) 8 b_staff.2.1, xI cy ((L 7)) 8 b_staff.2.2.1, xI cy ((L 8)) 8 b_staff.2.2.2.1, xI cy ((L 9)) 8 b_staff.2.2.2.2, xWa ((L 34)) ((L 35)) b_walk.2.1 b_walk.2.2.1 b_walk.2.2.2.1 b_walk.2.2.2.2.1 b_walk.2.2.2.2.2.1 b_walk.2.2.2.2.2.2.1 b_walk.2.2.2.2.2.2.2.1 b_walk.2.2.2.2.2.2.2.2, xTe ((L 35)) b_walk.1, xI cy ((L 46)) 48 b_plan] → lv_has ls 5 [(0, .ref ((L 0))), (2, .int v2), (3, .int v3), (4, .int v4)] → W p l e zr_X7_walkTurns s m args below meth c H locs 0 0 Q (F0 m 5 ls []) := by
    intro n
    induction n with
    | zero =>
      intro v2 v3 v4 b_walk b_plan H locs ls hf hw hl
      rw [zf_X7_walkTurns_5] at hf
      cases hf
    | succ n ih =>
      intro v2 v3 v4 b_walk b_plan H locs ls hf hw hl
      rw [zf_X7_walkTurns_5] at hf
      refine lv_iload (pc := 5) hx hb dX7_walkTurns_5 (lv_at hl 3 rfl) ?_
      refine lv_iload_n (pc := 7) hx hb dX7_walkTurns_7 rfl (lv_at hl 1 rfl) ?_
      refine lv_icmp_ge (pc := 8) (tgt := 56) hx hb dX7_walkTurns_8 (by decide) (fun q1 => ?_) (fun q1 => ?_)
      · replace hf := if_t q1 hf
        exact J56 v2 b_walk b_plan _ _ _ hf hw (lv_sub hl [0, 1] rfl)
      · replace hf := if_f q1 hf
        refine lv_iload (pc := 11) hx hb dX7_walkTurns_11 (lv_at hl 3 rfl) ?_
        refine lv_aload_n (pc := 13) hx hb dX7_walkTurns_13 rfl (lv_at hl 0 rfl) ?_
        refine zk_gt (pc := 14) C hw zl_X7_73 0 rfl rfl dX7_walkTurns_14 ?_
        refine zk_alen (pc := 17) (v := 48) C hw 9 0 rfl rfl rfl dX7_walkTurns_17 ?_
        refine lv_icmp_ge (pc := 18) (tgt := 56) hx hb dX7_walkTurns_18 (by decide) (fun q2 => ?_) (fun q2 => ?_)
        · replace hf := if_t q2 hf
          exact J56 v2 b_walk b_plan _ _ _ hf hw (lv_sub hl [0, 1] rfl)
        · replace hf := if_f q2 hf
          refine lv_aload_n (pc := 21) hx hb dX7_walkTurns_21 rfl (lv_at hl 0 rfl) ?_
          refine zk_gt (pc := 22) C hw zl_X7_73 0 rfl rfl dX7_walkTurns_22 ?_
          refine lv_iload (pc := 25) hx hb dX7_walkTurns_25 (lv_at hl 3 rfl) ?_
          refine lv_iload_n (pc := 27) hx hb dX7_walkTurns_27 rfl (lv_at hl 2 rfl) ?_
          obtain ⟨q3, hf⟩ := ck hf
          refine zk_iast (pc := 28) (w' := [xU L b_seedNow b_keptSeed b_isKept, xTe ((L 1)) b_now, xSt ((L 5)) ((L 6)) ((L 7)) ((L 8)) ((L 9)) b_staff.1, xI cy ((L 6)) 8 b_staff.2.1, xI cy ((L 7)) 8 b_staff.2.2.1, xI cy ((L 8)) 8 b_staff.2.2.2.1, xI cy ((L 9)) 8 b_staff.2.2.2.2, xWa ((L 34)) ((L 35)) b_walk.2.1 b_walk.2.2.1 b_walk.2.2.2.1 b_walk.2.2.2.2.1 b_walk.2.2.2.2.2.1 b_walk.2.2.2.2.2.2.1 b_walk.2.2.2.2.2.2.2.1 b_walk.2.2.2.2.2.2.2.2, xTe ((L 35)) b_walk.1, xI cy ((L 46)) 48 ((upd b_plan v4.toNatClampNeg v3))]) C hw 9 rfl q3 rfl dX7_walkTurns_28 (fun H locs hw => ?_)
          refine lv_iload_n (pc := 29) hx hb dX7_walkTurns_29 rfl (lv_at hl 2 rfl) ?_
          refine lv_iconst (pc := 30) (v := 1) hx hb dX7_walkTurns_30 (by decide) ?_
          refine lv_iadd (pc := 31) hx hb dX7_walkTurns_31 ?_
          refine lv_aload_n (pc := 32) hx hb dX7_walkTurns_32 rfl (lv_at hl 0 rfl) ?_
          refine zk_gt (pc := 33) C hw zl_X7_28 0 rfl rfl dX7_walkTurns_33 ?_
          refine zk_gt (pc := 36) C hw zl_X7_303 2 rfl rfl dX7_walkTurns_36 ?_
          refine lv_icmp_ge (pc := 39) (tgt := 48) hx hb dX7_walkTurns_39 (by decide) (fun q4 => ?_) (fun q4 => ?_)
          · replace hf := if_t q4 hf
            refine lv_iconst (pc := 48) (v := 0) hx hb dX7_walkTurns_48 (by decide) ?_
            exact J49 (zf_X7_walkTurns_5 b_now b_staff n) ih v2 v4 ((0 : Int32)) b_walk ((upd b_plan v4.toNatClampNeg v3)) _ _ _ hf hw (lv_sub hl [0, 1, 3] rfl)
          · replace hf := if_f q4 hf
            refine lv_iload_n (pc := 42) hx hb dX7_walkTurns_42 rfl (lv_at hl 2 rfl) ?_
            refine lv_iconst (pc := 43) (v := 1) hx hb dX7_walkTurns_43 (by decide) ?_
            refine lv_iadd (pc := 44) hx hb dX7_walkTurns_44 ?_
            refine lv_goto (pc := 45) (tgt := 49) hx hb dX7_walkTurns_45 (by decide) ?_
            exact J49 (zf_X7_walkTurns_5 b_now b_staff n) ih v2 v4 ((v3 + (1 : Int32))) b_walk ((upd b_plan v4.toNatClampNeg v3)) _ _ _ hf hw (lv_sub hl [0, 1, 3] rfl)
  rw [zf_X7_walkTurns] at hf
  refine lv_iload_n (pc := 0) hx hb dX7_walkTurns_0 rfl (lv_at hl 1 rfl) ?_
  refine lv_istore_n (pc := 1) (lv' := [(3, .int x1), (0, .ref ((L 0))), (1, .int x1), (2, .int x2)]) hx hb dX7_walkTurns_1 rfl hl (by decide) rfl (fun ls hl => ?_)
  refine lv_iconst (pc := 2) (v := 0) hx hb dX7_walkTurns_2 (by decide) ?_
  refine lv_istore (pc := 3) (lv' := [(4, .int ((0 : Int32))), (3, .int x1), (0, .ref ((L 0))), (1, .int x1), (2, .int x2)]) hx hb dX7_walkTurns_3 hl (by decide) rfl (fun ls hl => ?_)
  exact J5 FU x2 x1 ((0 : Int32)) b_walk b_plan _ _ _ hf hw (lv_sub hl [2, 4, 1, 0] rfl)
def zf_X7_byTurns_21 (b_now : TTe) (b_staff : TSt) (b_walk : TWa) (b_plan : Nat → Int32) (b_refusals : Nat → Int32) : Option (Int32 × TWa × (Nat → Int32) × (Nat → Int32)) := (Option.bind (zf_X7_refused (((-2 : Int32))) b_refusals) (fun u6 => some (u6.1, b_walk, b_plan, u6.2)))
def zf_X7_byTurns (x1 : Int32) (x2 : Int32) (b_now : TTe) (b_staff : TSt) (b_walk : TWa) (b_plan : Nat → Int32) (b_refusals : Nat → Int32) : Option (Int32 × TWa × (Nat → Int32) × (Nat → Int32)) := (Option.bind (zf_X2_has x1 b_staff) (fun u1 => (if u1 then (Option.bind (zf_X7_isWithin x2 (((0 : Int32))) (((48 : Int32)))) (fun u3 => (if u3 then (Option.bind (zf_X7_walkTurns x1 x2 b_now b_staff b_walk b_plan) (fun u5 => some (u5.1.1.1, u5.1, u5.2, b_refusals))) else zf_X7_byTurns_21 b_now b_staff b_walk b_plan b_refusals))) else zf_X7_byTurns_21 b_now b_staff b_walk b_plan b_refusals)))
abbrev zr_X7_byTurns : Room := { frames := 5, cells := 0, slots := 0, locals := 117 }
set_option maxHeartbeats 4000000 in
set_option maxRecDepth 100000 in
theorem c_X7_byTurns (l : Launch) (G : va_G) (cy : Nat → ClassId) (tt : Nat → Nat) (L : Nat → Nat) (b_seedNow : Int32) (b_keptSeed : Int32) (b_isKept : Bool) (x1 : Int32) (x2 : Int32) (b_now : TTe) (b_staff : TSt) (b_walk : TWa) (b_plan : Nat → Int32) (b_refusals : Nat → Int32) (res : Int32 × TWa × (Nat → Int32) × (Nat → Int32)) (hf : zf_X7_byTurns x1 x2 b_now b_staff b_walk b_plan b_refusals = some res) : zCT l yX7_byTurns cX7_byTurns 3 (some .int) zr_X7_byTurns G cy tt [.ref ((L 0)), .int x1, .int x2] [xU L b_seedNow b_keptSeed b_isKept, xTe ((L 1)) b_now, xSt ((L 5)) ((L 6)) ((L 7)) ((L 8)) ((L 9)) b_staff.1, xI cy ((L 6)) 8 b_staff.2.1, xI cy ((L 7)) 8 b_staff.2.2.1, xI cy ((L 8)) 8 b_staff.2.2.2.1, xI cy ((L 9)) 8 b_staff.2.2.2.2, xWa ((L 34)) ((L 35)) b_walk.2.1 b_walk.2.2.1 b_walk.2.2.2.1 b_walk.2.2.2.2.1 b_walk.2.2.2.2.2.1 b_walk.2.2.2.2.2.2.1 b_walk.2.2.2.2.2.2.2.1 b_walk.2.2.2.2.2.2.2.2, xTe ((L 35)) b_walk.1, xI cy ((L 46)) 48 b_plan, xI cy ((L 48)) 5 b_refusals] (some (.int res.1)) [xU L b_seedNow b_keptSeed b_isKept, xTe ((L 1)) b_now, xSt ((L 5)) ((L 6)) ((L 7)) ((L 8)) ((L 9)) b_staff.1, xI cy ((L 6)) 8 b_staff.2.1, xI cy ((L 7)) 8 b_staff.2.2.1, xI cy ((L 8)) 8 b_staff.2.2.2.1, xI cy ((L 9)) 8 b_staff.2.2.2.2, xWa ((L 34)) ((L 35)) res.2.1.2.1 res.2.1.2.2.1 res.2.1.2.2.2.1 res.2.1.2.2.2.2.1 res.2.1.2.2.2.2.2.1 res.2.1.2.2.2.2.2.2.1 res.2.1.2.2.2.2.2.2.2.1 res.2.1.2.2.2.2.2.2.2.2, xTe ((L 35)) res.2.1.1, xI cy ((L 46)) 48 res.2.2.1, xI cy ((L 48)) 5 res.2.2.2] := by
  refine zk_start zn_X7 (Nat.le_of_ble_eq_true rfl) ?_
  intro p e s m args below meth c A ls Q C hr hQ hw hl
  have C : zCx p m c s args meth cX7_byTurns 3 RX7 G cy tt A := C
  have hx := C.1.1
  have hb := C.1.2.1
  have hl : lv_has ls 3 [(0, .ref ((L 0))), (1, .int x1), (2, .int x2)] := hl
  have J21 : ∀ (b_walk : TWa) (b_plan : Nat → Int32) (b_refusals : Nat → Int32) (H : Heap) (locs : List Loc) (ls : Array Slot), zf_X7_byTurns_21 b_now b_staff b_walk b_plan b_refusals = some res → zWd G A s.heap H locs [xU L b_seedNow b_keptSeed b_isKept, xTe ((L 1)) b_now, xSt ((L 5)) ((L 6)) ((L 7)) ((L 8)) ((L 9)) b_staff.1, xI cy ((L 6)) 8 b_staff.2.1, xI cy ((L 7)) 8 b_staff.2.2.1, xI cy ((L 8)) 8 b_staff.2.2.2.1, xI cy ((L 9)) 8 b_staff.2.2.2.2, xWa ((L 34)) ((L 35)) b_walk.2.1 b_walk.2.2.1 b_walk.2.2.2.1 b_walk.2.2.2.2.1 b_walk.2.2.2.2.2.1 b_walk.2.2.2.2.2.2.1 b_walk.2.2.2.2.2.2.2.1 b_walk.2.2.2.2.2.2.2.2, xTe ((L 35)) b_walk.1, xI cy ((L 46)) 48 b_plan, xI cy ((L 48)) 5 b_refusals] → lv_has ls 3 [(0, .ref ((L 0)))] → W p l e zr_X7_byTurns s m args below meth c H locs 0 0 Q (F0 m 21 ls []) := by
    intro b_walk b_plan b_refusals H locs ls hf hw hl
    rw [zf_X7_byTurns_21] at hf
    refine lv_aload_n (pc := 21) hx hb dX7_byTurns_21 rfl (lv_at hl 0 rfl) ?_
    refine lv_bipush (pc := 22) (v := -2) hx hb dX7_byTurns_22 (by decide) ?_
    obtain ⟨u6, u6e, hf⟩ := bd hf
    refine zk_cV (pc := 24) (ci := 7) (q0 := 0) (rest := []) (st1 := [.int u6.1]) (w' := [xU L b_seedNow b_keptSeed b_isKept, xTe ((L 1)) b_now, xSt ((L 5)) ((L 6)) ((L 7)) ((L 8)) ((L 9)) b_staff.1, xI cy ((L 6)) 8 b_staff.2.1, xI cy ((L 7)) 8 b_staff.2.2.1, xI cy ((L 8)) 8 b_staff.2.2.2.1, xI cy ((L 9)) 8 b_staff.2.2.2.2, xWa ((L 34)) ((L 35)) b_walk.2.1 b_walk.2.2.1 b_walk.2.2.2.1 b_walk.2.2.2.2.1 b_walk.2.2.2.2.2.1 b_walk.2.2.2.2.2.2.1 b_walk.2.2.2.2.2.2.2.1 b_walk.2.2.2.2.2.2.2.2, xTe ((L 35)) b_walk.1, xI cy ((L 46)) 48 b_plan, xI cy ((L 48)) 5 u6.2]) (mk := [none, none, none, none, none, none, none, none, none, none, some (xI cy ((L 48)) 5 u6.2)]) C hw (c_X7_refused l G cy tt L b_seedNow b_keptSeed b_isKept (((-2 : Int32))) b_refusals _ u6e) zy_X7_refused zm_X7_103 rfl rfl rfl [0, 10] rfl rfl rfl rfl rfl rfl rfl rfl hl.1 ⟨rfl, rfl⟩ ⟨Nat.le_of_ble_eq_true rfl, Nat.le_of_ble_eq_true rfl⟩ rfl (Nat.le_of_ble_eq_true rfl) ⟨Nat.zero_le _, Nat.zero_le _⟩ dX7_byTurns_24 (fun H locs hw => ?_)
    have hf := Option.some.inj hf
    subst hf
    exact zk_reti (pc := 27) (ww := [xU L b_seedNow b_keptSeed b_isKept, xTe ((L 1)) b_now, xSt ((L 5)) ((L 6)) ((L 7)) ((L 8)) ((L 9)) b_staff.1, xI cy ((L 6)) 8 b_staff.2.1, xI cy ((L 7)) 8 b_staff.2.2.1, xI cy ((L 8)) 8 b_staff.2.2.2.1, xI cy ((L 9)) 8 b_staff.2.2.2.2, xWa ((L 34)) ((L 35)) b_walk.2.1 b_walk.2.2.1 b_walk.2.2.2.1 b_walk.2.2.2.2.1 b_walk.2.2.2.2.2.1 b_walk.2.2.2.2.2.2.1 b_walk.2.2.2.2.2.2.2.1 b_walk.2.2.2.2.2.2.2.2, xTe ((L 35)) b_walk.1, xI cy ((L 46)) 48 b_plan, xI cy ((L 48)) 5 u6.2]) C hw hr hQ dX7_byTurns_27
  rw [zf_X7_byTurns] at hf
  refine lv_aload_n (pc := 0) hx hb dX7_byTurns_0 rfl (lv_at hl 0 rfl) ?_
  refine zk_gt (pc := 1) C hw zl_X7_28 0 rfl rfl dX7_byTurns_1 ?_
  refine lv_iload_n (pc := 4) hx hb dX7_byTurns_4 rfl (lv_at hl 1 rfl) ?_
  obtain ⟨u1, u1e, hf⟩ := bd hf
  refine zk_cV (pc := 5) (ci := 2) (q0 := 2) (rest := []) (st1 := [.int (bI u1)]) (w' := [xU L b_seedNow b_keptSeed b_isKept, xTe ((L 1)) b_now, xSt ((L 5)) ((L 6)) ((L 7)) ((L 8)) ((L 9)) b_staff.1, xI cy ((L 6)) 8 b_staff.2.1, xI cy ((L 7)) 8 b_staff.2.2.1, xI cy ((L 8)) 8 b_staff.2.2.2.1, xI cy ((L 9)) 8 b_staff.2.2.2.2, xWa ((L 34)) ((L 35)) b_walk.2.1 b_walk.2.2.1 b_walk.2.2.2.1 b_walk.2.2.2.2.1 b_walk.2.2.2.2.2.1 b_walk.2.2.2.2.2.2.1 b_walk.2.2.2.2.2.2.2.1 b_walk.2.2.2.2.2.2.2.2, xTe ((L 35)) b_walk.1, xI cy ((L 46)) 48 b_plan, xI cy ((L 48)) 5 b_refusals]) (mk := [none, none, none, none, none, none, none, none, none, none, none]) C hw (c_X2_has l G cy tt ((L 5)) ((L 6)) ((L 7)) ((L 8)) ((L 9)) x1 b_staff _ u1e) zy_X2_has zm_X7_146 rfl rfl rfl [2, 3, 4, 5, 6] rfl rfl rfl rfl rfl rfl rfl rfl hl.1 ⟨rfl, rfl⟩ ⟨Nat.le_of_ble_eq_true rfl, Nat.le_of_ble_eq_true rfl⟩ rfl (Nat.le_of_ble_eq_true rfl) ⟨Nat.zero_le _, Nat.zero_le _⟩ dX7_byTurns_5 (fun H locs hw => ?_)
  refine zk_ifz (pc := 8) (tgt := 21) hx hb dX7_byTurns_8 (by decide) (fun q2 => ?_) (fun q2 => ?_)
  · replace hf := if_f q2 hf
    exact J21 b_walk b_plan b_refusals _ _ _ hf hw (lv_sub hl [0] rfl)
  · replace hf := if_t q2 hf
    refine lv_iload_n (pc := 11) hx hb dX7_byTurns_11 rfl (lv_at hl 2 rfl) ?_
    refine lv_iconst (pc := 12) (v := 0) hx hb dX7_byTurns_12 (by decide) ?_
    refine lv_bipush (pc := 13) (v := 48) hx hb dX7_byTurns_13 (by decide) ?_
    obtain ⟨u3, u3e, hf⟩ := bd hf
    refine zk_cS (pc := 15) (rest := []) (st1 := [.int (bI u3)]) (w' := [xU L b_seedNow b_keptSeed b_isKept, xTe ((L 1)) b_now, xSt ((L 5)) ((L 6)) ((L 7)) ((L 8)) ((L 9)) b_staff.1, xI cy ((L 6)) 8 b_staff.2.1, xI cy ((L 7)) 8 b_staff.2.2.1, xI cy ((L 8)) 8 b_staff.2.2.2.1, xI cy ((L 9)) 8 b_staff.2.2.2.2, xWa ((L 34)) ((L 35)) b_walk.2.1 b_walk.2.2.1 b_walk.2.2.2.1 b_walk.2.2.2.2.1 b_walk.2.2.2.2.2.1 b_walk.2.2.2.2.2.2.1 b_walk.2.2.2.2.2.2.2.1 b_walk.2.2.2.2.2.2.2.2, xTe ((L 35)) b_walk.1, xI cy ((L 46)) 48 b_plan, xI cy ((L 48)) 5 b_refusals]) (mk := [none, none, none, none, none, none, none, none, none, none, none]) C hw (c_X7_isWithin l G cy tt x2 (((0 : Int32))) (((48 : Int32))) _ u3e) zy_X7_isWithin zm_X7_99 [] rfl rfl rfl rfl rfl rfl rfl rfl hl.1 ⟨rfl, rfl⟩ ⟨Nat.le_of_ble_eq_true rfl, Nat.le_of_ble_eq_true rfl⟩ rfl (Nat.le_of_ble_eq_true rfl) ⟨Nat.zero_le _, Nat.zero_le _⟩ dX7_byTurns_15 (fun H locs hw => ?_)
    refine zk_ifnz (pc := 18) (tgt := 28) hx hb dX7_byTurns_18 (by decide) (fun q4 => ?_) (fun q4 => ?_)
    · replace hf := if_t q4 hf
      refine lv_aload_n (pc := 28) hx hb dX7_byTurns_28 rfl (lv_at hl 0 rfl) ?_
      refine lv_iload_n (pc := 29) hx hb dX7_byTurns_29 rfl (lv_at hl 1 rfl) ?_
      refine lv_iload_n (pc := 30) hx hb dX7_byTurns_30 rfl (lv_at hl 2 rfl) ?_
      obtain ⟨u5, u5e, hf⟩ := bd hf
      refine zk_cV (pc := 31) (ci := 7) (q0 := 0) (rest := []) (st1 := []) (w' := [xU L b_seedNow b_keptSeed b_isKept, xTe ((L 1)) b_now, xSt ((L 5)) ((L 6)) ((L 7)) ((L 8)) ((L 9)) b_staff.1, xI cy ((L 6)) 8 b_staff.2.1, xI cy ((L 7)) 8 b_staff.2.2.1, xI cy ((L 8)) 8 b_staff.2.2.2.1, xI cy ((L 9)) 8 b_staff.2.2.2.2, xWa ((L 34)) ((L 35)) u5.1.2.1 u5.1.2.2.1 u5.1.2.2.2.1 u5.1.2.2.2.2.1 u5.1.2.2.2.2.2.1 u5.1.2.2.2.2.2.2.1 u5.1.2.2.2.2.2.2.2.1 u5.1.2.2.2.2.2.2.2.2, xTe ((L 35)) u5.1.1, xI cy ((L 46)) 48 u5.2, xI cy ((L 48)) 5 b_refusals]) (mk := [none, none, none, none, none, none, none, some (xWa ((L 34)) ((L 35)) u5.1.2.1 u5.1.2.2.1 u5.1.2.2.2.1 u5.1.2.2.2.2.1 u5.1.2.2.2.2.2.1 u5.1.2.2.2.2.2.2.1 u5.1.2.2.2.2.2.2.2.1 u5.1.2.2.2.2.2.2.2.2), some (xTe ((L 35)) u5.1.1), some (xI cy ((L 46)) 48 u5.2), none]) C hw (c_X7_walkTurns l G cy tt L b_seedNow b_keptSeed b_isKept x1 x2 b_now b_staff b_walk b_plan _ u5e) zy_X7_walkTurns zm_X7_333 rfl rfl rfl [0, 1, 2, 3, 4, 5, 6, 7, 8, 9] rfl rfl rfl rfl rfl rfl rfl rfl hl.1 ⟨rfl, rfl⟩ ⟨Nat.le_of_ble_eq_true rfl, Nat.le_of_ble_eq_true rfl⟩ rfl (Nat.le_of_ble_eq_true rfl) ⟨Nat.zero_le _, Nat.zero_le _⟩ dX7_byTurns_31 (fun H locs hw => ?_)
      refine lv_aload_n (pc := 34) hx hb dX7_byTurns_34 rfl (lv_at hl 0 rfl) ?_
      refine zk_gt (pc := 35) C hw zl_X7_55 0 rfl rfl dX7_byTurns_35 ?_
      refine zk_gt (pc := 38) C hw zl_X7_256 7 rfl rfl dX7_byTurns_38 ?_
      refine zk_gt (pc := 41) C hw zl_X7_330 8 rfl rfl dX7_byTurns_41 ?_
      have hf := Option.some.inj hf
      subst hf
      exact zk_reti (pc := 44) (ww := [xU L b_seedNow b_keptSeed b_isKept, xTe ((L 1)) b_now, xSt ((L 5)) ((L 6)) ((L 7)) ((L 8)) ((L 9)) b_staff.1, xI cy ((L 6)) 8 b_staff.2.1, xI cy ((L 7)) 8 b_staff.2.2.1, xI cy ((L 8)) 8 b_staff.2.2.2.1, xI cy ((L 9)) 8 b_staff.2.2.2.2, xWa ((L 34)) ((L 35)) u5.1.2.1 u5.1.2.2.1 u5.1.2.2.2.1 u5.1.2.2.2.2.1 u5.1.2.2.2.2.2.1 u5.1.2.2.2.2.2.2.1 u5.1.2.2.2.2.2.2.2.1 u5.1.2.2.2.2.2.2.2.2, xTe ((L 35)) u5.1.1, xI cy ((L 46)) 48 u5.2, xI cy ((L 48)) 5 b_refusals]) C hw hr hQ dX7_byTurns_44
    · replace hf := if_f q4 hf
      exact J21 b_walk b_plan b_refusals _ _ _ hf hw (lv_sub hl [0] rfl)
def zf_X7_harms_21 (b_now : TTe) (b_staff : TSt) (b_walk : TWa) (b_plan : Nat → Int32) (b_refusals : Nat → Int32) : Option (Int32 × TWa × (Nat → Int32) × (Nat → Int32)) := (Option.bind (zf_X7_refused (((-2 : Int32))) b_refusals) (fun u6 => some (u6.1, b_walk, b_plan, u6.2)))
def zf_X7_harms (x1 : Int32) (x2 : Int32) (b_now : TTe) (b_staff : TSt) (b_walk : TWa) (b_plan : Nat → Int32) (b_refusals : Nat → Int32) : Option (Int32 × TWa × (Nat → Int32) × (Nat → Int32)) := (Option.bind (zf_X2_has x1 b_staff) (fun u1 => (if u1 then (Option.bind (zf_X7_isWithin x2 (((0 : Int32))) (((48 : Int32)))) (fun u3 => (if u3 then (Option.bind (zf_X7_walkTurns x1 x2 b_now b_staff b_walk b_plan) (fun u5 => some (u5.1.2.1, u5.1, u5.2, b_refusals))) else zf_X7_harms_21 b_now b_staff b_walk b_plan b_refusals))) else zf_X7_harms_21 b_now b_staff b_walk b_plan b_refusals)))
abbrev zr_X7_harms : Room := { frames := 5, cells := 0, slots := 0, locals := 117 }
set_option maxHeartbeats 4000000 in
set_option maxRecDepth 100000 in
theorem c_X7_harms (l : Launch) (G : va_G) (cy : Nat → ClassId) (tt : Nat → Nat) (L : Nat → Nat) (b_seedNow : Int32) (b_keptSeed : Int32) (b_isKept : Bool) (x1 : Int32) (x2 : Int32) (b_now : TTe) (b_staff : TSt) (b_walk : TWa) (b_plan : Nat → Int32) (b_refusals : Nat → Int32) (res : Int32 × TWa × (Nat → Int32) × (Nat → Int32)) (hf : zf_X7_harms x1 x2 b_now b_staff b_walk b_plan b_refusals = some res) : zCT l yX7_harms cX7_harms 3 (some .int) zr_X7_harms G cy tt [.ref ((L 0)), .int x1, .int x2] [xU L b_seedNow b_keptSeed b_isKept, xTe ((L 1)) b_now, xSt ((L 5)) ((L 6)) ((L 7)) ((L 8)) ((L 9)) b_staff.1, xI cy ((L 6)) 8 b_staff.2.1, xI cy ((L 7)) 8 b_staff.2.2.1, xI cy ((L 8)) 8 b_staff.2.2.2.1, xI cy ((L 9)) 8 b_staff.2.2.2.2, xWa ((L 34)) ((L 35)) b_walk.2.1 b_walk.2.2.1 b_walk.2.2.2.1 b_walk.2.2.2.2.1 b_walk.2.2.2.2.2.1 b_walk.2.2.2.2.2.2.1 b_walk.2.2.2.2.2.2.2.1 b_walk.2.2.2.2.2.2.2.2, xTe ((L 35)) b_walk.1, xI cy ((L 46)) 48 b_plan, xI cy ((L 48)) 5 b_refusals] (some (.int res.1)) [xU L b_seedNow b_keptSeed b_isKept, xTe ((L 1)) b_now, xSt ((L 5)) ((L 6)) ((L 7)) ((L 8)) ((L 9)) b_staff.1, xI cy ((L 6)) 8 b_staff.2.1, xI cy ((L 7)) 8 b_staff.2.2.1, xI cy ((L 8)) 8 b_staff.2.2.2.1, xI cy ((L 9)) 8 b_staff.2.2.2.2, xWa ((L 34)) ((L 35)) res.2.1.2.1 res.2.1.2.2.1 res.2.1.2.2.2.1 res.2.1.2.2.2.2.1 res.2.1.2.2.2.2.2.1 res.2.1.2.2.2.2.2.2.1 res.2.1.2.2.2.2.2.2.2.1 res.2.1.2.2.2.2.2.2.2.2, xTe ((L 35)) res.2.1.1, xI cy ((L 46)) 48 res.2.2.1, xI cy ((L 48)) 5 res.2.2.2] := by
  refine zk_start zn_X7 (Nat.le_of_ble_eq_true rfl) ?_
  intro p e s m args below meth c A ls Q C hr hQ hw hl
  have C : zCx p m c s args meth cX7_harms 3 RX7 G cy tt A := C
  have hx := C.1.1
  have hb := C.1.2.1
  have hl : lv_has ls 3 [(0, .ref ((L 0))), (1, .int x1), (2, .int x2)] := hl
  have J21 : ∀ (b_walk : TWa) (b_plan : Nat → Int32) (b_refusals : Nat → Int32) (H : Heap) (locs : List Loc) (ls : Array Slot), zf_X7_harms_21 b_now b_staff b_walk b_plan b_refusals = some res → zWd G A s.heap H locs [xU L b_seedNow b_keptSeed b_isKept, xTe ((L 1)) b_now, xSt ((L 5)) ((L 6)) ((L 7)) ((L 8)) ((L 9)) b_staff.1, xI cy ((L 6)) 8 b_staff.2.1, xI cy ((L 7)) 8 b_staff.2.2.1, xI cy ((L 8)) 8 b_staff.2.2.2.1, xI cy ((L 9)) 8 b_staff.2.2.2.2, xWa ((L 34)) ((L 35)) b_walk.2.1 b_walk.2.2.1 b_walk.2.2.2.1 b_walk.2.2.2.2.1 b_walk.2.2.2.2.2.1 b_walk.2.2.2.2.2.2.1 b_walk.2.2.2.2.2.2.2.1 b_walk.2.2.2.2.2.2.2.2, xTe ((L 35)) b_walk.1, xI cy ((L 46)) 48 b_plan, xI cy ((L 48)) 5 b_refusals] → lv_has ls 3 [(0, .ref ((L 0)))] → W p l e zr_X7_harms s m args below meth c H locs 0 0 Q (F0 m 21 ls []) := by
    intro b_walk b_plan b_refusals H locs ls hf hw hl
    rw [zf_X7_harms_21] at hf
    refine lv_aload_n (pc := 21) hx hb dX7_harms_21 rfl (lv_at hl 0 rfl) ?_
    refine lv_bipush (pc := 22) (v := -2) hx hb dX7_harms_22 (by decide) ?_
    obtain ⟨u6, u6e, hf⟩ := bd hf
    refine zk_cV (pc := 24) (ci := 7) (q0 := 0) (rest := []) (st1 := [.int u6.1]) (w' := [xU L b_seedNow b_keptSeed b_isKept, xTe ((L 1)) b_now, xSt ((L 5)) ((L 6)) ((L 7)) ((L 8)) ((L 9)) b_staff.1, xI cy ((L 6)) 8 b_staff.2.1, xI cy ((L 7)) 8 b_staff.2.2.1, xI cy ((L 8)) 8 b_staff.2.2.2.1, xI cy ((L 9)) 8 b_staff.2.2.2.2, xWa ((L 34)) ((L 35)) b_walk.2.1 b_walk.2.2.1 b_walk.2.2.2.1 b_walk.2.2.2.2.1 b_walk.2.2.2.2.2.1 b_walk.2.2.2.2.2.2.1 b_walk.2.2.2.2.2.2.2.1 b_walk.2.2.2.2.2.2.2.2, xTe ((L 35)) b_walk.1, xI cy ((L 46)) 48 b_plan, xI cy ((L 48)) 5 u6.2]) (mk := [none, none, none, none, none, none, none, none, none, none, some (xI cy ((L 48)) 5 u6.2)]) C hw (c_X7_refused l G cy tt L b_seedNow b_keptSeed b_isKept (((-2 : Int32))) b_refusals _ u6e) zy_X7_refused zm_X7_103 rfl rfl rfl [0, 10] rfl rfl rfl rfl rfl rfl rfl rfl hl.1 ⟨rfl, rfl⟩ ⟨Nat.le_of_ble_eq_true rfl, Nat.le_of_ble_eq_true rfl⟩ rfl (Nat.le_of_ble_eq_true rfl) ⟨Nat.zero_le _, Nat.zero_le _⟩ dX7_harms_24 (fun H locs hw => ?_)
    have hf := Option.some.inj hf
    subst hf
    exact zk_reti (pc := 27) (ww := [xU L b_seedNow b_keptSeed b_isKept, xTe ((L 1)) b_now, xSt ((L 5)) ((L 6)) ((L 7)) ((L 8)) ((L 9)) b_staff.1, xI cy ((L 6)) 8 b_staff.2.1, xI cy ((L 7)) 8 b_staff.2.2.1, xI cy ((L 8)) 8 b_staff.2.2.2.1, xI cy ((L 9)) 8 b_staff.2.2.2.2, xWa ((L 34)) ((L 35)) b_walk.2.1 b_walk.2.2.1 b_walk.2.2.2.1 b_walk.2.2.2.2.1 b_walk.2.2.2.2.2.1 b_walk.2.2.2.2.2.2.1 b_walk.2.2.2.2.2.2.2.1 b_walk.2.2.2.2.2.2.2.2, xTe ((L 35)) b_walk.1, xI cy ((L 46)) 48 b_plan, xI cy ((L 48)) 5 u6.2]) C hw hr hQ dX7_harms_27
  rw [zf_X7_harms] at hf
  refine lv_aload_n (pc := 0) hx hb dX7_harms_0 rfl (lv_at hl 0 rfl) ?_
  refine zk_gt (pc := 1) C hw zl_X7_28 0 rfl rfl dX7_harms_1 ?_
  refine lv_iload_n (pc := 4) hx hb dX7_harms_4 rfl (lv_at hl 1 rfl) ?_
  obtain ⟨u1, u1e, hf⟩ := bd hf
  refine zk_cV (pc := 5) (ci := 2) (q0 := 2) (rest := []) (st1 := [.int (bI u1)]) (w' := [xU L b_seedNow b_keptSeed b_isKept, xTe ((L 1)) b_now, xSt ((L 5)) ((L 6)) ((L 7)) ((L 8)) ((L 9)) b_staff.1, xI cy ((L 6)) 8 b_staff.2.1, xI cy ((L 7)) 8 b_staff.2.2.1, xI cy ((L 8)) 8 b_staff.2.2.2.1, xI cy ((L 9)) 8 b_staff.2.2.2.2, xWa ((L 34)) ((L 35)) b_walk.2.1 b_walk.2.2.1 b_walk.2.2.2.1 b_walk.2.2.2.2.1 b_walk.2.2.2.2.2.1 b_walk.2.2.2.2.2.2.1 b_walk.2.2.2.2.2.2.2.1 b_walk.2.2.2.2.2.2.2.2, xTe ((L 35)) b_walk.1, xI cy ((L 46)) 48 b_plan, xI cy ((L 48)) 5 b_refusals]) (mk := [none, none, none, none, none, none, none, none, none, none, none]) C hw (c_X2_has l G cy tt ((L 5)) ((L 6)) ((L 7)) ((L 8)) ((L 9)) x1 b_staff _ u1e) zy_X2_has zm_X7_146 rfl rfl rfl [2, 3, 4, 5, 6] rfl rfl rfl rfl rfl rfl rfl rfl hl.1 ⟨rfl, rfl⟩ ⟨Nat.le_of_ble_eq_true rfl, Nat.le_of_ble_eq_true rfl⟩ rfl (Nat.le_of_ble_eq_true rfl) ⟨Nat.zero_le _, Nat.zero_le _⟩ dX7_harms_5 (fun H locs hw => ?_)
  refine zk_ifz (pc := 8) (tgt := 21) hx hb dX7_harms_8 (by decide) (fun q2 => ?_) (fun q2 => ?_)
  · replace hf := if_f q2 hf
    exact J21 b_walk b_plan b_refusals _ _ _ hf hw (lv_sub hl [0] rfl)
  · replace hf := if_t q2 hf
    refine lv_iload_n (pc := 11) hx hb dX7_harms_11 rfl (lv_at hl 2 rfl) ?_
    refine lv_iconst (pc := 12) (v := 0) hx hb dX7_harms_12 (by decide) ?_
    refine lv_bipush (pc := 13) (v := 48) hx hb dX7_harms_13 (by decide) ?_
    obtain ⟨u3, u3e, hf⟩ := bd hf
    refine zk_cS (pc := 15) (rest := []) (st1 := [.int (bI u3)]) (w' := [xU L b_seedNow b_keptSeed b_isKept, xTe ((L 1)) b_now, xSt ((L 5)) ((L 6)) ((L 7)) ((L 8)) ((L 9)) b_staff.1, xI cy ((L 6)) 8 b_staff.2.1, xI cy ((L 7)) 8 b_staff.2.2.1, xI cy ((L 8)) 8 b_staff.2.2.2.1, xI cy ((L 9)) 8 b_staff.2.2.2.2, xWa ((L 34)) ((L 35)) b_walk.2.1 b_walk.2.2.1 b_walk.2.2.2.1 b_walk.2.2.2.2.1 b_walk.2.2.2.2.2.1 b_walk.2.2.2.2.2.2.1 b_walk.2.2.2.2.2.2.2.1 b_walk.2.2.2.2.2.2.2.2, xTe ((L 35)) b_walk.1, xI cy ((L 46)) 48 b_plan, xI cy ((L 48)) 5 b_refusals]) (mk := [none, none, none, none, none, none, none, none, none, none, none]) C hw (c_X7_isWithin l G cy tt x2 (((0 : Int32))) (((48 : Int32))) _ u3e) zy_X7_isWithin zm_X7_99 [] rfl rfl rfl rfl rfl rfl rfl rfl hl.1 ⟨rfl, rfl⟩ ⟨Nat.le_of_ble_eq_true rfl, Nat.le_of_ble_eq_true rfl⟩ rfl (Nat.le_of_ble_eq_true rfl) ⟨Nat.zero_le _, Nat.zero_le _⟩ dX7_harms_15 (fun H locs hw => ?_)
    refine zk_ifnz (pc := 18) (tgt := 28) hx hb dX7_harms_18 (by decide) (fun q4 => ?_) (fun q4 => ?_)
    · replace hf := if_t q4 hf
      refine lv_aload_n (pc := 28) hx hb dX7_harms_28 rfl (lv_at hl 0 rfl) ?_
      refine lv_iload_n (pc := 29) hx hb dX7_harms_29 rfl (lv_at hl 1 rfl) ?_
      refine lv_iload_n (pc := 30) hx hb dX7_harms_30 rfl (lv_at hl 2 rfl) ?_
      obtain ⟨u5, u5e, hf⟩ := bd hf
      refine zk_cV (pc := 31) (ci := 7) (q0 := 0) (rest := []) (st1 := []) (w' := [xU L b_seedNow b_keptSeed b_isKept, xTe ((L 1)) b_now, xSt ((L 5)) ((L 6)) ((L 7)) ((L 8)) ((L 9)) b_staff.1, xI cy ((L 6)) 8 b_staff.2.1, xI cy ((L 7)) 8 b_staff.2.2.1, xI cy ((L 8)) 8 b_staff.2.2.2.1, xI cy ((L 9)) 8 b_staff.2.2.2.2, xWa ((L 34)) ((L 35)) u5.1.2.1 u5.1.2.2.1 u5.1.2.2.2.1 u5.1.2.2.2.2.1 u5.1.2.2.2.2.2.1 u5.1.2.2.2.2.2.2.1 u5.1.2.2.2.2.2.2.2.1 u5.1.2.2.2.2.2.2.2.2, xTe ((L 35)) u5.1.1, xI cy ((L 46)) 48 u5.2, xI cy ((L 48)) 5 b_refusals]) (mk := [none, none, none, none, none, none, none, some (xWa ((L 34)) ((L 35)) u5.1.2.1 u5.1.2.2.1 u5.1.2.2.2.1 u5.1.2.2.2.2.1 u5.1.2.2.2.2.2.1 u5.1.2.2.2.2.2.2.1 u5.1.2.2.2.2.2.2.2.1 u5.1.2.2.2.2.2.2.2.2), some (xTe ((L 35)) u5.1.1), some (xI cy ((L 46)) 48 u5.2), none]) C hw (c_X7_walkTurns l G cy tt L b_seedNow b_keptSeed b_isKept x1 x2 b_now b_staff b_walk b_plan _ u5e) zy_X7_walkTurns zm_X7_333 rfl rfl rfl [0, 1, 2, 3, 4, 5, 6, 7, 8, 9] rfl rfl rfl rfl rfl rfl rfl rfl hl.1 ⟨rfl, rfl⟩ ⟨Nat.le_of_ble_eq_true rfl, Nat.le_of_ble_eq_true rfl⟩ rfl (Nat.le_of_ble_eq_true rfl) ⟨Nat.zero_le _, Nat.zero_le _⟩ dX7_harms_31 (fun H locs hw => ?_)
      refine lv_aload_n (pc := 34) hx hb dX7_harms_34 rfl (lv_at hl 0 rfl) ?_
      refine zk_gt (pc := 35) C hw zl_X7_55 0 rfl rfl dX7_harms_35 ?_
      refine zk_gt (pc := 38) C hw zl_X7_250 7 rfl rfl dX7_harms_38 ?_
      have hf := Option.some.inj hf
      subst hf
      exact zk_reti (pc := 41) (ww := [xU L b_seedNow b_keptSeed b_isKept, xTe ((L 1)) b_now, xSt ((L 5)) ((L 6)) ((L 7)) ((L 8)) ((L 9)) b_staff.1, xI cy ((L 6)) 8 b_staff.2.1, xI cy ((L 7)) 8 b_staff.2.2.1, xI cy ((L 8)) 8 b_staff.2.2.2.1, xI cy ((L 9)) 8 b_staff.2.2.2.2, xWa ((L 34)) ((L 35)) u5.1.2.1 u5.1.2.2.1 u5.1.2.2.2.1 u5.1.2.2.2.2.1 u5.1.2.2.2.2.2.1 u5.1.2.2.2.2.2.2.1 u5.1.2.2.2.2.2.2.2.1 u5.1.2.2.2.2.2.2.2.2, xTe ((L 35)) u5.1.1, xI cy ((L 46)) 48 u5.2, xI cy ((L 48)) 5 b_refusals]) C hw hr hQ dX7_harms_41
    · replace hf := if_f q4 hf
      exact J21 b_walk b_plan b_refusals _ _ _ hf hw (lv_sub hl [0] rfl)
def zf_X7_starts_63 (b_now : TTe) (b_staff : TSt) (k24 : Int32 → Int32 → Int32 → TWa → (Nat → Int32) → (Nat → Int32) → Option (Int32 × TWa × (Nat → Int32) × (Nat → Int32))) (v1 : Int32) (v2 : Int32) (v3 : Int32) (b_walk : TWa) (b_plan : Nat → Int32) (b_refusals : Nat → Int32) : Option (Int32 × TWa × (Nat → Int32) × (Nat → Int32)) := k24 v1 v2 ((v3 + 1)) b_walk b_plan b_refusals
def zf_X7_starts_24 (b_now : TTe) (b_staff : TSt) : Nat → Int32 → Int32 → Int32 → TWa → (Nat → Int32) → (Nat → Int32) → Option (Int32 × TWa × (Nat → Int32) × (Nat → Int32))
  | 0, _, _, _, _, _, _ => none
  | n + 1, v1, v2, v3, b_walk, b_plan, b_refusals => (if b_staff.1 ≤ v3 then some (v1, b_walk, b_plan, b_refusals) else (Option.bind (zf_X7_walkTurns v3 (((24 : Int32))) b_now b_staff b_walk b_plan) (fun u4 => (if v2 ≤ u4.1.2.1 then zf_X7_starts_63 b_now b_staff (zf_X7_starts_24 b_now b_staff n) v1 v2 v3 u4.1 u4.2 b_refusals else zf_X7_starts_63 b_now b_staff (zf_X7_starts_24 b_now b_staff n) v3 u4.1.2.1 v3 u4.1 u4.2 b_refusals))))
def zf_X7_starts  (b_now : TTe) (b_staff : TSt) (b_walk : TWa) (b_plan : Nat → Int32) (b_refusals : Nat → Int32) : Option (Int32 × TWa × (Nat → Int32) × (Nat → Int32)) := (if 0 < b_staff.1 then zf_X7_starts_24 b_now b_staff FU ((-1 : Int32)) ((1000000 : Int32)) ((0 : Int32)) b_walk b_plan b_refusals else (Option.bind (zf_X7_refused (((-5 : Int32))) b_refusals) (fun u2 => some (u2.1, b_walk, b_plan, u2.2))))
abbrev zr_X7_starts : Room := { frames := 5, cells := 0, slots := 0, locals := 117 }
set_option maxHeartbeats 4000000 in
set_option maxRecDepth 100000 in
theorem c_X7_starts (l : Launch) (G : va_G) (cy : Nat → ClassId) (tt : Nat → Nat) (L : Nat → Nat) (b_seedNow : Int32) (b_keptSeed : Int32) (b_isKept : Bool)  (b_now : TTe) (b_staff : TSt) (b_walk : TWa) (b_plan : Nat → Int32) (b_refusals : Nat → Int32) (res : Int32 × TWa × (Nat → Int32) × (Nat → Int32)) (hf : zf_X7_starts b_now b_staff b_walk b_plan b_refusals = some res) : zCT l yX7_starts cX7_starts 4 (some .int) zr_X7_starts G cy tt [.ref ((L 0))] [xU L b_seedNow b_keptSeed b_isKept, xTe ((L 1)) b_now, xSt ((L 5)) ((L 6)) ((L 7)) ((L 8)) ((L 9)) b_staff.1, xI cy ((L 6)) 8 b_staff.2.1, xI cy ((L 7)) 8 b_staff.2.2.1, xI cy ((L 8)) 8 b_staff.2.2.2.1, xI cy ((L 9)) 8 b_staff.2.2.2.2, xWa ((L 34)) ((L 35)) b_walk.2.1 b_walk.2.2.1 b_walk.2.2.2.1 b_walk.2.2.2.2.1 b_walk.2.2.2.2.2.1 b_walk.2.2.2.2.2.2.1 b_walk.2.2.2.2.2.2.2.1 b_walk.2.2.2.2.2.2.2.2, xTe ((L 35)) b_walk.1, xI cy ((L 46)) 48 b_plan, xI cy ((L 48)) 5 b_refusals] (some (.int res.1)) [xU L b_seedNow b_keptSeed b_isKept, xTe ((L 1)) b_now, xSt ((L 5)) ((L 6)) ((L 7)) ((L 8)) ((L 9)) b_staff.1, xI cy ((L 6)) 8 b_staff.2.1, xI cy ((L 7)) 8 b_staff.2.2.1, xI cy ((L 8)) 8 b_staff.2.2.2.1, xI cy ((L 9)) 8 b_staff.2.2.2.2, xWa ((L 34)) ((L 35)) res.2.1.2.1 res.2.1.2.2.1 res.2.1.2.2.2.1 res.2.1.2.2.2.2.1 res.2.1.2.2.2.2.2.1 res.2.1.2.2.2.2.2.2.1 res.2.1.2.2.2.2.2.2.2.1 res.2.1.2.2.2.2.2.2.2.2, xTe ((L 35)) res.2.1.1, xI cy ((L 46)) 48 res.2.2.1, xI cy ((L 48)) 5 res.2.2.2] := by
  refine zk_start zn_X7 (Nat.le_of_ble_eq_true rfl) ?_
  intro p e s m args below meth c A ls Q C hr hQ hw hl
  have C : zCx p m c s args meth cX7_starts 4 RX7 G cy tt A := C
  have hx := C.1.1
  have hb := C.1.2.1
  have hl : lv_has ls 4 [(0, .ref ((L 0)))] := hl
  have J63 : ∀ (k24 : Int32 → Int32 → Int32 → TWa → (Nat → Int32) → (Nat → Int32) → Option (Int32 × TWa × (Nat → Int32) × (Nat → Int32))) (K24 : ∀ (v1 : Int32) (v2 : Int32) (v3 : Int32) (b_walk : TWa) (b_plan : Nat → Int32) (b_refusals : Nat → Int32) (H : Heap) (locs : List Loc) (ls : Array Slot), k24 v1 v2 v3 b_walk b_plan b_refusals = some res → zWd G A s.heap H locs [xU L b_seedNow b_keptSeed b_isKept, xTe ((L 1)) b_now, xSt ((L 5)) ((L 6)) ((L 7)) ((L 8)) ((L 9)) b_staff.1, xI cy ((L 6)) 8 b_staff.2.1, xI cy ((L 7)) 8 b_staff.2.2.1, xI cy ((L 8)) 8 b_staff.2.2.2.1, xI cy ((L 9)) 8 b_staff.2.2.2.2, xWa ((L 34)) ((L 35)) b_walk.2.1 b_walk.2.2.1 b_walk.2.2.2.1 b_walk.2.2.2.2.1 b_walk.2.2.2.2.2.1 b_walk.2.2.2.2.2.2.1 b_walk.2.2.2.2.2.2.2.1 b_walk.2.2.2.2.2.2.2.2, xTe ((L 35)) b_walk.1, xI cy ((L 46)) 48 b_plan, xI cy ((L 48)) 5 b_refusals] → lv_has ls 4 [(0, .ref ((L 0))), (1, .int v1), (2, .int v2), (3, .int v3)] → W p l e zr_X7_starts s m args below meth c H locs 0 0 Q (F0 m 24 ls [])), ∀ (v1 : Int32) (v2 : Int32) (v3 : Int32) (b_walk : TWa) (b_plan : Nat → Int32) (b_refusals : Nat → Int32) (H : Heap) (locs : List Loc) (ls : Array Slot), zf_X7_starts_63 b_now b_staff k24 v1 v2 v3 b_walk b_plan b_refusals = some res → zWd G A s.heap H locs [xU L b_seedNow b_keptSeed b_isKept, xTe ((L 1)) b_now, xSt ((L 5)) ((L 6)) ((L 7)) ((L 8)) ((L 9)) b_staff.1, xI cy ((L 6)) 8 b_staff.2.1, xI cy ((L 7)) 8 b_staff.2.2.1, xI cy ((L 8)) 8 b_staff.2.2.2.1, xI cy ((L 9)) 8 b_staff.2.2.2.2, xWa ((L 34)) ((L 35)) b_walk.2.1 b_walk.2.2.1 b_walk.2.2.2.1 b_walk.2.2.2.2.1 b_walk.2.2.2.2.2.1 b_walk.2.2.2.2.2.2.1 b_walk.2.2.2.2.2.2.2.1 b_walk.2.2.2.2.2.2.2.2, xTe ((L 35)) b_walk.1, xI cy ((L 46)) 48 b_plan, xI cy ((L 48)) 5 b_refusals] → lv_has ls 4 [(0, .ref ((L 0))), (1, .int v1), (2, .int v2), (3, .int v3)] → W p l e zr_X7_starts s m args below meth c H locs 0 0 Q (F0 m 63 ls []) := by
    intro k24 K24 v1 v2 v3 b_walk b_plan b_refusals H locs ls hf hw hl
    rw [zf_X7_starts_63] at hf
    refine lv_iinc (pc := 63) (v := (v3 + 1)) (lv' := [(3, .int ((v3 + 1))), (0, .ref ((L 0))), (1, .int v1), (2, .int v2)]) hx hb dX7_starts_63 hl (k := 3) rfl rfl (by decide) rfl (fun ls hl => ?_)
    refine lv_goto (pc := 66) (tgt := 24) hx hb dX7_starts_66 (by decide) ?_
    exact K24 v1 v2 ((v3 + 1)) b_walk b_plan b_refusals _ _ _ hf hw (lv_sub hl [1, 2, 3, 0] rfl)
  have J24 : ∀ (n : Nat), ∀ (v1 : Int32) (v2 : Int32) (v3 : Int32) (b_walk : TWa) (b_plan : Nat → Int32) (b_refusals : Nat → Int32) (H : Heap) (locs : List Loc) (ls : Array Slot), zf_X7_starts_24 b_now b_staff n v1 v2 v3 b_walk b_plan b_refusals = some res → zWd G A s.heap H locs [xU L b_seedNow b_keptSeed b_isKept, xTe ((L 1)) b_now, xSt ((L 5)) ((L 6)) ((L 7)) ((L 8)) ((L 9)) b_staff.1, xI cy ((L 6)) 8 b_staff.2.1, xI cy ((L 7)) 8 b_staff.2.2.1, xI cy ((L 8)) 8 b_staff.2.2.2.1, xI cy ((L 9)) 8 b_staff.2.2.2.2, xWa ((L 34)) ((L 35)) b_walk.2.1 b_walk.2.2.1 b_walk.2.2.2.1 b_walk.2.2.2.2.1 b_walk.2.2.2.2.2.1 b_walk.2.2.2.2.2.2.1 b_walk.2.2.2.2.2.2.2.1 b_walk.2.2.2.2.2.2.2.2, xTe ((L 35)) b_walk.1, xI cy ((L 46)) 48 b_plan, xI cy ((L 48)) 5 b_refusals] → lv_has ls 4 [(0, .ref ((L 0))), (1, .int v1), (2, .int v2), (3, .int v3)] → W p l e zr_X7_starts s m args below meth c H locs 0 0 Q (F0 m 24 ls []) := by
    intro n
    induction n with
    | zero =>
      intro v1 v2 v3 b_walk b_plan b_refusals H locs ls hf hw hl
      rw [zf_X7_starts_24] at hf
      cases hf
    | succ n ih =>
      intro v1 v2 v3 b_walk b_plan b_refusals H locs ls hf hw hl
      rw [zf_X7_starts_24] at hf
      refine lv_iload_n (pc := 24) hx hb dX7_starts_24 rfl (lv_at hl 3 rfl) ?_
      refine lv_aload_n (pc := 25) hx hb dX7_starts_25 rfl (lv_at hl 0 rfl) ?_
      refine zk_gt (pc := 26) C hw zl_X7_28 0 rfl rfl dX7_starts_26 ?_
      refine zk_gt (pc := 29) C hw zl_X7_303 2 rfl rfl dX7_starts_29 ?_
      refine lv_icmp_ge (pc := 32) (tgt := 69) hx hb dX7_starts_32 (by decide) (fun q3 => ?_) (fun q3 => ?_)
      · replace hf := if_t q3 hf
        refine lv_iload_n (pc := 69) hx hb dX7_starts_69 rfl (lv_at hl 1 rfl) ?_
        have hf := Option.some.inj hf
        subst hf
        exact zk_reti (pc := 70) (ww := [xU L b_seedNow b_keptSeed b_isKept, xTe ((L 1)) b_now, xSt ((L 5)) ((L 6)) ((L 7)) ((L 8)) ((L 9)) b_staff.1, xI cy ((L 6)) 8 b_staff.2.1, xI cy ((L 7)) 8 b_staff.2.2.1, xI cy ((L 8)) 8 b_staff.2.2.2.1, xI cy ((L 9)) 8 b_staff.2.2.2.2, xWa ((L 34)) ((L 35)) b_walk.2.1 b_walk.2.2.1 b_walk.2.2.2.1 b_walk.2.2.2.2.1 b_walk.2.2.2.2.2.1 b_walk.2.2.2.2.2.2.1 b_walk.2.2.2.2.2.2.2.1 b_walk.2.2.2.2.2.2.2.2, xTe ((L 35)) b_walk.1, xI cy ((L 46)) 48 b_plan, xI cy ((L 48)) 5 b_refusals]) C hw hr hQ dX7_starts_70
      · replace hf := if_f q3 hf
        refine lv_aload_n (pc := 35) hx hb dX7_starts_35 rfl (lv_at hl 0 rfl) ?_
        refine lv_iload_n (pc := 36) hx hb dX7_starts_36 rfl (lv_at hl 3 rfl) ?_
        refine lv_bipush (pc := 37) (v := 24) hx hb dX7_starts_37 (by decide) ?_
        obtain ⟨u4, u4e, hf⟩ := bd hf
        refine zk_cV (pc := 39) (ci := 7) (q0 := 0) (rest := []) (st1 := []) (w' := [xU L b_seedNow b_keptSeed b_isKept, xTe ((L 1)) b_now, xSt ((L 5)) ((L 6)) ((L 7)) ((L 8)) ((L 9)) b_staff.1, xI cy ((L 6)) 8 b_staff.2.1, xI cy ((L 7)) 8 b_staff.2.2.1, xI cy ((L 8)) 8 b_staff.2.2.2.1, xI cy ((L 9)) 8 b_staff.2.2.2.2, xWa ((L 34)) ((L 35)) u4.1.2.1 u4.1.2.2.1 u4.1.2.2.2.1 u4.1.2.2.2.2.1 u4.1.2.2.2.2.2.1 u4.1.2.2.2.2.2.2.1 u4.1.2.2.2.2.2.2.2.1 u4.1.2.2.2.2.2.2.2.2, xTe ((L 35)) u4.1.1, xI cy ((L 46)) 48 u4.2, xI cy ((L 48)) 5 b_refusals]) (mk := [none, none, none, none, none, none, none, some (xWa ((L 34)) ((L 35)) u4.1.2.1 u4.1.2.2.1 u4.1.2.2.2.1 u4.1.2.2.2.2.1 u4.1.2.2.2.2.2.1 u4.1.2.2.2.2.2.2.1 u4.1.2.2.2.2.2.2.2.1 u4.1.2.2.2.2.2.2.2.2), some (xTe ((L 35)) u4.1.1), some (xI cy ((L 46)) 48 u4.2), none]) C hw (c_X7_walkTurns l G cy tt L b_seedNow b_keptSeed b_isKept v3 (((24 : Int32))) b_now b_staff b_walk b_plan _ u4e) zy_X7_walkTurns zm_X7_333 rfl rfl rfl [0, 1, 2, 3, 4, 5, 6, 7, 8, 9] rfl rfl rfl rfl rfl rfl rfl rfl hl.1 ⟨rfl, rfl⟩ ⟨Nat.le_of_ble_eq_true rfl, Nat.le_of_ble_eq_true rfl⟩ rfl (Nat.le_of_ble_eq_true rfl) ⟨Nat.zero_le _, Nat.zero_le _⟩ dX7_starts_39 (fun H locs hw => ?_)
        refine lv_aload_n (pc := 42) hx hb dX7_starts_42 rfl (lv_at hl 0 rfl) ?_
        refine zk_gt (pc := 43) C hw zl_X7_55 0 rfl rfl dX7_starts_43 ?_
        refine zk_gt (pc := 46) C hw zl_X7_250 7 rfl rfl dX7_starts_46 ?_
        refine lv_iload_n (pc := 49) hx hb dX7_starts_49 rfl (lv_at hl 2 rfl) ?_
        refine lv_icmp_ge (pc := 50) (tgt := 63) hx hb dX7_starts_50 (by decide) (fun q5 => ?_) (fun q5 => ?_)
        · replace hf := if_t q5 hf
          exact J63 (zf_X7_starts_24 b_now b_staff n) ih v1 v2 v3 u4.1 u4.2 b_refusals _ _ _ hf hw (lv_sub hl [0, 1, 2, 3] rfl)
        · replace hf := if_f q5 hf
          refine lv_aload_n (pc := 53) hx hb dX7_starts_53 rfl (lv_at hl 0 rfl) ?_
          refine zk_gt (pc := 54) C hw zl_X7_55 0 rfl rfl dX7_starts_54 ?_
          refine zk_gt (pc := 57) C hw zl_X7_250 7 rfl rfl dX7_starts_57 ?_
          refine lv_istore_n (pc := 60) (lv' := [(2, .int u4.1.2.1), (0, .ref ((L 0))), (1, .int v1), (3, .int v3)]) hx hb dX7_starts_60 rfl hl (by decide) rfl (fun ls hl => ?_)
          refine lv_iload_n (pc := 61) hx hb dX7_starts_61 rfl (lv_at hl 3 rfl) ?_
          refine lv_istore_n (pc := 62) (lv' := [(1, .int v3), (2, .int u4.1.2.1), (0, .ref ((L 0))), (3, .int v3)]) hx hb dX7_starts_62 rfl hl (by decide) rfl (fun ls hl => ?_)
          exact J63 (zf_X7_starts_24 b_now b_staff n) ih v3 u4.1.2.1 v3 u4.1 u4.2 b_refusals _ _ _ hf hw (lv_sub hl [2, 0, 1, 3] rfl)
  rw [zf_X7_starts] at hf
  refine lv_aload_n (pc := 0) hx hb dX7_starts_0 rfl (lv_at hl 0 rfl) ?_
  refine zk_gt (pc := 1) C hw zl_X7_28 0 rfl rfl dX7_starts_1 ?_
  refine zk_gt (pc := 4) C hw zl_X7_303 2 rfl rfl dX7_starts_4 ?_
  refine lv_if_gt (pc := 7) (tgt := 17) hx hb dX7_starts_7 (by decide) (fun q1 => ?_) (fun q1 => ?_)
  · replace hf := if_t q1 hf
    refine lv_iconst (pc := 17) (v := -1) hx hb dX7_starts_17 (by decide) ?_
    refine lv_istore_n (pc := 18) (lv' := [(1, .int ((-1 : Int32))), (0, .ref ((L 0)))]) hx hb dX7_starts_18 rfl hl (by decide) rfl (fun ls hl => ?_)
    refine lv_ldc (pc := 19) (v := 1000000) hx hb C.1.2.2.2.1 (C.1.2.2.2.2 _ zc_X7_232) dX7_starts_19 ?_
    refine lv_istore_n (pc := 21) (lv' := [(2, .int ((1000000 : Int32))), (1, .int ((-1 : Int32))), (0, .ref ((L 0)))]) hx hb dX7_starts_21 rfl hl (by decide) rfl (fun ls hl => ?_)
    refine lv_iconst (pc := 22) (v := 0) hx hb dX7_starts_22 (by decide) ?_
    refine lv_istore_n (pc := 23) (lv' := [(3, .int ((0 : Int32))), (2, .int ((1000000 : Int32))), (1, .int ((-1 : Int32))), (0, .ref ((L 0)))]) hx hb dX7_starts_23 rfl hl (by decide) rfl (fun ls hl => ?_)
    exact J24 FU ((-1 : Int32)) ((1000000 : Int32)) ((0 : Int32)) b_walk b_plan b_refusals _ _ _ hf hw (lv_sub hl [3, 2, 1, 0] rfl)
  · replace hf := if_f q1 hf
    refine lv_aload_n (pc := 10) hx hb dX7_starts_10 rfl (lv_at hl 0 rfl) ?_
    refine lv_bipush (pc := 11) (v := -5) hx hb dX7_starts_11 (by decide) ?_
    obtain ⟨u2, u2e, hf⟩ := bd hf
    refine zk_cV (pc := 13) (ci := 7) (q0 := 0) (rest := []) (st1 := [.int u2.1]) (w' := [xU L b_seedNow b_keptSeed b_isKept, xTe ((L 1)) b_now, xSt ((L 5)) ((L 6)) ((L 7)) ((L 8)) ((L 9)) b_staff.1, xI cy ((L 6)) 8 b_staff.2.1, xI cy ((L 7)) 8 b_staff.2.2.1, xI cy ((L 8)) 8 b_staff.2.2.2.1, xI cy ((L 9)) 8 b_staff.2.2.2.2, xWa ((L 34)) ((L 35)) b_walk.2.1 b_walk.2.2.1 b_walk.2.2.2.1 b_walk.2.2.2.2.1 b_walk.2.2.2.2.2.1 b_walk.2.2.2.2.2.2.1 b_walk.2.2.2.2.2.2.2.1 b_walk.2.2.2.2.2.2.2.2, xTe ((L 35)) b_walk.1, xI cy ((L 46)) 48 b_plan, xI cy ((L 48)) 5 u2.2]) (mk := [none, none, none, none, none, none, none, none, none, none, some (xI cy ((L 48)) 5 u2.2)]) C hw (c_X7_refused l G cy tt L b_seedNow b_keptSeed b_isKept (((-5 : Int32))) b_refusals _ u2e) zy_X7_refused zm_X7_103 rfl rfl rfl [0, 10] rfl rfl rfl rfl rfl rfl rfl rfl hl.1 ⟨rfl, rfl⟩ ⟨Nat.le_of_ble_eq_true rfl, Nat.le_of_ble_eq_true rfl⟩ rfl (Nat.le_of_ble_eq_true rfl) ⟨Nat.zero_le _, Nat.zero_le _⟩ dX7_starts_13 (fun H locs hw => ?_)
    have hf := Option.some.inj hf
    subst hf
    exact zk_reti (pc := 16) (ww := [xU L b_seedNow b_keptSeed b_isKept, xTe ((L 1)) b_now, xSt ((L 5)) ((L 6)) ((L 7)) ((L 8)) ((L 9)) b_staff.1, xI cy ((L 6)) 8 b_staff.2.1, xI cy ((L 7)) 8 b_staff.2.2.1, xI cy ((L 8)) 8 b_staff.2.2.2.1, xI cy ((L 9)) 8 b_staff.2.2.2.2, xWa ((L 34)) ((L 35)) b_walk.2.1 b_walk.2.2.1 b_walk.2.2.2.1 b_walk.2.2.2.2.1 b_walk.2.2.2.2.2.1 b_walk.2.2.2.2.2.2.1 b_walk.2.2.2.2.2.2.2.1 b_walk.2.2.2.2.2.2.2.2, xTe ((L 35)) b_walk.1, xI cy ((L 46)) 48 b_plan, xI cy ((L 48)) 5 u2.2]) C hw hr hQ dX7_starts_16
