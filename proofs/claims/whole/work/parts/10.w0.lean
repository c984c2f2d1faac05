def zf_X7_isWithin (x0 : Int32) (x1 : Int32) (x2 : Int32) : Option (Bool) := (if x0 < x1 then some (false) else (if x2 < x0 then some (false) else some (true)))
abbrev zr_X7_isWithin : Room := { frames := 0, cells := 0, slots := 0, locals := 0 }
set_option maxHeartbeats 4000000 in
set_option maxRecDepth 100000 in
theorem c_X7_isWithin (l : Launch) (G : va_G) (cy : Nat → ClassId) (tt : Nat → Nat)  (x0 : Int32) (x1 : Int32) (x2 : Int32) (res : Bool) (hf : zf_X7_isWithin x0 x1 x2 = some res) : zCT l yX7_isWithin cX7_isWithin 3 (some .boolean) zr_X7_isWithin G cy tt [.int x0, .int x1, .int x2] [] (some (.int (bI res))) [] := by
  refine zk_start zn_X7 (Nat.le_of_ble_eq_true rfl) ?_
  intro p e s m args below meth c A ls Q C hr hQ hw hl
  have C : zCx p m c s args meth cX7_isWithin 3 RX7 G cy tt A := C
  have hx := C.1.1
  have hb := C.1.2.1
  have hl : lv_has ls 3 [(0, .int x0), (1, .int x1), (2, .int x2)] := hl
  rw [zf_X7_isWithin] at hf
  refine lv_iload_n (pc := 0) hx hb dX7_isWithin_0 rfl (lv_at hl 0 rfl) ?_
  refine lv_iload_n (pc := 1) hx hb dX7_isWithin_1 rfl (lv_at hl 1 rfl) ?_
  refine lv_icmp_lt (pc := 2) (tgt := 14) hx hb dX7_isWithin_2 (by decide) (fun q1 => ?_) (fun q1 => ?_)
  · replace hf := if_t q1 hf
    refine lv_iconst (pc := 14) (v := 0) hx hb dX7_isWithin_14 (by decide) ?_
    have hf := Option.some.inj hf
    subst hf
    exact zk_retz (pc := 15) (b := false) (ww := []) C hw hr hQ dX7_isWithin_15
  · replace hf := if_f q1 hf
    refine lv_iload_n (pc := 5) hx hb dX7_isWithin_5 rfl (lv_at hl 0 rfl) ?_
    refine lv_iload_n (pc := 6) hx hb dX7_isWithin_6 rfl (lv_at hl 2 rfl) ?_
    refine lv_icmp_gt (pc := 7) (tgt := 14) hx hb dX7_isWithin_7 (by decide) (fun q2 => ?_) (fun q2 => ?_)
    · replace hf := if_t q2 hf
      refine lv_iconst (pc := 14) (v := 0) hx hb dX7_isWithin_14 (by decide) ?_
      have hf := Option.some.inj hf
      subst hf
      exact zk_retz (pc := 15) (b := false) (ww := []) C hw hr hQ dX7_isWithin_15
    · replace hf := if_f q2 hf
      refine lv_iconst (pc := 10) (v := 1) hx hb dX7_isWithin_10 (by decide) ?_
      refine lv_goto (pc := 11) (tgt := 15) hx hb dX7_isWithin_11 (by decide) ?_
      have hf := Option.some.inj hf
      subst hf
      exact zk_retz (pc := 15) (b := true) (ww := []) C hw hr hQ dX7_isWithin_15
def zf_X7_isShelf (x0 : Int32) : Option (Bool) := (Option.bind (zf_X7_isWithin x0 (((0 : Int32))) (((7 : Int32)))) (fun u1 => some (u1)))
abbrev zr_X7_isShelf : Room := { frames := 1, cells := 0, slots := 0, locals := 22 }
set_option maxHeartbeats 4000000 in
set_option maxRecDepth 100000 in
theorem c_X7_isShelf (l : Launch) (G : va_G) (cy : Nat → ClassId) (tt : Nat → Nat)  (x0 : Int32) (res : Bool) (hf : zf_X7_isShelf x0 = some res) : zCT l yX7_isShelf cX7_isShelf 1 (some .boolean) zr_X7_isShelf G cy tt [.int x0] [] (some (.int (bI res))) [] := by
  refine zk_start zn_X7 (Nat.le_of_ble_eq_true rfl) ?_
  intro p e s m args below meth c A ls Q C hr hQ hw hl
  have C : zCx p m c s args meth cX7_isShelf 1 RX7 G cy tt A := C
  have hx := C.1.1
  have hb := C.1.2.1
  have hl : lv_has ls 1 [(0, .int x0)] := hl
  rw [zf_X7_isShelf] at hf
  refine lv_iload_n (pc := 0) hx hb dX7_isShelf_0 rfl (lv_at hl 0 rfl) ?_
  refine lv_iconst (pc := 1) (v := 0) hx hb dX7_isShelf_1 (by decide) ?_
  refine lv_bipush (pc := 2) (v := 7) hx hb dX7_isShelf_2 (by decide) ?_
  obtain ⟨u1, u1e, hf⟩ := bd hf
  refine zk_cS (pc := 4) (rest := []) (st1 := [.int (bI u1)]) (w' := []) (mk := []) C hw (c_X7_isWithin l G cy tt x0 (((0 : Int32))) (((7 : Int32))) _ u1e) zy_X7_isWithin zm_X7_99 [] rfl rfl rfl rfl rfl rfl rfl rfl hl.1 ⟨rfl, rfl⟩ ⟨Nat.le_of_ble_eq_true rfl, Nat.le_of_ble_eq_true rfl⟩ rfl (Nat.le_of_ble_eq_true rfl) ⟨Nat.zero_le _, Nat.zero_le _⟩ dX7_isShelf_4 (fun H locs hw => ?_)
  have hf := Option.some.inj hf
  subst hf
  exact zk_retz (pc := 7) (b := u1) (ww := []) C hw hr hQ dX7_isShelf_7
def zf_X1_placeRow_35 : Nat → Int32 → Int32 → TSh → Option (TSh)
  | 0, _, _, _ => none
  | n + 1, v1, v4, b_this => (if (40 : Int32) ≤ v4 then some (b_this) else (if ix v1 8 then (if ix v4 40 then zf_X1_placeRow_35 n v1 ((v4 + 1)) ((b_this.1, b_this.2.1, (va_up b_this.2.2 v1.toNatClampNeg ((vp_updL ((b_this.2.2 v1.toNatClampNeg)) v4.toNatClampNeg ((0 : Int64))))))) else none) else none))
def zf_X1_placeRow (x1 : Int32) (x2 : Int32) (x3 : Int32) (b_this : TSh) : Option (TSh) := (Option.bind (zf_X7_isShelf x1) (fun u1 => (if u1 then (Option.bind (zf_X7_isWithin x3 (((0 : Int32))) (((40 : Int32)))) (fun u3 => (if u3 then (if ix x1 8 then (if ix x1 8 then zf_X1_placeRow_35 FU x1 ((0 : Int32)) (((upd b_this.1 x1.toNatClampNeg x2), (upd b_this.2.1 x1.toNatClampNeg x3), b_this.2.2)) else none) else none) else some (b_this)))) else some (b_this))))
abbrev zr_X1_placeRow : Room := { frames := 2, cells := 0, slots := 0, locals := 42 }
set_option maxHeartbeats 4000000 in
set_option maxRecDepth 100000 in
theorem c_X1_placeRow (l : Launch) (G : va_G) (cy : Nat → ClassId) (tt : Nat → Nat) (a0 a1 a2 a3 a4 a5 a6 a7 a8 a9 a10 a11 : Nat) (x1 : Int32) (x2 : Int32) (x3 : Int32) (b_this : TSh) (res : TSh) (hf : zf_X1_placeRow x1 x2 x3 b_this = some res) : zCT l yX1_placeRow cX1_placeRow 5 none zr_X1_placeRow G cy tt [.ref a0, .int x1, .int x2, .int x3] [xSh a0 a1 a2 a3, xI cy a1 8 b_this.1, xI cy a2 8 b_this.2.1, xRJ cy a3 8 (fun j => [some a4, some a5, some a6, some a7, some a8, some a9, some a10, some a11].getD j none), xJ cy a4 40 ((b_this.2.2 0)), xJ cy a5 40 ((b_this.2.2 1)), xJ cy a6 40 ((b_this.2.2 2)), xJ cy a7 40 ((b_this.2.2 3)), xJ cy a8 40 ((b_this.2.2 4)), xJ cy a9 40 ((b_this.2.2 5)), xJ cy a10 40 ((b_this.2.2 6)), xJ cy a11 40 ((b_this.2.2 7))] none [xSh a0 a1 a2 a3, xI cy a1 8 res.1, xI cy a2 8 res.2.1, xRJ cy a3 8 (fun j => [some a4, some a5, some a6, some a7, some a8, some a9, some a10, some a11].getD j none), xJ cy a4 40 ((res.2.2 0)), xJ cy a5 40 ((res.2.2 1)), xJ cy a6 40 ((res.2.2 2)), xJ cy a7 40 ((res.2.2 3)), xJ cy a8 40 ((res.2.2 4)), xJ cy a9 40 ((res.2.2 5)), xJ cy a10 40 ((res.2.2 6)), xJ cy a11 40 ((res.2.2 7))] := by
  refine zk_start zn_X1 (Nat.le_of_ble_eq_true rfl) ?_
  intro p e s m args below meth c A ls Q C hr hQ hw hl
  have C : zCx p m c s args meth cX1_placeRow 5 RX1 G cy tt A := C
  have hx := C.1.1
  have hb := C.1.2.1
  have hl : lv_has ls 5 [(0, .ref a0), (1, .int x1), (2, .int x2), (3, .int x3)] := hl
  have J35 : ∀ (n : Nat), ∀ (v1 : Int32) (v4 : Int32) (b_this : TSh) (H : Heap) (locs : List Loc) (ls : Array Slot), zf_X1_placeRow_35 n v1 v4 b_this = some res → zWd G A s.heap H locs [xSh a0 a1 a2 a3, xI cy a1 8 b_this.1, xI cy a2 8 b_this.2.1, xRJ cy a3 8 (fun j => [some a4, some a5, some a6, some a7, some a8, some a9, some a10, some a11].getD j none), xJ cy a4 40 ((b_this.2.2 0)), xJ cy a5 40 ((b_this.2.2 1)), xJ cy a6 40 ((b_this.2.2 2)), xJ cy a7 40 ((b_this.2.2 3)), xJ cy a8 40 ((b_this.2.2 4)), xJ cy a9 40 ((b_this.2.2 5)), xJ cy a10 40 ((b_this.2.2 6)), xJ cy a11 40 ((b_this.2.2 7))] → lv_has ls 5 [(0, .ref a0), (1, .int v1), (4, .int v4)] → W p l e zr_X1_placeRow s m args below meth c H locs 0 0 Q (F0 m 35 ls []) := by
    intro n
    induction n with
    | zero =>
      intro v1 v4 b_this H locs ls hf hw hl
      rw [zf_X1_placeRow_35] at hf
      cases hf
    | succ n ih =>
      intro v1 v4 b_this H locs ls hf hw hl
      rw [zf_X1_placeRow_35] at hf
      refine lv_iload (pc := 35) hx hb dX1_placeRow_35 (lv_at hl 2 rfl) ?_
      refine lv_bipush (pc := 37) (v := 40) hx hb dX1_placeRow_37 (by decide) ?_
      refine lv_icmp_ge (pc := 39) (tgt := 58) hx hb dX1_placeRow_39 (by decide) (fun q7 => ?_) (fun q7 => ?_)
      · replace hf := if_t q7 hf
        have hf := Option.some.inj hf
        subst hf
        exact zk_retv (pc := 58) (ww := [xSh a0 a1 a2 a3, xI cy a1 8 b_this.1, xI cy a2 8 b_this.2.1, xRJ cy a3 8 (fun j => [some a4, some a5, some a6, some a7, some a8, some a9, some a10, some a11].getD j none), xJ cy a4 40 ((b_this.2.2 0)), xJ cy a5 40 ((b_this.2.2 1)), xJ cy a6 40 ((b_this.2.2 2)), xJ cy a7 40 ((b_this.2.2 3)), xJ cy a8 40 ((b_this.2.2 4)), xJ cy a9 40 ((b_this.2.2 5)), xJ cy a10 40 ((b_this.2.2 6)), xJ cy a11 40 ((b_this.2.2 7))]) C hw hr hQ dX1_placeRow_58
      · replace hf := if_f q7 hf
        refine lv_aload_n (pc := 42) hx hb dX1_placeRow_42 rfl (lv_at hl 0 rfl) ?_
        refine zk_gt (pc := 43) C hw zl_X1_20 0 rfl rfl dX1_placeRow_43 ?_
        refine lv_iload_n (pc := 46) hx hb dX1_placeRow_46 rfl (lv_at hl 1 rfl) ?_
        obtain ⟨q8, hf⟩ := ck hf
        rcases ix8 q8 with e9 | e9 | e9 | e9 | e9 | e9 | e9 | e9
        · rw [e9] at hf
          refine zk_aaldJ (pc := 47) (a' := a4) 0 e9 C hw 3 rfl q8 rfl dX1_placeRow_47 ?_
          refine lv_iload (pc := 48) hx hb dX1_placeRow_48 (lv_at hl 2 rfl) ?_
          refine lv_lconst (pc := 50) (v := 0) hx hb dX1_placeRow_50 (by decide) ?_
          obtain ⟨q11, hf⟩ := ck hf
          refine zk_last (pc := 51) (w' := [xSh a0 a1 a2 a3, xI cy a1 8 b_this.1, xI cy a2 8 b_this.2.1, xRJ cy a3 8 (fun j => [some a4, some a5, some a6, some a7, some a8, some a9, some a10, some a11].getD j none), xJ cy a4 40 ((vp_updL ((b_this.2.2 0)) v4.toNatClampNeg ((0 : Int64)))), xJ cy a5 40 ((b_this.2.2 1)), xJ cy a6 40 ((b_this.2.2 2)), xJ cy a7 40 ((b_this.2.2 3)), xJ cy a8 40 ((b_this.2.2 4)), xJ cy a9 40 ((b_this.2.2 5)), xJ cy a10 40 ((b_this.2.2 6)), xJ cy a11 40 ((b_this.2.2 7))]) C hw 4 rfl q11 rfl dX1_placeRow_51 (fun H locs hw => ?_)
          refine lv_iinc (pc := 52) (v := (v4 + 1)) (lv' := [(4, .int ((v4 + 1))), (0, .ref a0), (1, .int v1)]) hx hb dX1_placeRow_52 hl (k := 2) rfl rfl (by decide) rfl (fun ls hl => ?_)
          refine lv_goto (pc := 55) (tgt := 35) hx hb dX1_placeRow_55 (by decide) ?_
          exact ih v1 ((v4 + 1)) ((b_this.1, b_this.2.1, (va_up b_this.2.2 0 ((vp_updL ((b_this.2.2 0)) v4.toNatClampNeg ((0 : Int64))))))) _ _ _ hf hw (lv_sub hl [1, 2, 0] rfl)
        · rw [e9] at hf
          refine zk_aaldJ (pc := 47) (a' := a5) 1 e9 C hw 3 rfl q8 rfl dX1_placeRow_47 ?_
          refine lv_iload (pc := 48) hx hb dX1_placeRow_48 (lv_at hl 2 rfl) ?_
          refine lv_lconst (pc := 50) (v := 0) hx hb dX1_placeRow_50 (by decide) ?_
          obtain ⟨q12, hf⟩ := ck hf
          refine zk_last (pc := 51) (w' := [xSh a0 a1 a2 a3, xI cy a1 8 b_this.1, xI cy a2 8 b_this.2.1, xRJ cy a3 8 (fun j => [some a4, some a5, some a6, some a7, some a8, some a9, some a10, some a11].getD j none), xJ cy a4 40 ((b_this.2.2 0)), xJ cy a5 40 ((vp_updL ((b_this.2.2 1)) v4.toNatClampNeg ((0 : Int64)))), xJ cy a6 40 ((b_this.2.2 2)), xJ cy a7 40 ((b_this.2.2 3)), xJ cy a8 40 ((b_this.2.2 4)), xJ cy a9 40 ((b_this.2.2 5)), xJ cy a10 40 ((b_this.2.2 6)), xJ cy a11 40 ((b_this.2.2 7))]) C hw 5 rfl q12 rfl dX1_placeRow_51 (fun H locs hw => ?_)
          refine lv_iinc (pc := 52) (v := (v4 + 1)) (lv' := [(4, .int ((v4 + 1))), (0, .ref a0), (1, .int v1)]) hx hb dX1_placeRow_52 hl (k := 2) rfl rfl (by decide) rfl (fun ls hl => ?_)
          refine lv_goto (pc := 55) (tgt := 35) hx hb dX1_placeRow_55 (by decide) ?_
          exact ih v1 ((v4 + 1)) ((b_this.1, b_this.2.1, (va_up b_this.2.2 1 ((vp_updL ((b_this.2.2 1)) v4.toNatClampNeg ((0 : Int64))))))) _ _ _ hf hw (lv_sub hl [1, 2, 0] rfl)
        · rw [e9] at hf
          refine zk_aaldJ (pc := 47) (a' := a6) 2 e9 C hw 3 rfl q8 rfl dX1_placeRow_47 ?_
          refine lv_iload (pc := 48) hx hb dX1_placeRow_48 (lv_at hl 2 rfl) ?_
          refine lv_lconst (pc := 50) (v := 0) hx hb dX1_placeRow_50 (by decide) ?_
          obtain ⟨q13, hf⟩ := ck hf
          refine zk_last (pc := 51) (w' := [xSh a0 a1 a2 a3, xI cy a1 8 b_this.1, xI cy a2 8 b_this.2.1, xRJ cy a3 8 (fun j => [some a4, some a5, some a6, some a7, some a8, some a9, some a10, some a11].getD j none), xJ cy a4 40 ((b_this.2.2 0)), xJ cy a5 40 ((b_this.2.2 1)), xJ cy a6 40 ((vp_updL ((b_this.2.2 2)) v4.toNatClampNeg ((0 : Int64)))), xJ cy a7 40 ((b_this.2.2 3)), xJ cy a8 40 ((b_this.2.2 4)), xJ cy a9 40 ((b_this.2.2 5)), xJ cy a10 40 ((b_this.2.2 6)), xJ cy a11 40 ((b_this.2.2 7))]) C hw 6 rfl q13 rfl dX1_placeRow_51 (fun H locs hw => ?_)
          refine lv_iinc (pc := 52) (v := (v4 + 1)) (lv' := [(4, .int ((v4 + 1))), (0, .ref a0), (1, .int v1)]) hx hb dX1_placeRow_52 hl (k := 2) rfl rfl (by decide) rfl (fun ls hl => ?_)
          refine lv_goto (pc := 55) (tgt := 35) hx hb dX1_placeRow_55 (by decide) ?_
          exact ih v1 ((v4 + 1)) ((b_this.1, b_this.2.1, (va_up b_this.2.2 2 ((vp_updL ((b_this.2.2 2)) v4.toNatClampNeg ((0 : Int64))))))) _ _ _ hf hw (lv_sub hl [1, 2, 0] rfl)
        · rw [e9] at hf
          refine zk_aaldJ (pc := 47) (a' := a7) 3 e9 C hw 3 rfl q8 rfl dX1_placeRow_47 ?_
          refine lv_iload (pc := 48) hx hb dX1_placeRow_48 (lv_at hl 2 rfl) ?_
          refine lv_lconst (pc := 50) (v := 0) hx hb dX1_placeRow_50 (by decide) ?_
          obtain ⟨q14, hf⟩ := ck hf
          refine zk_last (pc := 51) (w' := [xSh a0 a1 a2 a3, xI cy a1 8 b_this.1, xI cy a2 8 b_this.2.1, xRJ cy a3 8 (fun j => [some a4, some a5, some a6, some a7, some a8, some a9, some a10, some a11].getD j none), xJ cy a4 40 ((b_this.2.2 0)), xJ cy a5 40 ((b_this.2.2 1)), xJ cy a6 40 ((b_this.2.2 2)), xJ cy a7 40 ((vp_updL ((b_this.2.2 3)) v4.toNatClampNeg ((0 : Int64)))), xJ cy a8 40 ((b_this.2.2 4)), xJ cy a9 40 ((b_this.2.2 5)), xJ cy a10 40 ((b_this.2.2 6)), xJ cy a11 40 ((b_this.2.2 7))]) C hw 7 rfl q14 rfl dX1_placeRow_51 (fun H locs hw => ?_)
          refine lv_iinc (pc := 52) (v := (v4 + 1)) (lv' := [(4, .int ((v4 + 1))), (0, .ref a0), (1, .int v1)]) hx hb dX1_placeRow_52 hl (k := 2) rfl rfl (by decide) rfl (fun ls hl => ?_)
          refine lv_goto (pc := 55) (tgt := 35) hx hb dX1_placeRow_55 (by decide) ?_
          exact ih v1 ((v4 + 1)) ((b_this.1, b_this.2.1, (va_up b_this.2.2 3 ((vp_updL ((b_this.2.2 3)) v4.toNatClampNeg ((0 : Int64))))))) _ _ _ hf hw (lv_sub hl [1, 2, 0] rfl)
        · rw [e9] at hf
          refine zk_aaldJ (pc := 47) (a' := a8) 4 e9 C hw 3 rfl q8 rfl dX1_placeRow_47 ?_
          refine lv_iload (pc := 48) hx hb dX1_placeRow_48 (lv_at hl 2 rfl) ?_
          refine lv_lconst (pc := 50) (v := 0) hx hb dX1_placeRow_50 (by decide) ?_
          obtain ⟨q15, hf⟩ := ck hf
          refine zk_last (pc := 51) (w' := [xSh a0 a1 a2 a3, xI cy a1 8 b_this.1, xI cy a2 8 b_this.2.1, xRJ cy a3 8 (fun j => [some a4, some a5, some a6, some a7, some a8, some a9, some a10, some a11].getD j none), xJ cy a4 40 ((b_this.2.2 0)), xJ cy a5 40 ((b_this.2.2 1)), xJ cy a6 40 ((b_this.2.2 2)), xJ cy a7 40 ((b_this.2.2 3)), xJ cy a8 40 ((vp_updL ((b_this.2.2 4)) v4.toNatClampNeg ((0 : Int64)))), xJ cy a9 40 ((b_this.2.2 5)), xJ cy a10 40 ((b_this.2.2 6)), xJ cy a11 40 ((b_this.2.2 7))]) C hw 8 rfl q15 rfl dX1_placeRow_51 (fun H locs hw => ?_)
          refine lv_iinc (pc := 52) (v := (v4 + 1)) (lv' := [(4, .int ((v4 + 1))), (0, .ref a0), (1, .int v1)]) hx hb dX1_placeRow_52 hl (k := 2) rfl rfl (by decide) rfl (fun ls hl => ?_)
          refine lv_goto (pc := 55) (tgt := 35) hx hb dX1_placeRow_55 (by decide) ?_
          exact ih v1 ((v4 + 1)) ((b_this.1, b_this.2.1, (va_up b_this.2.2 4 ((vp_updL ((b_this.2.2 4)) v4.toNatClampNeg ((0 : Int64))))))) _ _ _ hf hw (lv_sub hl [1, 2, 0] rfl)
        · rw [e9] at hf
          refine zk_aaldJ (pc := 47) (a' := a9) 5 e9 C hw 3 rfl q8 rfl dX1_placeRow_47 ?_
          refine lv_iload (pc := 48) hx hb dX1_placeRow_48 (lv_at hl 2 rfl) ?_
          refine lv_lconst (pc := 50) (v := 0) hx hb dX1_placeRow_50 (by decide) ?_
          obtain ⟨q16, hf⟩ := ck hf
          refine zk_last (pc := 51) (w' := [xSh a0 a1 a2 a3, xI cy a1 8 b_this.1, xI cy a2 8 b_this.2.1, xRJ cy a3 8 (fun j => [some a4, some a5, some a6, some a7, some a8, some a9, some a10, some a11].getD j none), xJ cy a4 40 ((b_this.2.2 0)), xJ cy a5 40 ((b_this.2.2 1)), xJ cy a6 40 ((b_this.2.2 2)), xJ cy a7 40 ((b_this.2.2 3)), xJ cy a8 40 ((b_this.2.2 4)), xJ cy a9 40 ((vp_updL ((b_this.2.2 5)) v4.toNatClampNeg ((0 : Int64)))), xJ cy a10 40 ((b_this.2.2 6)), xJ cy a11 40 ((b_this.2.2 7))]) C hw 9 rfl q16 rfl dX1_placeRow_51 (fun H locs hw => ?_)
          refine lv_iinc (pc := 52) (v := (v4 + 1)) (lv' := [(4, .int ((v4 + 1))), (0, .ref a0), (1, .int v1)]) hx hb dX1_placeRow_52 hl (k := 2) rfl rfl (by decide) rfl (fun ls hl => ?_)
          refine lv_goto (pc := 55) (tgt := 35) hx hb dX1_placeRow_55 (by decide) ?_
          exact ih v1 ((v4 + 1)) ((b_this.1, b_this.2.1, (va_up b_this.2.2 5 ((vp_updL ((b_this.2.2 5)) v4.toNatClampNeg ((0 : Int64))))))) _ _ _ hf hw (lv_sub hl [1, 2, 0] rfl)
        · rw [e9] at hf
          refine zk_aaldJ (pc := 47) (a' := a10) 6 e9 C hw 3 rfl q8 rfl dX1_placeRow_47 ?_
          refine lv_iload (pc := 48) hx hb dX1_placeRow_48 (lv_at hl 2 rfl) ?_
          refine lv_lconst (pc := 50) (v := 0) hx hb dX1_placeRow_50 (by decide) ?_
          obtain ⟨q17, hf⟩ := ck hf
          refine zk_last (pc := 51) (w' := [xSh a0 a1 a2 a3, xI cy a1 8 b_this.1, xI cy a2 8 b_this.2.1, xRJ cy a3 8 (fun j => [some a4, some a5, some a6, some a7, some a8, some a9, some a10, some a11].getD j none), xJ cy a4 40 ((b_this.2.2 0)), xJ cy a5 40 ((b_this.2.2 1)), xJ cy a6 40 ((b_this.2.2 2)), xJ cy a7 40 ((b_this.2.2 3)), xJ cy a8 40 ((b_this.2.2 4)), xJ cy a9 40 ((b_this.2.2 5)), xJ cy a10 40 ((vp_updL ((b_this.2.2 6)) v4.toNatClampNeg ((0 : Int64)))), xJ cy a11 40 ((b_this.2.2 7))]) C hw 10 rfl q17 rfl dX1_placeRow_51 (fun H locs hw => ?_)
          refine lv_iinc (pc := 52) (v := (v4 + 1)) (lv' := [(4, .int ((v4 + 1))), (0, .ref a0), (1, .int v1)]) hx hb dX1_placeRow_52 hl (k := 2) rfl rfl (by decide) rfl (fun ls hl => ?_)
          refine lv_goto (pc := 55) (tgt := 35) hx hb dX1_placeRow_55 (by decide) ?_
          exact ih v1 ((v4 + 1)) ((b_this.1, b_this.2.1, (va_up b_this.2.2 6 ((vp_updL ((b_this.2.2 6)) v4.toNatClampNeg ((0 : Int64))))))) _ _ _ hf hw (lv_sub hl [1, 2, 0] rfl)
        · rw [e9] at hf
          refine zk_aaldJ (pc := 47) (a' := a11) 7 e9 C hw 3 rfl q8 rfl dX1_placeRow_47 ?_
          refine lv_iload (pc := 48) hx hb dX1_placeRow_48 (lv_at hl 2 rfl) ?_
          refine lv_lconst (pc := 50) (v := 0) hx hb dX1_placeRow_50 (by decide) ?_
          obtain ⟨q18, hf⟩ := ck hf
          refine zk_last (pc := 51) (w' := [xSh a0 a1 a2 a3, xI cy a1 8 b_this.1, xI cy a2 8 b_this.2.1, xRJ cy a3 8 (fun j => [some a4, some a5, some a6, some a7, some a8, some a9, some a10, some a11].getD j none), xJ cy a4 40 ((b_this.2.2 0)), xJ cy a5 40 ((b_this.2.2 1)), xJ cy a6 40 ((b_this.2.2 2)), xJ cy a7 40 ((b_this.2.2 3)), xJ cy a8 40 ((b_this.2.2 4)), xJ cy a9 40 ((b_this.2.2 5)), xJ cy a10 40 ((b_this.2.2 6)), xJ cy a11 40 ((vp_updL ((b_this.2.2 7)) v4.toNatClampNeg ((0 : Int64))))]) C hw 11 rfl q18 rfl dX1_placeRow_51 (fun H locs hw => ?_)
          refine lv_iinc (pc := 52) (v := (v4 + 1)) (lv' := [(4, .int ((v4 + 1))), (0, .ref a0), (1, .int v1)]) hx hb dX1_placeRow_52 hl (k := 2) rfl rfl (by decide) rfl (fun ls hl => ?_)
          refine lv_goto (pc := 55) (tgt := 35) hx hb dX1_placeRow_55 (by decide) ?_
          exact ih v1 ((v4 + 1)) ((b_this.1, b_this.2.1, (va_up b_this.2.2 7 ((vp_updL ((b_this.2.2 7)) v4.toNatClampNeg ((0 : Int64))))))) _ _ _ hf hw (lv_sub hl [1, 2, 0] rfl)
  rw [zf_X1_placeRow] at hf
  refine lv_iload_n (pc := 0) hx hb dX1_placeRow_0 rfl (lv_at hl 1 rfl) ?_
  obtain ⟨u1, u1e, hf⟩ := bd hf
  refine zk_cSN (pc := 1) (rest := []) (st1 := [.int (bI u1)]) (w' := [xSh a0 a1 a2 a3, xI cy a1 8 b_this.1, xI cy a2 8 b_this.2.1, xRJ cy a3 8 (fun j => [some a4, some a5, some a6, some a7, some a8, some a9, some a10, some a11].getD j none), xJ cy a4 40 ((b_this.2.2 0)), xJ cy a5 40 ((b_this.2.2 1)), xJ cy a6 40 ((b_this.2.2 2)), xJ cy a7 40 ((b_this.2.2 3)), xJ cy a8 40 ((b_this.2.2 4)), xJ cy a9 40 ((b_this.2.2 5)), xJ cy a10 40 ((b_this.2.2 6)), xJ cy a11 40 ((b_this.2.2 7))]) (mk := [none, none, none, none, none, none, none, none, none, none, none, none]) C hw (c_X7_isShelf l G cy tt x1 _ u1e) zy_X7_isShelf zmn_X1_35 [] rfl rfl rfl rfl rfl rfl rfl rfl hl.1 ⟨rfl, rfl⟩ ⟨Nat.le_of_ble_eq_true rfl, Nat.le_of_ble_eq_true rfl⟩ rfl (Nat.le_of_ble_eq_true rfl) ⟨Nat.zero_le _, Nat.zero_le _⟩ dX1_placeRow_1 (fun H locs hw => ?_)
  refine zk_ifz (pc := 4) (tgt := 17) hx hb dX1_placeRow_4 (by decide) (fun q2 => ?_) (fun q2 => ?_)
  · replace hf := if_f q2 hf
    have hf := Option.some.inj hf
    subst hf
    exact zk_retv (pc := 17) (ww := [xSh a0 a1 a2 a3, xI cy a1 8 b_this.1, xI cy a2 8 b_this.2.1, xRJ cy a3 8 (fun j => [some a4, some a5, some a6, some a7, some a8, some a9, some a10, some a11].getD j none), xJ cy a4 40 ((b_this.2.2 0)), xJ cy a5 40 ((b_this.2.2 1)), xJ cy a6 40 ((b_this.2.2 2)), xJ cy a7 40 ((b_this.2.2 3)), xJ cy a8 40 ((b_this.2.2 4)), xJ cy a9 40 ((b_this.2.2 5)), xJ cy a10 40 ((b_this.2.2 6)), xJ cy a11 40 ((b_this.2.2 7))]) C hw hr hQ dX1_placeRow_17
  · replace hf := if_t q2 hf
    refine lv_iload_n (pc := 7) hx hb dX1_placeRow_7 rfl (lv_at hl 3 rfl) ?_
    refine lv_iconst (pc := 8) (v := 0) hx hb dX1_placeRow_8 (by decide) ?_
    refine lv_bipush (pc := 9) (v := 40) hx hb dX1_placeRow_9 (by decide) ?_
    obtain ⟨u3, u3e, hf⟩ := bd hf
    refine zk_cSN (pc := 11) (rest := []) (st1 := [.int (bI u3)]) (w' := [xSh a0 a1 a2 a3, xI cy a1 8 b_this.1, xI cy a2 8 b_this.2.1, xRJ cy a3 8 (fun j => [some a4, some a5, some a6, some a7, some a8, some a9, some a10, some a11].getD j none), xJ cy a4 40 ((b_this.2.2 0)), xJ cy a5 40 ((b_this.2.2 1)), xJ cy a6 40 ((b_this.2.2 2)), xJ cy a7 40 ((b_this.2.2 3)), xJ cy a8 40 ((b_this.2.2 4)), xJ cy a9 40 ((b_this.2.2 5)), xJ cy a10 40 ((b_this.2.2 6)), xJ cy a11 40 ((b_this.2.2 7))]) (mk := [none, none, none, none, none, none, none, none, none, none, none, none]) C hw (c_X7_isWithin l G cy tt x3 (((0 : Int32))) (((40 : Int32))) _ u3e) zy_X7_isWithin zmn_X1_27 [] rfl rfl rfl rfl rfl rfl rfl rfl hl.1 ⟨rfl, rfl⟩ ⟨Nat.le_of_ble_eq_true rfl, Nat.le_of_ble_eq_true rfl⟩ rfl (Nat.le_of_ble_eq_true rfl) ⟨Nat.zero_le _, Nat.zero_le _⟩ dX1_placeRow_11 (fun H locs hw => ?_)
    refine zk_ifnz (pc := 14) (tgt := 18) hx hb dX1_placeRow_14 (by decide) (fun q4 => ?_) (fun q4 => ?_)
    · replace hf := if_t q4 hf
      refine lv_aload_n (pc := 18) hx hb dX1_placeRow_18 rfl (lv_at hl 0 rfl) ?_
      refine zk_gt (pc := 19) C hw zl_X1_9 0 rfl rfl dX1_placeRow_19 ?_
      refine lv_iload_n (pc := 22) hx hb dX1_placeRow_22 rfl (lv_at hl 1 rfl) ?_
      refine lv_iload_n (pc := 23) hx hb dX1_placeRow_23 rfl (lv_at hl 2 rfl) ?_
      obtain ⟨q5, hf⟩ := ck hf
      refine zk_iast (pc := 24) (w' := [xSh a0 a1 a2 a3, xI cy a1 8 ((upd b_this.1 x1.toNatClampNeg x2)), xI cy a2 8 b_this.2.1, xRJ cy a3 8 (fun j => [some a4, some a5, some a6, some a7, some a8, some a9, some a10, some a11].getD j none), xJ cy a4 40 ((b_this.2.2 0)), xJ cy a5 40 ((b_this.2.2 1)), xJ cy a6 40 ((b_this.2.2 2)), xJ cy a7 40 ((b_this.2.2 3)), xJ cy a8 40 ((b_this.2.2 4)), xJ cy a9 40 ((b_this.2.2 5)), xJ cy a10 40 ((b_this.2.2 6)), xJ cy a11 40 ((b_this.2.2 7))]) C hw 1 rfl q5 rfl dX1_placeRow_24 (fun H locs hw => ?_)
      refine lv_aload_n (pc := 25) hx hb dX1_placeRow_25 rfl (lv_at hl 0 rfl) ?_
      refine zk_gt (pc := 26) C hw zl_X1_15 0 rfl rfl dX1_placeRow_26 ?_
      refine lv_iload_n (pc := 29) hx hb dX1_placeRow_29 rfl (lv_at hl 1 rfl) ?_
      refine lv_iload_n (pc := 30) hx hb dX1_placeRow_30 rfl (lv_at hl 3 rfl) ?_
      obtain ⟨q6, hf⟩ := ck hf
      refine zk_iast (pc := 31) (w' := [xSh a0 a1 a2 a3, xI cy a1 8 ((upd b_this.1 x1.toNatClampNeg x2)), xI cy a2 8 ((upd b_this.2.1 x1.toNatClampNeg x3)), xRJ cy a3 8 (fun j => [some a4, some a5, some a6, some a7, some a8, some a9, some a10, some a11].getD j none), xJ cy a4 40 ((b_this.2.2 0)), xJ cy a5 40 ((b_this.2.2 1)), xJ cy a6 40 ((b_this.2.2 2)), xJ cy a7 40 ((b_this.2.2 3)), xJ cy a8 40 ((b_this.2.2 4)), xJ cy a9 40 ((b_this.2.2 5)), xJ cy a10 40 ((b_this.2.2 6)), xJ cy a11 40 ((b_this.2.2 7))]) C hw 2 rfl q6 rfl dX1_placeRow_31 (fun H locs hw => ?_)
      refine lv_iconst (pc := 32) (v := 0) hx hb dX1_placeRow_32 (by decide) ?_
      refine lv_istore (pc := 33) (lv' := [(4, .int ((0 : Int32))), (0, .ref a0), (1, .int x1), (2, .int x2), (3, .int x3)]) hx hb dX1_placeRow_33 hl (by decide) rfl (fun ls hl => ?_)
      exact J35 FU x1 ((0 : Int32)) (((upd b_this.1 x1.toNatClampNeg x2), (upd b_this.2.1 x1.toNatClampNeg x3), b_this.2.2)) _ _ _ hf hw (lv_sub hl [1, 2, 0] rfl)
    · replace hf := if_f q4 hf
      have hf := Option.some.inj hf
      subst hf
      exact zk_retv (pc := 17) (ww := [xSh a0 a1 a2 a3, xI cy a1 8 b_this.1, xI cy a2 8 b_this.2.1, xRJ cy a3 8 (fun j => [some a4, some a5, some a6, some a7, some a8, some a9, some a10, some a11].getD j none), xJ cy a4 40 ((b_this.2.2 0)), xJ cy a5 40 ((b_this.2.2 1)), xJ cy a6 40 ((b_this.2.2 2)), xJ cy a7 40 ((b_this.2.2 3)), xJ cy a8 40 ((b_this.2.2 4)), xJ cy a9 40 ((b_this.2.2 5)), xJ cy a10 40 ((b_this.2.2 6)), xJ cy a11 40 ((b_this.2.2 7))]) C hw hr hQ dX1_placeRow_17
def zf_X7_refused (x1 : Int32) (b_refusals : Nat → Int32) : Option (Int32 × (Nat → Int32)) := (if ((-2 : Int32) - x1) < 0 then some (x1, b_refusals) else (if (5 : Int32) ≤ ((-2 : Int32) - x1) then some (x1, b_refusals) else (if ix (((-2 : Int32) - x1)) 5 then (if ix (((-2 : Int32) - x1)) 5 then some (x1, (upd b_refusals ((((-2 : Int32) - x1)).toNatClampNeg) (((b_refusals (((-2 : Int32) - x1)).toNatClampNeg) + (1 : Int32))))) else none) else none)))
abbrev zr_X7_refused : Room := { frames := 0, cells := 0, slots := 0, locals := 0 }
set_option maxHeartbeats 4000000 in
set_option maxRecDepth 100000 in
theorem c_X7_refused (l : Launch) (G : va_G) (cy : Nat → ClassId) (tt : Nat → Nat) (L : Nat → Nat) (b_seedNow : Int32) (b_keptSeed : Int32) (b_isKept : Bool) (x1 : Int32) (b_refusals : Nat → Int32) (res : Int32 × (Nat → Int32)) (hf : zf_X7_refused x1 b_refusals = some res) : zCT l yX7_refused cX7_refused 3 (some .int) zr_X7_refused G cy tt [.ref ((L 0)), .int x1] [xU L b_seedNow b_keptSeed b_isKept, xI cy ((L 48)) 5 b_refusals] (some (.int res.1)) [xU L b_seedNow b_keptSeed b_isKept, xI cy ((L 48)) 5 res.2] := by
  refine zk_start zn_X7 (Nat.le_of_ble_eq_true rfl) ?_
  intro p e s m args below meth c A ls Q C hr hQ hw hl
  have C : zCx p m c s args meth cX7_refused 3 RX7 G cy tt A := C
  have hx := C.1.1
  have hb := C.1.2.1
  have hl : lv_has ls 3 [(0, .ref ((L 0))), (1, .int x1)] := hl
  rw [zf_X7_refused] at hf
  refine lv_bipush (pc := 0) (v := -2) hx hb dX7_refused_0 (by decide) ?_
  refine lv_iload_n (pc := 2) hx hb dX7_refused_2 rfl (lv_at hl 1 rfl) ?_
  refine lv_isub (pc := 3) hx hb dX7_refused_3 ?_
  refine lv_istore_n (pc := 4) (lv' := [(2, .int (((-2 : Int32) - x1))), (0, .ref ((L 0))), (1, .int x1)]) hx hb dX7_refused_4 rfl hl (by decide) rfl (fun ls hl => ?_)
  refine lv_iload_n (pc := 5) hx hb dX7_refused_5 rfl (lv_at hl 0 rfl) ?_
  refine lv_if_lt (pc := 6) (tgt := 28) hx hb dX7_refused_6 (by decide) (fun q1 => ?_) (fun q1 => ?_)
  · replace hf := if_t q1 hf
    refine lv_iload_n (pc := 28) hx hb dX7_refused_28 rfl (lv_at hl 2 rfl) ?_
    have hf := Option.some.inj hf
    subst hf
    exact zk_reti (pc := 29) (ww := [xU L b_seedNow b_keptSeed b_isKept, xI cy ((L 48)) 5 b_refusals]) C hw hr hQ dX7_refused_29
  · replace hf := if_f q1 hf
    refine lv_iload_n (pc := 9) hx hb dX7_refused_9 rfl (lv_at hl 0 rfl) ?_
    refine lv_aload_n (pc := 10) hx hb dX7_refused_10 rfl (lv_at hl 1 rfl) ?_
    refine zk_gt (pc := 11) C hw zl_X7_81 0 rfl rfl dX7_refused_11 ?_
    refine zk_alen (pc := 14) (v := 5) C hw 1 0 rfl rfl rfl dX7_refused_14 ?_
    refine lv_icmp_ge (pc := 15) (tgt := 28) hx hb dX7_refused_15 (by decide) (fun q2 => ?_) (fun q2 => ?_)
    · replace hf := if_t q2 hf
      refine lv_iload_n (pc := 28) hx hb dX7_refused_28 rfl (lv_at hl 2 rfl) ?_
      have hf := Option.some.inj hf
      subst hf
      exact zk_reti (pc := 29) (ww := [xU L b_seedNow b_keptSeed b_isKept, xI cy ((L 48)) 5 b_refusals]) C hw hr hQ dX7_refused_29
    · replace hf := if_f q2 hf
      refine lv_aload_n (pc := 18) hx hb dX7_refused_18 rfl (lv_at hl 1 rfl) ?_
      refine zk_gt (pc := 19) C hw zl_X7_81 0 rfl rfl dX7_refused_19 ?_
      refine lv_iload_n (pc := 22) hx hb dX7_refused_22 rfl (lv_at hl 0 rfl) ?_
      refine lv_dup2_11 (pc := 23) hx hb dX7_refused_23 rfl rfl ?_
      obtain ⟨q3, hf⟩ := ck hf
      refine zk_iald (pc := 24) C hw 1 rfl q3 dX7_refused_24 ?_
      refine lv_iconst (pc := 25) (v := 1) hx hb dX7_refused_25 (by decide) ?_
      refine lv_iadd (pc := 26) hx hb dX7_refused_26 ?_
      obtain ⟨q4, hf⟩ := ck hf
      refine zk_iast (pc := 27) (w' := [xU L b_seedNow b_keptSeed b_isKept, xI cy ((L 48)) 5 ((upd b_refusals ((((-2 : Int32) - x1)).toNatClampNeg) (((b_refusals (((-2 : Int32) - x1)).toNatClampNeg) + (1 : Int32)))))]) C hw 1 rfl q4 rfl dX7_refused_27 (fun H locs hw => ?_)
      refine lv_iload_n (pc := 28) hx hb dX7_refused_28 rfl (lv_at hl 2 rfl) ?_
      have hf := Option.some.inj hf
      subst hf
      exact zk_reti (pc := 29) (ww := [xU L b_seedNow b_keptSeed b_isKept, xI cy ((L 48)) 5 ((upd b_refusals ((((-2 : Int32) - x1)).toNatClampNeg) (((b_refusals (((-2 : Int32) - x1)).toNatClampNeg) + (1 : Int32)))))]) C hw hr hQ dX7_refused_29
def zf_X7_row_26 (b_shelves : TSh) (b_refusals : Nat → Int32) : Option (Int32 × TSh × (Nat → Int32)) := (Option.bind (zf_X7_refused (((-2 : Int32))) b_refusals) (fun u8 => some (u8.1, b_shelves, u8.2)))
def zf_X7_row (x1 : Int32) (x2 : Int32) (x3 : Int32) (b_shelves : TSh) (b_refusals : Nat → Int32) : Option (Int32 × TSh × (Nat → Int32)) := (Option.bind (zf_X7_isShelf x1) (fun u1 => (if u1 then (Option.bind (zf_X7_isWithin x2 (((0 : Int32))) (((4 : Int32)))) (fun u3 => (if u3 then (Option.bind (zf_X7_isWithin x3 (((0 : Int32))) (((40 : Int32)))) (fun u5 => (if u5 then (Option.bind (zf_X1_placeRow x1 x2 x3 b_shelves) (fun u7 => some ((1 : Int32), u7, b_refusals))) else zf_X7_row_26 b_shelves b_refusals))) else zf_X7_row_26 b_shelves b_refusals))) else zf_X7_row_26 b_shelves b_refusals)))
abbrev zr_X7_row : Room := { frames := 3, cells := 0, slots := 0, locals := 66 }
set_option maxHeartbeats 4000000 in
set_option maxRecDepth 100000 in
theorem c_X7_row (l : Launch) (G : va_G) (cy : Nat → ClassId) (tt : Nat → Nat) (L : Nat → Nat) (b_seedNow : Int32) (b_keptSeed : Int32) (b_isKept : Bool) (x1 : Int32) (x2 : Int32) (x3 : Int32) (b_shelves : TSh) (b_refusals : Nat → Int32) (res : Int32 × TSh × (Nat → Int32)) (hf : zf_X7_row x1 x2 x3 b_shelves b_refusals = some res) : zCT l yX7_row cX7_row 4 (some .int) zr_X7_row G cy tt [.ref ((L 0)), .int x1, .int x2, .int x3] [xU L b_seedNow b_keptSeed b_isKept, xSh ((L 20)) ((L 21)) ((L 22)) ((L 23)), xI cy ((L 21)) 8 b_shelves.1, xI cy ((L 22)) 8 b_shelves.2.1, xRJ cy ((L 23)) 8 (fun j => [some ((L 24)), some ((L 25)), some ((L 26)), some ((L 27)), some ((L 28)), some ((L 29)), some ((L 30)), some ((L 31))].getD j none), xJ cy ((L 24)) 40 ((b_shelves.2.2 0)), xJ cy ((L 25)) 40 ((b_shelves.2.2 1)), xJ cy ((L 26)) 40 ((b_shelves.2.2 2)), xJ cy ((L 27)) 40 ((b_shelves.2.2 3)), xJ cy ((L 28)) 40 ((b_shelves.2.2 4)), xJ cy ((L 29)) 40 ((b_shelves.2.2 5)), xJ cy ((L 30)) 40 ((b_shelves.2.2 6)), xJ cy ((L 31)) 40 ((b_shelves.2.2 7)), xI cy ((L 48)) 5 b_refusals] (some (.int res.1)) [xU L b_seedNow b_keptSeed b_isKept, xSh ((L 20)) ((L 21)) ((L 22)) ((L 23)), xI cy ((L 21)) 8 res.2.1.1, xI cy ((L 22)) 8 res.2.1.2.1, xRJ cy ((L 23)) 8 (fun j => [some ((L 24)), some ((L 25)), some ((L 26)), some ((L 27)), some ((L 28)), some ((L 29)), some ((L 30)), some ((L 31))].getD j none), xJ cy ((L 24)) 40 ((res.2.1.2.2 0)), xJ cy ((L 25)) 40 ((res.2.1.2.2 1)), xJ cy ((L 26)) 40 ((res.2.1.2.2 2)), xJ cy ((L 27)) 40 ((res.2.1.2.2 3)), xJ cy ((L 28)) 40 ((res.2.1.2.2 4)), xJ cy ((L 29)) 40 ((res.2.1.2.2 5)), xJ cy ((L 30)) 40 ((res.2.1.2.2 6)), xJ cy ((L 31)) 40 ((res.2.1.2.2 7)), xI cy ((L 48)) 5 res.2.2] := by
  refine zk_start zn_X7 (Nat.le_of_ble_eq_true rfl) ?_
  intro p e s m args below meth c A ls Q C hr hQ hw hl
  have C : zCx p m c s args meth cX7_row 4 RX7 G cy tt A := C
  have hx := C.1.1
  have hb := C.1.2.1
  have hl : lv_has ls 4 [(0, .ref ((L 0))), (1, .int x1), (2, .int x2), (3, .int x3)] := hl
  have J26 : ∀ (b_shelves : TSh) (b_refusals : Nat → Int32) (H : Heap) (locs : List Loc) (ls : Array Slot), zf_X7_row_26 b_shelves b_refusals = some res → zWd G A s.heap H locs [xU L b_seedNow b_keptSeed b_isKept, xSh ((L 20)) ((L 21)) ((L 22)) ((L 23)), xI cy ((L 21)) 8 b_shelves.1, xI cy ((L 22)) 8 b_shelves.2.1, xRJ cy ((L 23)) 8 (fun j => [some ((L 24)), some ((L 25)), some ((L 26)), some ((L 27)), some ((L 28)), some ((L 29)), some ((L 30)), some ((L 31))].getD j none), xJ cy ((L 24)) 40 ((b_shelves.2.2 0)), xJ cy ((L 25)) 40 ((b_shelves.2.2 1)), xJ cy ((L 26)) 40 ((b_shelves.2.2 2)), xJ cy ((L 27)) 40 ((b_shelves.2.2 3)), xJ cy ((L 28)) 40 ((b_shelves.2.2 4)), xJ cy ((L 29)) 40 ((b_shelves.2.2 5)), xJ cy ((L 30)) 40 ((b_shelves.2.2 6)), xJ cy ((L 31)) 40 ((b_shelves.2.2 7)), xI cy ((L 48)) 5 b_refusals] → lv_has ls 4 [(0, .ref ((L 0)))] → W p l e zr_X7_row s m args below meth c H locs 0 0 Q (F0 m 26 ls []) := by
    intro b_shelves b_refusals H locs ls hf hw hl
    rw [zf_X7_row_26] at hf
    refine lv_aload_n (pc := 26) hx hb dX7_row_26 rfl (lv_at hl 0 rfl) ?_
    refine lv_bipush (pc := 27) (v := -2) hx hb dX7_row_27 (by decide) ?_
    obtain ⟨u8, u8e, hf⟩ := bd hf
    refine zk_cV (pc := 29) (ci := 7) (q0 := 0) (rest := []) (st1 := [.int u8.1]) (w' := [xU L b_seedNow b_keptSeed b_isKept, xSh ((L 20)) ((L 21)) ((L 22)) ((L 23)), xI cy ((L 21)) 8 b_shelves.1, xI cy ((L 22)) 8 b_shelves.2.1, xRJ cy ((L 23)) 8 (fun j => [some ((L 24)), some ((L 25)), some ((L 26)), some ((L 27)), some ((L 28)), some ((L 29)), some ((L 30)), some ((L 31))].getD j none), xJ cy ((L 24)) 40 ((b_shelves.2.2 0)), xJ cy ((L 25)) 40 ((b_shelves.2.2 1)), xJ cy ((L 26)) 40 ((b_shelves.2.2 2)), xJ cy ((L 27)) 40 ((b_shelves.2.2 3)), xJ cy ((L 28)) 40 ((b_shelves.2.2 4)), xJ cy ((L 29)) 40 ((b_shelves.2.2 5)), xJ cy ((L 30)) 40 ((b_shelves.2.2 6)), xJ cy ((L 31)) 40 ((b_shelves.2.2 7)), xI cy ((L 48)) 5 u8.2]) (mk := [none, none, none, none, none, none, none, none, none, none, none, none, none, some (xI cy ((L 48)) 5 u8.2)]) C hw (c_X7_refused l G cy tt L b_seedNow b_keptSeed b_isKept (((-2 : Int32))) b_refusals _ u8e) zy_X7_refused zm_X7_103 rfl rfl rfl [0, 13] rfl rfl rfl rfl rfl rfl rfl rfl hl.1 ⟨rfl, rfl⟩ ⟨Nat.le_of_ble_eq_true rfl, Nat.le_of_ble_eq_true rfl⟩ rfl (Nat.le_of_ble_eq_true rfl) ⟨Nat.zero_le _, Nat.zero_le _⟩ dX7_row_29 (fun H locs hw => ?_)
    have hf := Option.some.inj hf
    subst hf
    exact zk_reti (pc := 32) (ww := [xU L b_seedNow b_keptSeed b_isKept, xSh ((L 20)) ((L 21)) ((L 22)) ((L 23)), xI cy ((L 21)) 8 b_shelves.1, xI cy ((L 22)) 8 b_shelves.2.1, xRJ cy ((L 23)) 8 (fun j => [some ((L 24)), some ((L 25)), some ((L 26)), some ((L 27)), some ((L 28)), some ((L 29)), some ((L 30)), some ((L 31))].getD j none), xJ cy ((L 24)) 40 ((b_shelves.2.2 0)), xJ cy ((L 25)) 40 ((b_shelves.2.2 1)), xJ cy ((L 26)) 40 ((b_shelves.2.2 2)), xJ cy ((L 27)) 40 ((b_shelves.2.2 3)), xJ cy ((L 28)) 40 ((b_shelves.2.2 4)), xJ cy ((L 29)) 40 ((b_shelves.2.2 5)), xJ cy ((L 30)) 40 ((b_shelves.2.2 6)), xJ cy ((L 31)) 40 ((b_shelves.2.2 7)), xI cy ((L 48)) 5 u8.2]) C hw hr hQ dX7_row_32
  rw [zf_X7_row] at hf
  refine lv_iload_n (pc := 0) hx hb dX7_row_0 rfl (lv_at hl 1 rfl) ?_
  obtain ⟨u1, u1e, hf⟩ := bd hf
  refine zk_cS (pc := 1) (rest := []) (st1 := [.int (bI u1)]) (w' := [xU L b_seedNow b_keptSeed b_isKept, xSh ((L 20)) ((L 21)) ((L 22)) ((L 23)), xI cy ((L 21)) 8 b_shelves.1, xI cy ((L 22)) 8 b_shelves.2.1, xRJ cy ((L 23)) 8 (fun j => [some ((L 24)), some ((L 25)), some ((L 26)), some ((L 27)), some ((L 28)), some ((L 29)), some ((L 30)), some ((L 31))].getD j none), xJ cy ((L 24)) 40 ((b_shelves.2.2 0)), xJ cy ((L 25)) 40 ((b_shelves.2.2 1)), xJ cy ((L 26)) 40 ((b_shelves.2.2 2)), xJ cy ((L 27)) 40 ((b_shelves.2.2 3)), xJ cy ((L 28)) 40 ((b_shelves.2.2 4)), xJ cy ((L 29)) 40 ((b_shelves.2.2 5)), xJ cy ((L 30)) 40 ((b_shelves.2.2 6)), xJ cy ((L 31)) 40 ((b_shelves.2.2 7)), xI cy ((L 48)) 5 b_refusals]) (mk := [none, none, none, none, none, none, none, none, none, none, none, none, none, none]) C hw (c_X7_isShelf l G cy tt x1 _ u1e) zy_X7_isShelf zm_X7_95 [] rfl rfl rfl rfl rfl rfl rfl rfl hl.1 ⟨rfl, rfl⟩ ⟨Nat.le_of_ble_eq_true rfl, Nat.le_of_ble_eq_true rfl⟩ rfl (Nat.le_of_ble_eq_true rfl) ⟨Nat.zero_le _, Nat.zero_le _⟩ dX7_row_1 (fun H locs hw => ?_)
  refine zk_ifz (pc := 4) (tgt := 26) hx hb dX7_row_4 (by decide) (fun q2 => ?_) (fun q2 => ?_)
  · replace hf := if_f q2 hf
    exact J26 b_shelves b_refusals _ _ _ hf hw (lv_sub hl [0] rfl)
  · replace hf := if_t q2 hf
    refine lv_iload_n (pc := 7) hx hb dX7_row_7 rfl (lv_at hl 2 rfl) ?_
    refine lv_iconst (pc := 8) (v := 0) hx hb dX7_row_8 (by decide) ?_
    refine lv_iconst (pc := 9) (v := 4) hx hb dX7_row_9 (by decide) ?_
    obtain ⟨u3, u3e, hf⟩ := bd hf
    refine zk_cS (pc := 10) (rest := []) (st1 := [.int (bI u3)]) (w' := [xU L b_seedNow b_keptSeed b_isKept, xSh ((L 20)) ((L 21)) ((L 22)) ((L 23)), xI cy ((L 21)) 8 b_shelves.1, xI cy ((L 22)) 8 b_shelves.2.1, xRJ cy ((L 23)) 8 (fun j => [some ((L 24)), some ((L 25)), some ((L 26)), some ((L 27)), some ((L 28)), some ((L 29)), some ((L 30)), some ((L 31))].getD j none), xJ cy ((L 24)) 40 ((b_shelves.2.2 0)), xJ cy ((L 25)) 40 ((b_shelves.2.2 1)), xJ cy ((L 26)) 40 ((b_shelves.2.2 2)), xJ cy ((L 27)) 40 ((b_shelves.2.2 3)), xJ cy ((L 28)) 40 ((b_shelves.2.2 4)), xJ cy ((L 29)) 40 ((b_shelves.2.2 5)), xJ cy ((L 30)) 40 ((b_shelves.2.2 6)), xJ cy ((L 31)) 40 ((b_shelves.2.2 7)), xI cy ((L 48)) 5 b_refusals]) (mk := [none, none, none, none, none, none, none, none, none, none, none, none, none, none]) C hw (c_X7_isWithin l G cy tt x2 (((0 : Int32))) (((4 : Int32))) _ u3e) zy_X7_isWithin zm_X7_99 [] rfl rfl rfl rfl rfl rfl rfl rfl hl.1 ⟨rfl, rfl⟩ ⟨Nat.le_of_ble_eq_true rfl, Nat.le_of_ble_eq_true rfl⟩ rfl (Nat.le_of_ble_eq_true rfl) ⟨Nat.zero_le _, Nat.zero_le _⟩ dX7_row_10 (fun H locs hw => ?_)
    refine zk_ifz (pc := 13) (tgt := 26) hx hb dX7_row_13 (by decide) (fun q4 => ?_) (fun q4 => ?_)
    · replace hf := if_f q4 hf
      exact J26 b_shelves b_refusals _ _ _ hf hw (lv_sub hl [0] rfl)
    · replace hf := if_t q4 hf
      refine lv_iload_n (pc := 16) hx hb dX7_row_16 rfl (lv_at hl 3 rfl) ?_
      refine lv_iconst (pc := 17) (v := 0) hx hb dX7_row_17 (by decide) ?_
      refine lv_bipush (pc := 18) (v := 40) hx hb dX7_row_18 (by decide) ?_
      obtain ⟨u5, u5e, hf⟩ := bd hf
      refine zk_cS (pc := 20) (rest := []) (st1 := [.int (bI u5)]) (w' := [xU L b_seedNow b_keptSeed b_isKept, xSh ((L 20)) ((L 21)) ((L 22)) ((L 23)), xI cy ((L 21)) 8 b_shelves.1, xI cy ((L 22)) 8 b_shelves.2.1, xRJ cy ((L 23)) 8 (fun j => [some ((L 24)), some ((L 25)), some ((L 26)), some ((L 27)), some ((L 28)), some ((L 29)), some ((L 30)), some ((L 31))].getD j none), xJ cy ((L 24)) 40 ((b_shelves.2.2 0)), xJ cy ((L 25)) 40 ((b_shelves.2.2 1)), xJ cy ((L 26)) 40 ((b_shelves.2.2 2)), xJ cy ((L 27)) 40 ((b_shelves.2.2 3)), xJ cy ((L 28)) 40 ((b_shelves.2.2 4)), xJ cy ((L 29)) 40 ((b_shelves.2.2 5)), xJ cy ((L 30)) 40 ((b_shelves.2.2 6)), xJ cy ((L 31)) 40 ((b_shelves.2.2 7)), xI cy ((L 48)) 5 b_refusals]) (mk := [none, none, none, none, none, none, none, none, none, none, none, none, none, none]) C hw (c_X7_isWithin l G cy tt x3 (((0 : Int32))) (((40 : Int32))) _ u5e) zy_X7_isWithin zm_X7_99 [] rfl rfl rfl rfl rfl rfl rfl rfl hl.1 ⟨rfl, rfl⟩ ⟨Nat.le_of_ble_eq_true rfl, Nat.le_of_ble_eq_true rfl⟩ rfl (Nat.le_of_ble_eq_true rfl) ⟨Nat.zero_le _, Nat.zero_le _⟩ dX7_row_20 (fun H locs hw => ?_)
      refine zk_ifnz (pc := 23) (tgt := 33) hx hb dX7_row_23 (by decide) (fun q6 => ?_) (fun q6 => ?_)
      · replace hf := if_t q6 hf
        refine lv_aload_n (pc := 33) hx hb dX7_row_33 rfl (lv_at hl 0 rfl) ?_
        refine zk_gt (pc := 34) C hw zl_X7_41 0 rfl rfl dX7_row_34 ?_
        refine lv_iload_n (pc := 37) hx hb dX7_row_37 rfl (lv_at hl 1 rfl) ?_
        refine lv_iload_n (pc := 38) hx hb dX7_row_38 rfl (lv_at hl 2 rfl) ?_
        refine lv_iload_n (pc := 39) hx hb dX7_row_39 rfl (lv_at hl 3 rfl) ?_
        obtain ⟨u7, u7e, hf⟩ := bd hf
        refine zk_cV (pc := 40) (ci := 1) (q0 := 1) (rest := []) (st1 := []) (w' := [xU L b_seedNow b_keptSeed b_isKept, xSh ((L 20)) ((L 21)) ((L 22)) ((L 23)), xI cy ((L 21)) 8 u7.1, xI cy ((L 22)) 8 u7.2.1, xRJ cy ((L 23)) 8 (fun j => [some ((L 24)), some ((L 25)), some ((L 26)), some ((L 27)), some ((L 28)), some ((L 29)), some ((L 30)), some ((L 31))].getD j none), xJ cy ((L 24)) 40 ((u7.2.2 0)), xJ cy ((L 25)) 40 ((u7.2.2 1)), xJ cy ((L 26)) 40 ((u7.2.2 2)), xJ cy ((L 27)) 40 ((u7.2.2 3)), xJ cy ((L 28)) 40 ((u7.2.2 4)), xJ cy ((L 29)) 40 ((u7.2.2 5)), xJ cy ((L 30)) 40 ((u7.2.2 6)), xJ cy ((L 31)) 40 ((u7.2.2 7)), xI cy ((L 48)) 5 b_refusals]) (mk := [none, none, some (xI cy ((L 21)) 8 u7.1), some (xI cy ((L 22)) 8 u7.2.1), none, some (xJ cy ((L 24)) 40 ((u7.2.2 0))), some (xJ cy ((L 25)) 40 ((u7.2.2 1))), some (xJ cy ((L 26)) 40 ((u7.2.2 2))), some (xJ cy ((L 27)) 40 ((u7.2.2 3))), some (xJ cy ((L 28)) 40 ((u7.2.2 4))), some (xJ cy ((L 29)) 40 ((u7.2.2 5))), some (xJ cy ((L 30)) 40 ((u7.2.2 6))), some (xJ cy ((L 31)) 40 ((u7.2.2 7))), none]) C hw (c_X1_placeRow l G cy tt ((L 20)) ((L 21)) ((L 22)) ((L 23)) ((L 24)) ((L 25)) ((L 26)) ((L 27)) ((L 28)) ((L 29)) ((L 30)) ((L 31)) x1 x2 x3 b_shelves _ u7e) zy_X1_placeRow zm_X7_107 rfl rfl rfl [1, 2, 3, 4, 5, 6, 7, 8, 9, 10, 11, 12] rfl rfl rfl rfl rfl rfl rfl rfl hl.1 ⟨rfl, rfl⟩ ⟨Nat.le_of_ble_eq_true rfl, Nat.le_of_ble_eq_true rfl⟩ rfl (Nat.le_of_ble_eq_true rfl) ⟨Nat.zero_le _, Nat.zero_le _⟩ dX7_row_40 (fun H locs hw => ?_)
        refine lv_iconst (pc := 43) (v := 1) hx hb dX7_row_43 (by decide) ?_
        have hf := Option.some.inj hf
        subst hf
        exact zk_reti (pc := 44) (ww := [xU L b_seedNow b_keptSeed b_isKept, xSh ((L 20)) ((L 21)) ((L 22)) ((L 23)), xI cy ((L 21)) 8 u7.1, xI cy ((L 22)) 8 u7.2.1, xRJ cy ((L 23)) 8 (fun j => [some ((L 24)), some ((L 25)), some ((L 26)), some ((L 27)), some ((L 28)), some ((L 29)), some ((L 30)), some ((L 31))].getD j none), xJ cy ((L 24)) 40 ((u7.2.2 0)), xJ cy ((L 25)) 40 ((u7.2.2 1)), xJ cy ((L 26)) 40 ((u7.2.2 2)), xJ cy ((L 27)) 40 ((u7.2.2 3)), xJ cy ((L 28)) 40 ((u7.2.2 4)), xJ cy ((L 29)) 40 ((u7.2.2 5)), xJ cy ((L 30)) 40 ((u7.2.2 6)), xJ cy ((L 31)) 40 ((u7.2.2 7)), xI cy ((L 48)) 5 b_refusals]) C hw hr hQ dX7_row_44
      · replace hf := if_f q6 hf
        exact J26 b_shelves b_refusals _ _ _ hf hw (lv_sub hl [0] rfl)
def zf_X1_contentOf (x1 : Int32) (b_this : TSh) : Option (Int32) := (if x1 < 0 then some ((-1 : Int32)) else (if (8 : Int32) ≤ x1 then some ((-1 : Int32)) else (if ix x1 8 then some ((b_this.1 x1.toNatClampNeg)) else none)))
abbrev zr_X1_contentOf : Room := { frames := 0, cells := 0, slots := 0, locals := 0 }
set_option maxHeartbeats 4000000 in
set_option maxRecDepth 100000 in
theorem c_X1_contentOf (l : Launch) (G : va_G) (cy : Nat → ClassId) (tt : Nat → Nat) (a0 a1 a2 a3 a4 a5 a6 a7 a8 a9 a10 a11 : Nat) (x1 : Int32) (b_this : TSh) (res : Int32) (hf : zf_X1_contentOf x1 b_this = some res) : zCT l yX1_contentOf cX1_contentOf 2 (some .int) zr_X1_contentOf G cy tt [.ref a0, .int x1] [xSh a0 a1 a2 a3, xI cy a1 8 b_this.1, xI cy a2 8 b_this.2.1, xRJ cy a3 8 (fun j => [some a4, some a5, some a6, some a7, some a8, some a9, some a10, some a11].getD j none), xJ cy a4 40 ((b_this.2.2 0)), xJ cy a5 40 ((b_this.2.2 1)), xJ cy a6 40 ((b_this.2.2 2)), xJ cy a7 40 ((b_this.2.2 3)), xJ cy a8 40 ((b_this.2.2 4)), xJ cy a9 40 ((b_this.2.2 5)), xJ cy a10 40 ((b_this.2.2 6)), xJ cy a11 40 ((b_this.2.2 7))] (some (.int res)) [xSh a0 a1 a2 a3, xI cy a1 8 b_this.1, xI cy a2 8 b_this.2.1, xRJ cy a3 8 (fun j => [some a4, some a5, some a6, some a7, some a8, some a9, some a10, some a11].getD j none), xJ cy a4 40 ((b_this.2.2 0)), xJ cy a5 40 ((b_this.2.2 1)), xJ cy a6 40 ((b_this.2.2 2)), xJ cy a7 40 ((b_this.2.2 3)), xJ cy a8 40 ((b_this.2.2 4)), xJ cy a9 40 ((b_this.2.2 5)), xJ cy a10 40 ((b_this.2.2 6)), xJ cy a11 40 ((b_this.2.2 7))] := by
  refine zk_start zn_X1 (Nat.le_of_ble_eq_true rfl) ?_
  intro p e s m args below meth c A ls Q C hr hQ hw hl
  have C : zCx p m c s args meth cX1_contentOf 2 RX1 G cy tt A := C
  have hx := C.1.1
  have hb := C.1.2.1
  have hl : lv_has ls 2 [(0, .ref a0), (1, .int x1)] := hl
  rw [zf_X1_contentOf] at hf
  refine lv_iload_n (pc := 0) hx hb dX1_contentOf_0 rfl (lv_at hl 1 rfl) ?_
  refine lv_if_lt (pc := 1) (tgt := 19) hx hb dX1_contentOf_1 (by decide) (fun q1 => ?_) (fun q1 => ?_)
  · replace hf := if_t q1 hf
    refine lv_iconst (pc := 19) (v := -1) hx hb dX1_contentOf_19 (by decide) ?_
    have hf := Option.some.inj hf
    subst hf
    exact zk_reti (pc := 20) (ww := [xSh a0 a1 a2 a3, xI cy a1 8 b_this.1, xI cy a2 8 b_this.2.1, xRJ cy a3 8 (fun j => [some a4, some a5, some a6, some a7, some a8, some a9, some a10, some a11].getD j none), xJ cy a4 40 ((b_this.2.2 0)), xJ cy a5 40 ((b_this.2.2 1)), xJ cy a6 40 ((b_this.2.2 2)), xJ cy a7 40 ((b_this.2.2 3)), xJ cy a8 40 ((b_this.2.2 4)), xJ cy a9 40 ((b_this.2.2 5)), xJ cy a10 40 ((b_this.2.2 6)), xJ cy a11 40 ((b_this.2.2 7))]) C hw hr hQ dX1_contentOf_20
  · replace hf := if_f q1 hf
    refine lv_iload_n (pc := 4) hx hb dX1_contentOf_4 rfl (lv_at hl 1 rfl) ?_
    refine lv_bipush (pc := 5) (v := 8) hx hb dX1_contentOf_5 (by decide) ?_
    refine lv_icmp_ge (pc := 7) (tgt := 19) hx hb dX1_contentOf_7 (by decide) (fun q2 => ?_) (fun q2 => ?_)
    · replace hf := if_t q2 hf
      refine lv_iconst (pc := 19) (v := -1) hx hb dX1_contentOf_19 (by decide) ?_
      have hf := Option.some.inj hf
      subst hf
      exact zk_reti (pc := 20) (ww := [xSh a0 a1 a2 a3, xI cy a1 8 b_this.1, xI cy a2 8 b_this.2.1, xRJ cy a3 8 (fun j => [some a4, some a5, some a6, some a7, some a8, some a9, some a10, some a11].getD j none), xJ cy a4 40 ((b_this.2.2 0)), xJ cy a5 40 ((b_this.2.2 1)), xJ cy a6 40 ((b_this.2.2 2)), xJ cy a7 40 ((b_this.2.2 3)), xJ cy a8 40 ((b_this.2.2 4)), xJ cy a9 40 ((b_this.2.2 5)), xJ cy a10 40 ((b_this.2.2 6)), xJ cy a11 40 ((b_this.2.2 7))]) C hw hr hQ dX1_contentOf_20
    · replace hf := if_f q2 hf
      refine lv_aload_n (pc := 10) hx hb dX1_contentOf_10 rfl (lv_at hl 0 rfl) ?_
      refine zk_gt (pc := 11) C hw zl_X1_9 0 rfl rfl dX1_contentOf_11 ?_
      refine lv_iload_n (pc := 14) hx hb dX1_contentOf_14 rfl (lv_at hl 1 rfl) ?_
      obtain ⟨q3, hf⟩ := ck hf
      refine zk_iald (pc := 15) C hw 1 rfl q3 dX1_contentOf_15 ?_
      refine lv_goto (pc := 16) (tgt := 20) hx hb dX1_contentOf_16 (by decide) ?_
      have hf := Option.some.inj hf
      subst hf
      exact zk_reti (pc := 20) (ww := [xSh a0 a1 a2 a3, xI cy a1 8 b_this.1, xI cy a2 8 b_this.2.1, xRJ cy a3 8 (fun j => [some a4, some a5, some a6, some a7, some a8, some a9, some a10, some a11].getD j none), xJ cy a4 40 ((b_this.2.2 0)), xJ cy a5 40 ((b_this.2.2 1)), xJ cy a6 40 ((b_this.2.2 2)), xJ cy a7 40 ((b_this.2.2 3)), xJ cy a8 40 ((b_this.2.2 4)), xJ cy a9 40 ((b_this.2.2 5)), xJ cy a10 40 ((b_this.2.2 6)), xJ cy a11 40 ((b_this.2.2 7))]) C hw hr hQ dX1_contentOf_20
def zf_X1_holdsKeeper (x1 : Int32) (b_this : TSh) : Option (Bool) := (Option.bind (zf_X1_contentOf x1 b_this) (fun u1 => (if u1 < (10 : Int32) then some (false) else some (true))))
abbrev zr_X1_holdsKeeper : Room := { frames := 1, cells := 0, slots := 0, locals := 21 }
set_option maxHeartbeats 4000000 in
set_option maxRecDepth 100000 in
theorem c_X1_holdsKeeper (l : Launch) (G : va_G) (cy : Nat → ClassId) (tt : Nat → Nat) (a0 a1 a2 a3 a4 a5 a6 a7 a8 a9 a10 a11 : Nat) (x1 : Int32) (b_this : TSh) (res : Bool) (hf : zf_X1_holdsKeeper x1 b_this = some res) : zCT l yX1_holdsKeeper cX1_holdsKeeper 2 (some .boolean) zr_X1_holdsKeeper G cy tt [.ref a0, .int x1] [xSh a0 a1 a2 a3, xI cy a1 8 b_this.1, xI cy a2 8 b_this.2.1, xRJ cy a3 8 (fun j => [some a4, some a5, some a6, some a7, some a8, some a9, some a10, some a11].getD j none), xJ cy a4 40 ((b_this.2.2 0)), xJ cy a5 40 ((b_this.2.2 1)), xJ cy a6 40 ((b_this.2.2 2)), xJ cy a7 40 ((b_this.2.2 3)), xJ cy a8 40 ((b_this.2.2 4)), xJ cy a9 40 ((b_this.2.2 5)), xJ cy a10 40 ((b_this.2.2 6)), xJ cy a11 40 ((b_this.2.2 7))] (some (.int (bI res))) [xSh a0 a1 a2 a3, xI cy a1 8 b_this.1, xI cy a2 8 b_this.2.1, xRJ cy a3 8 (fun j => [some a4, some a5, some a6, some a7, some a8, some a9, some a10, some a11].getD j none), xJ cy a4 40 ((b_this.2.2 0)), xJ cy a5 40 ((b_this.2.2 1)), xJ cy a6 40 ((b_this.2.2 2)), xJ cy a7 40 ((b_this.2.2 3)), xJ cy a8 40 ((b_this.2.2 4)), xJ cy a9 40 ((b_this.2.2 5)), xJ cy a10 40 ((b_this.2.2 6)), xJ cy a11 40 ((b_this.2.2 7))] := by
  refine zk_start zn_X1 (Nat.le_of_ble_eq_true rfl) ?_
  intro p e s m args below meth c A ls Q C hr hQ hw hl
  have C : zCx p m c s args meth cX1_holdsKeeper 2 RX1 G cy tt A := C
  have hx := C.1.1
  have hb := C.1.2.1
  have hl : lv_has ls 2 [(0, .ref a0), (1, .int x1)] := hl
  rw [zf_X1_holdsKeeper] at hf
  refine lv_aload_n (pc := 0) hx hb dX1_holdsKeeper_0 rfl (lv_at hl 0 rfl) ?_
  refine lv_iload_n (pc := 1) hx hb dX1_holdsKeeper_1 rfl (lv_at hl 1 rfl) ?_
  obtain ⟨u1, u1e, hf⟩ := bd hf
  refine zk_cV (pc := 2) (ci := 1) (q0 := 0) (rest := []) (st1 := [.int u1]) (w' := [xSh a0 a1 a2 a3, xI cy a1 8 b_this.1, xI cy a2 8 b_this.2.1, xRJ cy a3 8 (fun j => [some a4, some a5, some a6, some a7, some a8, some a9, some a10, some a11].getD j none), xJ cy a4 40 ((b_this.2.2 0)), xJ cy a5 40 ((b_this.2.2 1)), xJ cy a6 40 ((b_this.2.2 2)), xJ cy a7 40 ((b_this.2.2 3)), xJ cy a8 40 ((b_this.2.2 4)), xJ cy a9 40 ((b_this.2.2 5)), xJ cy a10 40 ((b_this.2.2 6)), xJ cy a11 40 ((b_this.2.2 7))]) (mk := [none, none, none, none, none, none, none, none, none, none, none, none]) C hw (c_X1_contentOf l G cy tt a0 a1 a2 a3 a4 a5 a6 a7 a8 a9 a10 a11 x1 b_this _ u1e) zy_X1_contentOf zm_X1_23 rfl rfl rfl [0, 1, 2, 3, 4, 5, 6, 7, 8, 9, 10, 11] rfl rfl rfl rfl rfl rfl rfl rfl hl.1 ⟨rfl, rfl⟩ ⟨Nat.le_of_ble_eq_true rfl, Nat.le_of_ble_eq_true rfl⟩ rfl (Nat.le_of_ble_eq_true rfl) ⟨Nat.zero_le _, Nat.zero_le _⟩ dX1_holdsKeeper_2 (fun H locs hw => ?_)
  refine lv_bipush (pc := 5) (v := 10) hx hb dX1_holdsKeeper_5 (by decide) ?_
  refine lv_icmp_lt (pc := 7) (tgt := 14) hx hb dX1_holdsKeeper_7 (by decide) (fun q2 => ?_) (fun q2 => ?_)
  · replace hf := if_t q2 hf
    refine lv_iconst (pc := 14) (v := 0) hx hb dX1_holdsKeeper_14 (by decide) ?_
    have hf := Option.some.inj hf
    subst hf
    exact zk_retz (pc := 15) (b := false) (ww := [xSh a0 a1 a2 a3, xI cy a1 8 b_this.1, xI cy a2 8 b_this.2.1, xRJ cy a3 8 (fun j => [some a4, some a5, some a6, some a7, some a8, some a9, some a10, some a11].getD j none), xJ cy a4 40 ((b_this.2.2 0)), xJ cy a5 40 ((b_this.2.2 1)), xJ cy a6 40 ((b_this.2.2 2)), xJ cy a7 40 ((b_this.2.2 3)), xJ cy a8 40 ((b_this.2.2 4)), xJ cy a9 40 ((b_this.2.2 5)), xJ cy a10 40 ((b_this.2.2 6)), xJ cy a11 40 ((b_this.2.2 7))]) C hw hr hQ dX1_holdsKeeper_15
  · replace hf := if_f q2 hf
    refine lv_iconst (pc := 10) (v := 1) hx hb dX1_holdsKeeper_10 (by decide) ?_
    refine lv_goto (pc := 11) (tgt := 15) hx hb dX1_holdsKeeper_11 (by decide) ?_
    have hf := Option.some.inj hf
    subst hf
    exact zk_retz (pc := 15) (b := true) (ww := [xSh a0 a1 a2 a3, xI cy a1 8 b_this.1, xI cy a2 8 b_this.2.1, xRJ cy a3 8 (fun j => [some a4, some a5, some a6, some a7, some a8, some a9, some a10, some a11].getD j none), xJ cy a4 40 ((b_this.2.2 0)), xJ cy a5 40 ((b_this.2.2 1)), xJ cy a6 40 ((b_this.2.2 2)), xJ cy a7 40 ((b_this.2.2 3)), xJ cy a8 40 ((b_this.2.2 4)), xJ cy a9 40 ((b_this.2.2 5)), xJ cy a10 40 ((b_this.2.2 6)), xJ cy a11 40 ((b_this.2.2 7))]) C hw hr hQ dX1_holdsKeeper_15
def zf_X1_holdsRow (x1 : Int32) (b_this : TSh) : Option (Bool) := (Option.bind (zf_X1_contentOf x1 b_this) (fun u1 => (Option.bind (zf_X7_isWithin u1 (((0 : Int32))) (((4 : Int32)))) (fun u2 => some (u2)))))
abbrev zr_X1_holdsRow : Room := { frames := 1, cells := 0, slots := 0, locals := 22 }
set_option maxHeartbeats 4000000 in
set_option maxRecDepth 100000 in
theorem c_X1_holdsRow (l : Launch) (G : va_G) (cy : Nat → ClassId) (tt : Nat → Nat) (a0 a1 a2 a3 a4 a5 a6 a7 a8 a9 a10 a11 : Nat) (x1 : Int32) (b_this : TSh) (res : Bool) (hf : zf_X1_holdsRow x1 b_this = some res) : zCT l yX1_holdsRow cX1_holdsRow 2 (some .boolean) zr_X1_holdsRow G cy tt [.ref a0, .int x1] [xSh a0 a1 a2 a3, xI cy a1 8 b_this.1, xI cy a2 8 b_this.2.1, xRJ cy a3 8 (fun j => [some a4, some a5, some a6, some a7, some a8, some a9, some a10, some a11].getD j none), xJ cy a4 40 ((b_this.2.2 0)), xJ cy a5 40 ((b_this.2.2 1)), xJ cy a6 40 ((b_this.2.2 2)), xJ cy a7 40 ((b_this.2.2 3)), xJ cy a8 40 ((b_this.2.2 4)), xJ cy a9 40 ((b_this.2.2 5)), xJ cy a10 40 ((b_this.2.2 6)), xJ cy a11 40 ((b_this.2.2 7))] (some (.int (bI res))) [xSh a0 a1 a2 a3, xI cy a1 8 b_this.1, xI cy a2 8 b_this.2.1, xRJ cy a3 8 (fun j => [some a4, some a5, some a6, some a7, some a8, some a9, some a10, some a11].getD j none), xJ cy a4 40 ((b_this.2.2 0)), xJ cy a5 40 ((b_this.2.2 1)), xJ cy a6 40 ((b_this.2.2 2)), xJ cy a7 40 ((b_this.2.2 3)), xJ cy a8 40 ((b_this.2.2 4)), xJ cy a9 40 ((b_this.2.2 5)), xJ cy a10 40 ((b_this.2.2 6)), xJ cy a11 40 ((b_this.2.2 7))] := by
  refine zk_start zn_X1 (Nat.le_of_ble_eq_true rfl) ?_
  intro p e s m args below meth c A ls Q C hr hQ hw hl
  have C : zCx p m c s args meth cX1_holdsRow 2 RX1 G cy tt A := C
  have hx := C.1.1
  have hb := C.1.2.1
  have hl : lv_has ls 2 [(0, .ref a0), (1, .int x1)] := hl
  rw [zf_X1_holdsRow] at hf
  refine lv_aload_n (pc := 0) hx hb dX1_holdsRow_0 rfl (lv_at hl 0 rfl) ?_
  refine lv_iload_n (pc := 1) hx hb dX1_holdsRow_1 rfl (lv_at hl 1 rfl) ?_
  obtain ⟨u1, u1e, hf⟩ := bd hf
  refine zk_cV (pc := 2) (ci := 1) (q0 := 0) (rest := []) (st1 := [.int u1]) (w' := [xSh a0 a1 a2 a3, xI cy a1 8 b_this.1, xI cy a2 8 b_this.2.1, xRJ cy a3 8 (fun j => [some a4, some a5, some a6, some a7, some a8, some a9, some a10, some a11].getD j none), xJ cy a4 40 ((b_this.2.2 0)), xJ cy a5 40 ((b_this.2.2 1)), xJ cy a6 40 ((b_this.2.2 2)), xJ cy a7 40 ((b_this.2.2 3)), xJ cy a8 40 ((b_this.2.2 4)), xJ cy a9 40 ((b_this.2.2 5)), xJ cy a10 40 ((b_this.2.2 6)), xJ cy a11 40 ((b_this.2.2 7))]) (mk := [none, none, none, none, none, none, none, none, none, none, none, none]) C hw (c_X1_contentOf l G cy tt a0 a1 a2 a3 a4 a5 a6 a7 a8 a9 a10 a11 x1 b_this _ u1e) zy_X1_contentOf zm_X1_23 rfl rfl rfl [0, 1, 2, 3, 4, 5, 6, 7, 8, 9, 10, 11] rfl rfl rfl rfl rfl rfl rfl rfl hl.1 ⟨rfl, rfl⟩ ⟨Nat.le_of_ble_eq_true rfl, Nat.le_of_ble_eq_true rfl⟩ rfl (Nat.le_of_ble_eq_true rfl) ⟨Nat.zero_le _, Nat.zero_le _⟩ dX1_holdsRow_2 (fun H locs hw => ?_)
  refine lv_iconst (pc := 5) (v := 0) hx hb dX1_holdsRow_5 (by decide) ?_
  refine lv_iconst (pc := 6) (v := 4) hx hb dX1_holdsRow_6 (by decide) ?_
  obtain ⟨u2, u2e, hf⟩ := bd hf
  refine zk_cSN (pc := 7) (rest := []) (st1 := [.int (bI u2)]) (w' := [xSh a0 a1 a2 a3, xI cy a1 8 b_this.1, xI cy a2 8 b_this.2.1, xRJ cy a3 8 (fun j => [some a4, some a5, some a6, some a7, some a8, some a9, some a10, some a11].getD j none), xJ cy a4 40 ((b_this.2.2 0)), xJ cy a5 40 ((b_this.2.2 1)), xJ cy a6 40 ((b_this.2.2 2)), xJ cy a7 40 ((b_this.2.2 3)), xJ cy a8 40 ((b_this.2.2 4)), xJ cy a9 40 ((b_this.2.2 5)), xJ cy a10 40 ((b_this.2.2 6)), xJ cy a11 40 ((b_this.2.2 7))]) (mk := [none, none, none, none, none, none, none, none, none, none, none, none]) C hw (c_X7_isWithin l G cy tt u1 (((0 : Int32))) (((4 : Int32))) _ u2e) zy_X7_isWithin zmn_X1_27 [] rfl rfl rfl rfl rfl rfl rfl rfl hl.1 ⟨rfl, rfl⟩ ⟨Nat.le_of_ble_eq_true rfl, Nat.le_of_ble_eq_true rfl⟩ rfl (Nat.le_of_ble_eq_true rfl) ⟨Nat.zero_le _, Nat.zero_le _⟩ dX1_holdsRow_7 (fun H locs hw => ?_)
  have hf := Option.some.inj hf
  subst hf
  exact zk_retz (pc := 10) (b := u2) (ww := [xSh a0 a1 a2 a3, xI cy a1 8 b_this.1, xI cy a2 8 b_this.2.1, xRJ cy a3 8 (fun j => [some a4, some a5, some a6, some a7, some a8, some a9, some a10, some a11].getD j none), xJ cy a4 40 ((b_this.2.2 0)), xJ cy a5 40 ((b_this.2.2 1)), xJ cy a6 40 ((b_this.2.2 2)), xJ cy a7 40 ((b_this.2.2 3)), xJ cy a8 40 ((b_this.2.2 4)), xJ cy a9 40 ((b_this.2.2 5)), xJ cy a10 40 ((b_this.2.2 6)), xJ cy a11 40 ((b_this.2.2 7))]) C hw hr hQ dX1_holdsRow_10
def zf_X7_rowFault (x1 : Int32) (x2 : Bool) (b_shelves : TSh) : Option (Int32) := (Option.bind (zf_X7_isShelf x1) (fun u1 => (if u1 then (if x2 then (Option.bind (zf_X1_holdsKeeper x1 b_shelves) (fun u4 => (if u4 then some ((-3 : Int32)) else (Option.bind (zf_X1_holdsRow x1 b_shelves) (fun u6 => (if u6 then some ((0 : Int32)) else some ((-4 : Int32)))))))) else some ((-2 : Int32))) else some ((-2 : Int32)))))
abbrev zr_X7_rowFault : Room := { frames := 2, cells := 0, slots := 0, locals := 43 }
set_option maxHeartbeats 4000000 in
set_option maxRecDepth 100000 in
theorem c_X7_rowFault (l : Launch) (G : va_G) (cy : Nat → ClassId) (tt : Nat → Nat) (L : Nat → Nat) (b_seedNow : Int32) (b_keptSeed : Int32) (b_isKept : Bool) (x1 : Int32) (x2 : Bool) (b_shelves : TSh) (res : Int32) (hf : zf_X7_rowFault x1 x2 b_shelves = some res) : zCT l yX7_rowFault cX7_rowFault 3 (some .int) zr_X7_rowFault G cy tt [.ref ((L 0)), .int x1, .int (bI x2)] [xU L b_seedNow b_keptSeed b_isKept, xSh ((L 20)) ((L 21)) ((L 22)) ((L 23)), xI cy ((L 21)) 8 b_shelves.1, xI cy ((L 22)) 8 b_shelves.2.1, xRJ cy ((L 23)) 8 (fun j => [some ((L 24)), some ((L 25)), some ((L 26)), some ((L 27)), some ((L 28)), some ((L 29)), some ((L 30)), some ((L 31))].getD j none), xJ cy ((L 24)) 40 ((b_shelves.2.2 0)), xJ cy ((L 25)) 40 ((b_shelves.2.2 1)), xJ cy ((L 26)) 40 ((b_shelves.2.2 2)), xJ cy ((L 27)) 40 ((b_shelves.2.2 3)), xJ cy ((L 28)) 40 ((b_shelves.2.2 4)), xJ cy ((L 29)) 40 ((b_shelves.2.2 5)), xJ cy ((L 30)) 40 ((b_shelves.2.2 6)), xJ cy ((L 31)) 40 ((b_shelves.2.2 7))] (some (.int res)) [xU L b_seedNow b_keptSeed b_isKept, xSh ((L 20)) ((L 21)) ((L 22)) ((L 23)), xI cy ((L 21)) 8 b_shelves.1, xI cy ((L 22)) 8 b_shelves.2.1, xRJ cy ((L 23)) 8 (fun j => [some ((L 24)), some ((L 25)), some ((L 26)), some ((L 27)), some ((L 28)), some ((L 29)), some ((L 30)), some ((L 31))].getD j none), xJ cy ((L 24)) 40 ((b_shelves.2.2 0)), xJ cy ((L 25)) 40 ((b_shelves.2.2 1)), xJ cy ((L 26)) 40 ((b_shelves.2.2 2)), xJ cy ((L 27)) 40 ((b_shelves.2.2 3)), xJ cy ((L 28)) 40 ((b_shelves.2.2 4)), xJ cy ((L 29)) 40 ((b_shelves.2.2 5)), xJ cy ((L 30)) 40 ((b_shelves.2.2 6)), xJ cy ((L 31)) 40 ((b_shelves.2.2 7))] := by
  refine zk_start zn_X7 (Nat.le_of_ble_eq_true rfl) ?_
  intro p e s m args below meth c A ls Q C hr hQ hw hl
  have C : zCx p m c s args meth cX7_rowFault 3 RX7 G cy tt A := C
  have hx := C.1.1
  have hb := C.1.2.1
  have hl : lv_has ls 3 [(0, .ref ((L 0))), (1, .int x1), (2, .int (bI x2))] := hl
  rw [zf_X7_rowFault] at hf
  refine lv_iload_n (pc := 0) hx hb dX7_rowFault_0 rfl (lv_at hl 1 rfl) ?_
  obtain ⟨u1, u1e, hf⟩ := bd hf
  refine zk_cS (pc := 1) (rest := []) (st1 := [.int (bI u1)]) (w' := [xU L b_seedNow b_keptSeed b_isKept, xSh ((L 20)) ((L 21)) ((L 22)) ((L 23)), xI cy ((L 21)) 8 b_shelves.1, xI cy ((L 22)) 8 b_shelves.2.1, xRJ cy ((L 23)) 8 (fun j => [some ((L 24)), some ((L 25)), some ((L 26)), some ((L 27)), some ((L 28)), some ((L 29)), some ((L 30)), some ((L 31))].getD j none), xJ cy ((L 24)) 40 ((b_shelves.2.2 0)), xJ cy ((L 25)) 40 ((b_shelves.2.2 1)), xJ cy ((L 26)) 40 ((b_shelves.2.2 2)), xJ cy ((L 27)) 40 ((b_shelves.2.2 3)), xJ cy ((L 28)) 40 ((b_shelves.2.2 4)), xJ cy ((L 29)) 40 ((b_shelves.2.2 5)), xJ cy ((L 30)) 40 ((b_shelves.2.2 6)), xJ cy ((L 31)) 40 ((b_shelves.2.2 7))]) (mk := [none, none, none, none, none, none, none, none, none, none, none, none, none]) C hw (c_X7_isShelf l G cy tt x1 _ u1e) zy_X7_isShelf zm_X7_95 [] rfl rfl rfl rfl rfl rfl rfl rfl hl.1 ⟨rfl, rfl⟩ ⟨Nat.le_of_ble_eq_true rfl, Nat.le_of_ble_eq_true rfl⟩ rfl (Nat.le_of_ble_eq_true rfl) ⟨Nat.zero_le _, Nat.zero_le _⟩ dX7_rowFault_1 (fun H locs hw => ?_)
  refine zk_ifz (pc := 4) (tgt := 11) hx hb dX7_rowFault_4 (by decide) (fun q2 => ?_) (fun q2 => ?_)
  · replace hf := if_f q2 hf
    refine lv_bipush (pc := 11) (v := -2) hx hb dX7_rowFault_11 (by decide) ?_
    have hf := Option.some.inj hf
    subst hf
    exact zk_reti (pc := 13) (ww := [xU L b_seedNow b_keptSeed b_isKept, xSh ((L 20)) ((L 21)) ((L 22)) ((L 23)), xI cy ((L 21)) 8 b_shelves.1, xI cy ((L 22)) 8 b_shelves.2.1, xRJ cy ((L 23)) 8 (fun j => [some ((L 24)), some ((L 25)), some ((L 26)), some ((L 27)), some ((L 28)), some ((L 29)), some ((L 30)), some ((L 31))].getD j none), xJ cy ((L 24)) 40 ((b_shelves.2.2 0)), xJ cy ((L 25)) 40 ((b_shelves.2.2 1)), xJ cy ((L 26)) 40 ((b_shelves.2.2 2)), xJ cy ((L 27)) 40 ((b_shelves.2.2 3)), xJ cy ((L 28)) 40 ((b_shelves.2.2 4)), xJ cy ((L 29)) 40 ((b_shelves.2.2 5)), xJ cy ((L 30)) 40 ((b_shelves.2.2 6)), xJ cy ((L 31)) 40 ((b_shelves.2.2 7))]) C hw hr hQ dX7_rowFault_13
  · replace hf := if_t q2 hf
    refine lv_iload_n (pc := 7) hx hb dX7_rowFault_7 rfl (lv_at hl 2 rfl) ?_
    refine zk_ifnz (pc := 8) (tgt := 14) hx hb dX7_rowFault_8 (by decide) (fun q3 => ?_) (fun q3 => ?_)
    · replace hf := if_t q3 hf
      refine lv_aload_n (pc := 14) hx hb dX7_rowFault_14 rfl (lv_at hl 0 rfl) ?_
      refine zk_gt (pc := 15) C hw zl_X7_41 0 rfl rfl dX7_rowFault_15 ?_
      refine lv_iload_n (pc := 18) hx hb dX7_rowFault_18 rfl (lv_at hl 1 rfl) ?_
      obtain ⟨u4, u4e, hf⟩ := bd hf
      refine zk_cV (pc := 19) (ci := 1) (q0 := 1) (rest := []) (st1 := [.int (bI u4)]) (w' := [xU L b_seedNow b_keptSeed b_isKept, xSh ((L 20)) ((L 21)) ((L 22)) ((L 23)), xI cy ((L 21)) 8 b_shelves.1, xI cy ((L 22)) 8 b_shelves.2.1, xRJ cy ((L 23)) 8 (fun j => [some ((L 24)), some ((L 25)), some ((L 26)), some ((L 27)), some ((L 28)), some ((L 29)), some ((L 30)), some ((L 31))].getD j none), xJ cy ((L 24)) 40 ((b_shelves.2.2 0)), xJ cy ((L 25)) 40 ((b_shelves.2.2 1)), xJ cy ((L 26)) 40 ((b_shelves.2.2 2)), xJ cy ((L 27)) 40 ((b_shelves.2.2 3)), xJ cy ((L 28)) 40 ((b_shelves.2.2 4)), xJ cy ((L 29)) 40 ((b_shelves.2.2 5)), xJ cy ((L 30)) 40 ((b_shelves.2.2 6)), xJ cy ((L 31)) 40 ((b_shelves.2.2 7))]) (mk := [none, none, none, none, none, none, none, none, none, none, none, none, none]) C hw (c_X1_holdsKeeper l G cy tt ((L 20)) ((L 21)) ((L 22)) ((L 23)) ((L 24)) ((L 25)) ((L 26)) ((L 27)) ((L 28)) ((L 29)) ((L 30)) ((L 31)) x1 b_shelves _ u4e) zy_X1_holdsKeeper zm_X7_123 rfl rfl rfl [1, 2, 3, 4, 5, 6, 7, 8, 9, 10, 11, 12] rfl rfl rfl rfl rfl rfl rfl rfl hl.1 ⟨rfl, rfl⟩ ⟨Nat.le_of_ble_eq_true rfl, Nat.le_of_ble_eq_true rfl⟩ rfl (Nat.le_of_ble_eq_true rfl) ⟨Nat.zero_le _, Nat.zero_le _⟩ dX7_rowFault_19 (fun H locs hw => ?_)
      refine zk_ifz (pc := 22) (tgt := 28) hx hb dX7_rowFault_22 (by decide) (fun q5 => ?_) (fun q5 => ?_)
      · replace hf := if_f q5 hf
        refine lv_aload_n (pc := 28) hx hb dX7_rowFault_28 rfl (lv_at hl 0 rfl) ?_
        refine zk_gt (pc := 29) C hw zl_X7_41 0 rfl rfl dX7_rowFault_29 ?_
        refine lv_iload_n (pc := 32) hx hb dX7_rowFault_32 rfl (lv_at hl 1 rfl) ?_
        obtain ⟨u6, u6e, hf⟩ := bd hf
        refine zk_cV (pc := 33) (ci := 1) (q0 := 1) (rest := []) (st1 := [.int (bI u6)]) (w' := [xU L b_seedNow b_keptSeed b_isKept, xSh ((L 20)) ((L 21)) ((L 22)) ((L 23)), xI cy ((L 21)) 8 b_shelves.1, xI cy ((L 22)) 8 b_shelves.2.1, xRJ cy ((L 23)) 8 (fun j => [some ((L 24)), some ((L 25)), some ((L 26)), some ((L 27)), some ((L 28)), some ((L 29)), some ((L 30)), some ((L 31))].getD j none), xJ cy ((L 24)) 40 ((b_shelves.2.2 0)), xJ cy ((L 25)) 40 ((b_shelves.2.2 1)), xJ cy ((L 26)) 40 ((b_shelves.2.2 2)), xJ cy ((L 27)) 40 ((b_shelves.2.2 3)), xJ cy ((L 28)) 40 ((b_shelves.2.2 4)), xJ cy ((L 29)) 40 ((b_shelves.2.2 5)), xJ cy ((L 30)) 40 ((b_shelves.2.2 6)), xJ cy ((L 31)) 40 ((b_shelves.2.2 7))]) (mk := [none, none, none, none, none, none, none, none, none, none, none, none, none]) C hw (c_X1_holdsRow l G cy tt ((L 20)) ((L 21)) ((L 22)) ((L 23)) ((L 24)) ((L 25)) ((L 26)) ((L 27)) ((L 28)) ((L 29)) ((L 30)) ((L 31)) x1 b_shelves _ u6e) zy_X1_holdsRow zm_X7_129 rfl rfl rfl [1, 2, 3, 4, 5, 6, 7, 8, 9, 10, 11, 12] rfl rfl rfl rfl rfl rfl rfl rfl hl.1 ⟨rfl, rfl⟩ ⟨Nat.le_of_ble_eq_true rfl, Nat.le_of_ble_eq_true rfl⟩ rfl (Nat.le_of_ble_eq_true rfl) ⟨Nat.zero_le _, Nat.zero_le _⟩ dX7_rowFault_33 (fun H locs hw => ?_)
        refine zk_ifz (pc := 36) (tgt := 43) hx hb dX7_rowFault_36 (by decide) (fun q7 => ?_) (fun q7 => ?_)
        · replace hf := if_f q7 hf
          refine lv_bipush (pc := 43) (v := -4) hx hb dX7_rowFault_43 (by decide) ?_
          have hf := Option.some.inj hf
          subst hf
          exact zk_reti (pc := 45) (ww := [xU L b_seedNow b_keptSeed b_isKept, xSh ((L 20)) ((L 21)) ((L 22)) ((L 23)), xI cy ((L 21)) 8 b_shelves.1, xI cy ((L 22)) 8 b_shelves.2.1, xRJ cy ((L 23)) 8 (fun j => [some ((L 24)), some ((L 25)), some ((L 26)), some ((L 27)), some ((L 28)), some ((L 29)), some ((L 30)), some ((L 31))].getD j none), xJ cy ((L 24)) 40 ((b_shelves.2.2 0)), xJ cy ((L 25)) 40 ((b_shelves.2.2 1)), xJ cy ((L 26)) 40 ((b_shelves.2.2 2)), xJ cy ((L 27)) 40 ((b_shelves.2.2 3)), xJ cy ((L 28)) 40 ((b_shelves.2.2 4)), xJ cy ((L 29)) 40 ((b_shelves.2.2 5)), xJ cy ((L 30)) 40 ((b_shelves.2.2 6)), xJ cy ((L 31)) 40 ((b_shelves.2.2 7))]) C hw hr hQ dX7_rowFault_45
        · replace hf := if_t q7 hf
          refine lv_iconst (pc := 39) (v := 0) hx hb dX7_rowFault_39 (by decide) ?_
          refine lv_goto (pc := 40) (tgt := 45) hx hb dX7_rowFault_40 (by decide) ?_
          have hf := Option.some.inj hf
          subst hf
          exact zk_reti (pc := 45) (ww := [xU L b_seedNow b_keptSeed b_isKept, xSh ((L 20)) ((L 21)) ((L 22)) ((L 23)), xI cy ((L 21)) 8 b_shelves.1, xI cy ((L 22)) 8 b_shelves.2.1, xRJ cy ((L 23)) 8 (fun j => [some ((L 24)), some ((L 25)), some ((L 26)), some ((L 27)), some ((L 28)), some ((L 29)), some ((L 30)), some ((L 31))].getD j none), xJ cy ((L 24)) 40 ((b_shelves.2.2 0)), xJ cy ((L 25)) 40 ((b_shelves.2.2 1)), xJ cy ((L 26)) 40 ((b_shelves.2.2 2)), xJ cy ((L 27)) 40 ((b_shelves.2.2 3)), xJ cy ((L 28)) 40 ((b_shelves.2.2 4)), xJ cy ((L 29)) 40 ((b_shelves.2.2 5)), xJ cy ((L 30)) 40 ((b_shelves.2.2 6)), xJ cy ((L 31)) 40 ((b_shelves.2.2 7))]) C hw hr hQ dX7_rowFault_45
      · replace hf := if_t q5 hf
        refine lv_bipush (pc := 25) (v := -3) hx hb dX7_rowFault_25 (by decide) ?_
        have hf := Option.some.inj hf
        subst hf
        exact zk_reti (pc := 27) (ww := [xU L b_seedNow b_keptSeed b_isKept, xSh ((L 20)) ((L 21)) ((L 22)) ((L 23)), xI cy ((L 21)) 8 b_shelves.1, xI cy ((L 22)) 8 b_shelves.2.1, xRJ cy ((L 23)) 8 (fun j => [some ((L 24)), some ((L 25)), some ((L 26)), some ((L 27)), some ((L 28)), some ((L 29)), some ((L 30)), some ((L 31))].getD j none), xJ cy ((L 24)) 40 ((b_shelves.2.2 0)), xJ cy ((L 25)) 40 ((b_shelves.2.2 1)), xJ cy ((L 26)) 40 ((b_shelves.2.2 2)), xJ cy ((L 27)) 40 ((b_shelves.2.2 3)), xJ cy ((L 28)) 40 ((b_shelves.2.2 4)), xJ cy ((L 29)) 40 ((b_shelves.2.2 5)), xJ cy ((L 30)) 40 ((b_shelves.2.2 6)), xJ cy ((L 31)) 40 ((b_shelves.2.2 7))]) C hw hr hQ dX7_rowFault_27
    · replace hf := if_f q3 hf
      refine lv_bipush (pc := 11) (v := -2) hx hb dX7_rowFault_11 (by decide) ?_
      have hf := Option.some.inj hf
      subst hf
      exact zk_reti (pc := 13) (ww := [xU L b_seedNow b_keptSeed b_isKept, xSh ((L 20)) ((L 21)) ((L 22)) ((L 23)), xI cy ((L 21)) 8 b_shelves.1, xI cy ((L 22)) 8 b_shelves.2.1, xRJ cy ((L 23)) 8 (fun j => [some ((L 24)), some ((L 25)), some ((L 26)), some ((L 27)), some ((L 28)), some ((L 29)), some ((L 30)), some ((L 31))].getD j none), xJ cy ((L 24)) 40 ((b_shelves.2.2 0)), xJ cy ((L 25)) 40 ((b_shelves.2.2 1)), xJ cy ((L 26)) 40 ((b_shelves.2.2 2)), xJ cy ((L 27)) 40 ((b_shelves.2.2 3)), xJ cy ((L 28)) 40 ((b_shelves.2.2 4)), xJ cy ((L 29)) 40 ((b_shelves.2.2 5)), xJ cy ((L 30)) 40 ((b_shelves.2.2 6)), xJ cy ((L 31)) 40 ((b_shelves.2.2 7))]) C hw hr hQ dX7_rowFault_13
def zf_X1_hasElement (x1 : Int32) (x2 : Int32) (b_this : TSh) : Option (Bool) := (Option.bind (zf_X1_holdsRow x1 b_this) (fun u1 => (if u1 then (if x2 < 0 then some (false) else (if ix x1 8 then (if (b_this.2.1 x1.toNatClampNeg) ≤ x2 then some (false) else (if (40 : Int32) ≤ x2 then some (false) else some (true))) else none)) else some (false))))
abbrev zr_X1_hasElement : Room := { frames := 2, cells := 0, slots := 0, locals := 43 }
set_option maxHeartbeats 4000000 in
set_option maxRecDepth 100000 in
theorem c_X1_hasElement (l : Launch) (G : va_G) (cy : Nat → ClassId) (tt : Nat → Nat) (a0 a1 a2 a3 a4 a5 a6 a7 a8 a9 a10 a11 : Nat) (x1 : Int32) (x2 : Int32) (b_this : TSh) (res : Bool) (hf : zf_X1_hasElement x1 x2 b_this = some res) : zCT l yX1_hasElement cX1_hasElement 3 (some .boolean) zr_X1_hasElement G cy tt [.ref a0, .int x1, .int x2] [xSh a0 a1 a2 a3, xI cy a1 8 b_this.1, xI cy a2 8 b_this.2.1, xRJ cy a3 8 (fun j => [some a4, some a5, some a6, some a7, some a8, some a9, some a10, some a11].getD j none), xJ cy a4 40 ((b_this.2.2 0)), xJ cy a5 40 ((b_this.2.2 1)), xJ cy a6 40 ((b_this.2.2 2)), xJ cy a7 40 ((b_this.2.2 3)), xJ cy a8 40 ((b_this.2.2 4)), xJ cy a9 40 ((b_this.2.2 5)), xJ cy a10 40 ((b_this.2.2 6)), xJ cy a11 40 ((b_this.2.2 7))] (some (.int (bI res))) [xSh a0 a1 a2 a3, xI cy a1 8 b_this.1, xI cy a2 8 b_this.2.1, xRJ cy a3 8 (fun j => [some a4, some a5, some a6, some a7, some a8, some a9, some a10, some a11].getD j none), xJ cy a4 40 ((b_this.2.2 0)), xJ cy a5 40 ((b_this.2.2 1)), xJ cy a6 40 ((b_this.2.2 2)), xJ cy a7 40 ((b_this.2.2 3)), xJ cy a8 40 ((b_this.2.2 4)), xJ cy a9 40 ((b_this.2.2 5)), xJ cy a10 40 ((b_this.2.2 6)), xJ cy a11 40 ((b_this.2.2 7))] := by
  refine zk_start zn_X1 (Nat.le_of_ble_eq_true rfl) ?_
  intro p e s m args below meth c A ls Q C hr hQ hw hl
  have C : zCx p m c s args meth cX1_hasElement 3 RX1 G cy tt A := C
  have hx := C.1.1
  have hb := C.1.2.1
  have hl : lv_has ls 3 [(0, .ref a0), (1, .int x1), (2, .int x2)] := hl
  rw [zf_X1_hasElement] at hf
  refine lv_aload_n (pc := 0) hx hb dX1_hasElement_0 rfl (lv_at hl 0 rfl) ?_
  refine lv_iload_n (pc := 1) hx hb dX1_hasElement_1 rfl (lv_at hl 1 rfl) ?_
  obtain ⟨u1, u1e, hf⟩ := bd hf
  refine zk_cV (pc := 2) (ci := 1) (q0 := 0) (rest := []) (st1 := [.int (bI u1)]) (w' := [xSh a0 a1 a2 a3, xI cy a1 8 b_this.1, xI cy a2 8 b_this.2.1, xRJ cy a3 8 (fun j => [some a4, some a5, some a6, some a7, some a8, some a9, some a10, some a11].getD j none), xJ cy a4 40 ((b_this.2.2 0)), xJ cy a5 40 ((b_this.2.2 1)), xJ cy a6 40 ((b_this.2.2 2)), xJ cy a7 40 ((b_this.2.2 3)), xJ cy a8 40 ((b_this.2.2 4)), xJ cy a9 40 ((b_this.2.2 5)), xJ cy a10 40 ((b_this.2.2 6)), xJ cy a11 40 ((b_this.2.2 7))]) (mk := [none, none, none, none, none, none, none, none, none, none, none, none]) C hw (c_X1_holdsRow l G cy tt a0 a1 a2 a3 a4 a5 a6 a7 a8 a9 a10 a11 x1 b_this _ u1e) zy_X1_holdsRow zm_X1_31 rfl rfl rfl [0, 1, 2, 3, 4, 5, 6, 7, 8, 9, 10, 11] rfl rfl rfl rfl rfl rfl rfl rfl hl.1 ⟨rfl, rfl⟩ ⟨Nat.le_of_ble_eq_true rfl, Nat.le_of_ble_eq_true rfl⟩ rfl (Nat.le_of_ble_eq_true rfl) ⟨Nat.zero_le _, Nat.zero_le _⟩ dX1_hasElement_2 (fun H locs hw => ?_)
  refine zk_ifz (pc := 5) (tgt := 32) hx hb dX1_hasElement_5 (by decide) (fun q2 => ?_) (fun q2 => ?_)
  · replace hf := if_f q2 hf
    refine lv_iconst (pc := 32) (v := 0) hx hb dX1_hasElement_32 (by decide) ?_
    have hf := Option.some.inj hf
    subst hf
    exact zk_retz (pc := 33) (b := false) (ww := [xSh a0 a1 a2 a3, xI cy a1 8 b_this.1, xI cy a2 8 b_this.2.1, xRJ cy a3 8 (fun j => [some a4, some a5, some a6, some a7, some a8, some a9, some a10, some a11].getD j none), xJ cy a4 40 ((b_this.2.2 0)), xJ cy a5 40 ((b_this.2.2 1)), xJ cy a6 40 ((b_this.2.2 2)), xJ cy a7 40 ((b_this.2.2 3)), xJ cy a8 40 ((b_this.2.2 4)), xJ cy a9 40 ((b_this.2.2 5)), xJ cy a10 40 ((b_this.2.2 6)), xJ cy a11 40 ((b_this.2.2 7))]) C hw hr hQ dX1_hasElement_33
  · replace hf := if_t q2 hf
    refine lv_iload_n (pc := 8) hx hb dX1_hasElement_8 rfl (lv_at hl 2 rfl) ?_
    refine lv_if_lt (pc := 9) (tgt := 32) hx hb dX1_hasElement_9 (by decide) (fun q3 => ?_) (fun q3 => ?_)
    · replace hf := if_t q3 hf
      refine lv_iconst (pc := 32) (v := 0) hx hb dX1_hasElement_32 (by decide) ?_
      have hf := Option.some.inj hf
      subst hf
      exact zk_retz (pc := 33) (b := false) (ww := [xSh a0 a1 a2 a3, xI cy a1 8 b_this.1, xI cy a2 8 b_this.2.1, xRJ cy a3 8 (fun j => [some a4, some a5, some a6, some a7, some a8, some a9, some a10, some a11].getD j none), xJ cy a4 40 ((b_this.2.2 0)), xJ cy a5 40 ((b_this.2.2 1)), xJ cy a6 40 ((b_this.2.2 2)), xJ cy a7 40 ((b_this.2.2 3)), xJ cy a8 40 ((b_this.2.2 4)), xJ cy a9 40 ((b_this.2.2 5)), xJ cy a10 40 ((b_this.2.2 6)), xJ cy a11 40 ((b_this.2.2 7))]) C hw hr hQ dX1_hasElement_33
    · replace hf := if_f q3 hf
      refine lv_iload_n (pc := 12) hx hb dX1_hasElement_12 rfl (lv_at hl 2 rfl) ?_
      refine lv_aload_n (pc := 13) hx hb dX1_hasElement_13 rfl (lv_at hl 0 rfl) ?_
      refine zk_gt (pc := 14) C hw zl_X1_15 0 rfl rfl dX1_hasElement_14 ?_
      refine lv_iload_n (pc := 17) hx hb dX1_hasElement_17 rfl (lv_at hl 1 rfl) ?_
      obtain ⟨q4, hf⟩ := ck hf
      refine zk_iald (pc := 18) C hw 2 rfl q4 dX1_hasElement_18 ?_
      refine lv_icmp_ge (pc := 19) (tgt := 32) hx hb dX1_hasElement_19 (by decide) (fun q5 => ?_) (fun q5 => ?_)
      · replace hf := if_t q5 hf
        refine lv_iconst (pc := 32) (v := 0) hx hb dX1_hasElement_32 (by decide) ?_
        have hf := Option.some.inj hf
        subst hf
        exact zk_retz (pc := 33) (b := false) (ww := [xSh a0 a1 a2 a3, xI cy a1 8 b_this.1, xI cy a2 8 b_this.2.1, xRJ cy a3 8 (fun j => [some a4, some a5, some a6, some a7, some a8, some a9, some a10, some a11].getD j none), xJ cy a4 40 ((b_this.2.2 0)), xJ cy a5 40 ((b_this.2.2 1)), xJ cy a6 40 ((b_this.2.2 2)), xJ cy a7 40 ((b_this.2.2 3)), xJ cy a8 40 ((b_this.2.2 4)), xJ cy a9 40 ((b_this.2.2 5)), xJ cy a10 40 ((b_this.2.2 6)), xJ cy a11 40 ((b_this.2.2 7))]) C hw hr hQ dX1_hasElement_33
      · replace hf := if_f q5 hf
        refine lv_iload_n (pc := 22) hx hb dX1_hasElement_22 rfl (lv_at hl 2 rfl) ?_
        refine lv_bipush (pc := 23) (v := 40) hx hb dX1_hasElement_23 (by decide) ?_
        refine lv_icmp_ge (pc := 25) (tgt := 32) hx hb dX1_hasElement_25 (by decide) (fun q6 => ?_) (fun q6 => ?_)
        · replace hf := if_t q6 hf
          refine lv_iconst (pc := 32) (v := 0) hx hb dX1_hasElement_32 (by decide) ?_
          have hf := Option.some.inj hf
          subst hf
          exact zk_retz (pc := 33) (b := false) (ww := [xSh a0 a1 a2 a3, xI cy a1 8 b_this.1, xI cy a2 8 b_this.2.1, xRJ cy a3 8 (fun j => [some a4, some a5, some a6, some a7, some a8, some a9, some a10, some a11].getD j none), xJ cy a4 40 ((b_this.2.2 0)), xJ cy a5 40 ((b_this.2.2 1)), xJ cy a6 40 ((b_this.2.2 2)), xJ cy a7 40 ((b_this.2.2 3)), xJ cy a8 40 ((b_this.2.2 4)), xJ cy a9 40 ((b_this.2.2 5)), xJ cy a10 40 ((b_this.2.2 6)), xJ cy a11 40 ((b_this.2.2 7))]) C hw hr hQ dX1_hasElement_33
        · replace hf := if_f q6 hf
          refine lv_iconst (pc := 28) (v := 1) hx hb dX1_hasElement_28 (by decide) ?_
          refine lv_goto (pc := 29) (tgt := 33) hx hb dX1_hasElement_29 (by decide) ?_
          have hf := Option.some.inj hf
          subst hf
          exact zk_retz (pc := 33) (b := true) (ww := [xSh a0 a1 a2 a3, xI cy a1 8 b_this.1, xI cy a2 8 b_this.2.1, xRJ cy a3 8 (fun j => [some a4, some a5, some a6, some a7, some a8, some a9, some a10, some a11].getD j none), xJ cy a4 40 ((b_this.2.2 0)), xJ cy a5 40 ((b_this.2.2 1)), xJ cy a6 40 ((b_this.2.2 2)), xJ cy a7 40 ((b_this.2.2 3)), xJ cy a8 40 ((b_this.2.2 4)), xJ cy a9 40 ((b_this.2.2 5)), xJ cy a10 40 ((b_this.2.2 6)), xJ cy a11 40 ((b_this.2.2 7))]) C hw hr hQ dX1_hasElement_33
def zf_X1_cutTo (x0 : Int32) (x1 : Int64) : Option (Int64) := (if x0 = 0 then some (x1.toInt32.toInt8.toInt32.toInt64) else (if x0 = 1 then some (x1.toInt32.toInt16.toInt32.toInt64) else (if x0 = 2 then some (x1.toInt32.toInt64) else (if x0 = 3 then some (x1) else (if x0 = 4 then (if (lg_cmp x1 ((0 : Int64))) = 0 then some ((0 : Int64)) else some ((1 : Int64))) else some (x1))))))
abbrev zr_X1_cutTo : Room := { frames := 0, cells := 0, slots := 0, locals := 0 }
set_option maxHeartbeats 4000000 in
set_option maxRecDepth 100000 in
theorem c_X1_cutTo (l : Launch) (G : va_G) (cy : Nat → ClassId) (tt : Nat → Nat)  (x0 : Int32) (x1 : Int64) (res : Int64) (hf : zf_X1_cutTo x0 x1 = some res) : zCT l yX1_cutTo cX1_cutTo 3 (some .long) zr_X1_cutTo G cy tt [.int x0, .long x1] [] (some (.long res)) [] := by
  refine zk_start zn_X1 (Nat.le_of_ble_eq_true rfl) ?_
  intro p e s m args below meth c A ls Q C hr hQ hw hl
  have C : zCx p m c s args meth cX1_cutTo 3 RX1 G cy tt A := C
  have hx := C.1.1
  have hb := C.1.2.1
  have hl : lv_has ls 3 [(0, .int x0), (1, .long x1)] := hl
  rw [zf_X1_cutTo] at hf
  refine lv_iload_n (pc := 0) hx hb dX1_cutTo_0 rfl (lv_at hl 0 rfl) ?_
  by_cases q1 : x0 = (0 : Int32)
  · replace hf := if_t q1 hf
    refine zk_tabIn (pc := 1) (off := 35) (tgt := 36) q1 C dX1_cutTo_1 (by decide) (by decide) (by decide +kernel) (by decide) ?_
    refine lv_lload_n (pc := 36) hx hb dX1_cutTo_36 rfl (lv_at hl 1 rfl) ?_
    refine lv_l2i (pc := 37) (v := x1.toInt32) hx hb dX1_cutTo_37 rfl ?_
    refine lv_i2b (pc := 38) (v := x1.toInt32.toInt8.toInt32) hx hb dX1_cutTo_38 rfl ?_
    refine lv_i2l (pc := 39) (v := x1.toInt32.toInt8.toInt32.toInt64) hx hb dX1_cutTo_39 rfl ?_
    have hf := Option.some.inj hf
    subst hf
    exact zk_retl (pc := 40) (ww := []) C hw hr hQ dX1_cutTo_40
  · replace hf := if_f q1 hf
    by_cases q2 : x0 = (1 : Int32)
    · replace hf := if_t q2 hf
      refine zk_tabIn (pc := 1) (off := 40) (tgt := 41) q2 C dX1_cutTo_1 (by decide) (by decide) (by decide +kernel) (by decide) ?_
      refine lv_lload_n (pc := 41) hx hb dX1_cutTo_41 rfl (lv_at hl 1 rfl) ?_
      refine lv_l2i (pc := 42) (v := x1.toInt32) hx hb dX1_cutTo_42 rfl ?_
      refine lv_i2s (pc := 43) (v := x1.toInt32.toInt16.toInt32) hx hb dX1_cutTo_43 rfl ?_
      refine lv_i2l (pc := 44) (v := x1.toInt32.toInt16.toInt32.toInt64) hx hb dX1_cutTo_44 rfl ?_
      have hf := Option.some.inj hf
      subst hf
      exact zk_retl (pc := 45) (ww := []) C hw hr hQ dX1_cutTo_45
    · replace hf := if_f q2 hf
      by_cases q3 : x0 = (2 : Int32)
      · replace hf := if_t q3 hf
        refine zk_tabIn (pc := 1) (off := 45) (tgt := 46) q3 C dX1_cutTo_1 (by decide) (by decide) (by decide +kernel) (by decide) ?_
        refine lv_lload_n (pc := 46) hx hb dX1_cutTo_46 rfl (lv_at hl 1 rfl) ?_
        refine lv_l2i (pc := 47) (v := x1.toInt32) hx hb dX1_cutTo_47 rfl ?_
        refine lv_i2l (pc := 48) (v := x1.toInt32.toInt64) hx hb dX1_cutTo_48 rfl ?_
        have hf := Option.some.inj hf
        subst hf
        exact zk_retl (pc := 49) (ww := []) C hw hr hQ dX1_cutTo_49
      · replace hf := if_f q3 hf
        by_cases q4 : x0 = (3 : Int32)
        · replace hf := if_t q4 hf
          refine zk_tabIn (pc := 1) (off := 61) (tgt := 62) q4 C dX1_cutTo_1 (by decide) (by decide) (by decide +kernel) (by decide) ?_
          refine lv_lload_n (pc := 62) hx hb dX1_cutTo_62 rfl (lv_at hl 1 rfl) ?_
          have hf := Option.some.inj hf
          subst hf
          exact zk_retl (pc := 63) (ww := []) C hw hr hQ dX1_cutTo_63
        · replace hf := if_f q4 hf
          by_cases q5 : x0 = (4 : Int32)
          · replace hf := if_t q5 hf
            refine zk_tabIn (pc := 1) (off := 49) (tgt := 50) q5 C dX1_cutTo_1 (by decide) (by decide) (by decide +kernel) (by decide) ?_
            refine lv_lload_n (pc := 50) hx hb dX1_cutTo_50 rfl (lv_at hl 1 rfl) ?_
            refine lv_lconst (pc := 51) (v := 0) hx hb dX1_cutTo_51 (by decide) ?_
            refine W.lcmp (pc := 52) hx hb dX1_cutTo_52 ?_
            refine lv_if_eq (pc := 53) (tgt := 60) hx hb dX1_cutTo_53 (by decide) (fun q6 => ?_) (fun q6 => ?_)
            · replace hf := if_t q6 hf
              refine lv_lconst (pc := 60) (v := 0) hx hb dX1_cutTo_60 (by decide) ?_
              have hf := Option.some.inj hf
              subst hf
              exact zk_retl (pc := 61) (ww := []) C hw hr hQ dX1_cutTo_61
            · replace hf := if_f q6 hf
              refine lv_lconst (pc := 56) (v := 1) hx hb dX1_cutTo_56 (by decide) ?_
              refine lv_goto (pc := 57) (tgt := 61) hx hb dX1_cutTo_57 (by decide) ?_
              have hf := Option.some.inj hf
              subst hf
              exact zk_retl (pc := 61) (ww := []) C hw hr hQ dX1_cutTo_61
          · replace hf := if_f q5 hf
            have eq1 := i32_ne (n := 0) (by decide) q1
            have eq2 := i32_ne (n := 1) (by decide) q2
            have eq3 := i32_ne (n := 2) (by decide) q3
            have eq4 := i32_ne (n := 3) (by decide) q4
            have eq5 := i32_ne (n := 4) (by decide) q5
            refine lv_tableOut (pc := 1) (tgt := 62) hx hb dX1_cutTo_1 (by omega) (by decide) ?_
            refine lv_lload_n (pc := 62) hx hb dX1_cutTo_62 rfl (lv_at hl 1 rfl) ?_
            have hf := Option.some.inj hf
            subst hf
            exact zk_retl (pc := 63) (ww := []) C hw hr hQ dX1_cutTo_63
def zf_X1_putElement (x1 : Int32) (x2 : Int32) (x3 : Int64) (b_this : TSh) : Option (TSh) := (Option.bind (zf_X1_hasElement x1 x2 b_this) (fun u1 => (if u1 then (if ix x1 8 then (if ix x1 8 then (Option.bind (zf_X1_cutTo (((b_this.1 x1.toNatClampNeg))) x3) (fun u6 => (if ix x2 40 then some ((b_this.1, b_this.2.1, (va_up b_this.2.2 x1.toNatClampNeg ((vp_updL ((b_this.2.2 x1.toNatClampNeg)) x2.toNatClampNeg u6))))) else none))) else none) else none) else some (b_this))))
abbrev zr_X1_putElement : Room := { frames := 3, cells := 0, slots := 0, locals := 65 }
set_option maxHeartbeats 4000000 in
set_option maxRecDepth 100000 in
theorem c_X1_putElement (l : Launch) (G : va_G) (cy : Nat → ClassId) (tt : Nat → Nat) (a0 a1 a2 a3 a4 a5 a6 a7 a8 a9 a10 a11 : Nat) (x1 : Int32) (x2 : Int32) (x3 : Int64) (b_this : TSh) (res : TSh) (hf : zf_X1_putElement x1 x2 x3 b_this = some res) : zCT l yX1_putElement cX1_putElement 5 none zr_X1_putElement G cy tt [.ref a0, .int x1, .int x2, .long x3] [xSh a0 a1 a2 a3, xI cy a1 8 b_this.1, xI cy a2 8 b_this.2.1, xRJ cy a3 8 (fun j => [some a4, some a5, some a6, some a7, some a8, some a9, some a10, some a11].getD j none), xJ cy a4 40 ((b_this.2.2 0)), xJ cy a5 40 ((b_this.2.2 1)), xJ cy a6 40 ((b_this.2.2 2)), xJ cy a7 40 ((b_this.2.2 3)), xJ cy a8 40 ((b_this.2.2 4)), xJ cy a9 40 ((b_this.2.2 5)), xJ cy a10 40 ((b_this.2.2 6)), xJ cy a11 40 ((b_this.2.2 7))] none [xSh a0 a1 a2 a3, xI cy a1 8 res.1, xI cy a2 8 res.2.1, xRJ cy a3 8 (fun j => [some a4, some a5, some a6, some a7, some a8, some a9, some a10, some a11].getD j none), xJ cy a4 40 ((res.2.2 0)), xJ cy a5 40 ((res.2.2 1)), xJ cy a6 40 ((res.2.2 2)), xJ cy a7 40 ((res.2.2 3)), xJ cy a8 40 ((res.2.2 4)), xJ cy a9 40 ((res.2.2 5)), xJ cy a10 40 ((res.2.2 6)), xJ cy a11 40 ((res.2.2 7))] := by
  refine zk_start zn_X1 (Nat.le_of_ble_eq_true rfl) ?_
  intro p e s m args below meth c A ls Q C hr hQ hw hl
  have C : zCx p m c s args meth cX1_putElement 5 RX1 G cy tt A := C
  have hx := C.1.1
  have hb := C.1.2.1
  have hl : lv_has ls 5 [(0, .ref a0), (1, .int x1), (2, .int x2), (3, .long x3)] := hl
  rw [zf_X1_putElement] at hf
  refine lv_aload_n (pc := 0) hx hb dX1_putElement_0 rfl (lv_at hl 0 rfl) ?_
  refine lv_iload_n (pc := 1) hx hb dX1_putElement_1 rfl (lv_at hl 1 rfl) ?_
  refine lv_iload_n (pc := 2) hx hb dX1_putElement_2 rfl (lv_at hl 2 rfl) ?_
  obtain ⟨u1, u1e, hf⟩ := bd hf
  refine zk_cV (pc := 3) (ci := 1) (q0 := 0) (rest := []) (st1 := [.int (bI u1)]) (w' := [xSh a0 a1 a2 a3, xI cy a1 8 b_this.1, xI cy a2 8 b_this.2.1, xRJ cy a3 8 (fun j => [some a4, some a5, some a6, some a7, some a8, some a9, some a10, some a11].getD j none), xJ cy a4 40 ((b_this.2.2 0)), xJ cy a5 40 ((b_this.2.2 1)), xJ cy a6 40 ((b_this.2.2 2)), xJ cy a7 40 ((b_this.2.2 3)), xJ cy a8 40 ((b_this.2.2 4)), xJ cy a9 40 ((b_this.2.2 5)), xJ cy a10 40 ((b_this.2.2 6)), xJ cy a11 40 ((b_this.2.2 7))]) (mk := [none, none, none, none, none, none, none, none, none, none, none, none]) C hw (c_X1_hasElement l G cy tt a0 a1 a2 a3 a4 a5 a6 a7 a8 a9 a10 a11 x1 x2 b_this _ u1e) zy_X1_hasElement zm_X1_38 rfl rfl rfl [0, 1, 2, 3, 4, 5, 6, 7, 8, 9, 10, 11] rfl rfl rfl rfl rfl rfl rfl rfl hl.1 ⟨rfl, rfl⟩ ⟨Nat.le_of_ble_eq_true rfl, Nat.le_of_ble_eq_true rfl⟩ rfl (Nat.le_of_ble_eq_true rfl) ⟨Nat.zero_le _, Nat.zero_le _⟩ dX1_putElement_3 (fun H locs hw => ?_)
  refine zk_ifz (pc := 6) (tgt := 27) hx hb dX1_putElement_6 (by decide) (fun q2 => ?_) (fun q2 => ?_)
  · replace hf := if_f q2 hf
    have hf := Option.some.inj hf
    subst hf
    exact zk_retv (pc := 27) (ww := [xSh a0 a1 a2 a3, xI cy a1 8 b_this.1, xI cy a2 8 b_this.2.1, xRJ cy a3 8 (fun j => [some a4, some a5, some a6, some a7, some a8, some a9, some a10, some a11].getD j none), xJ cy a4 40 ((b_this.2.2 0)), xJ cy a5 40 ((b_this.2.2 1)), xJ cy a6 40 ((b_this.2.2 2)), xJ cy a7 40 ((b_this.2.2 3)), xJ cy a8 40 ((b_this.2.2 4)), xJ cy a9 40 ((b_this.2.2 5)), xJ cy a10 40 ((b_this.2.2 6)), xJ cy a11 40 ((b_this.2.2 7))]) C hw hr hQ dX1_putElement_27
  · replace hf := if_t q2 hf
    refine lv_aload_n (pc := 9) hx hb dX1_putElement_9 rfl (lv_at hl 0 rfl) ?_
    refine zk_gt (pc := 10) C hw zl_X1_20 0 rfl rfl dX1_putElement_10 ?_
    refine lv_iload_n (pc := 13) hx hb dX1_putElement_13 rfl (lv_at hl 1 rfl) ?_
    obtain ⟨q3, hf⟩ := ck hf
    rcases ix8 q3 with e4 | e4 | e4 | e4 | e4 | e4 | e4 | e4
    · rw [e4] at hf
      refine zk_aaldJ (pc := 14) (a' := a4) 0 e4 C hw 3 rfl q3 rfl dX1_putElement_14 ?_
      refine lv_iload_n (pc := 15) hx hb dX1_putElement_15 rfl (lv_at hl 2 rfl) ?_
      refine lv_aload_n (pc := 16) hx hb dX1_putElement_16 rfl (lv_at hl 0 rfl) ?_
      refine zk_gt (pc := 17) C hw zl_X1_9 0 rfl rfl dX1_putElement_17 ?_
      refine lv_iload_n (pc := 20) hx hb dX1_putElement_20 rfl (lv_at hl 1 rfl) ?_
      obtain ⟨q8, hf⟩ := ck hf
      refine zk_ialdK (pc := 21) 0 e4 C hw 1 rfl q8 dX1_putElement_21 ?_
      refine lv_lload_n (pc := 22) hx hb dX1_putElement_22 rfl (lv_at hl 3 rfl) ?_
      obtain ⟨u9, u9e, hf⟩ := bd hf
      refine zk_cS (pc := 23) (rest := [.int x2, .ref a4]) (st1 := [.long u9, .int x2, .ref a4]) (w' := [xSh a0 a1 a2 a3, xI cy a1 8 b_this.1, xI cy a2 8 b_this.2.1, xRJ cy a3 8 (fun j => [some a4, some a5, some a6, some a7, some a8, some a9, some a10, some a11].getD j none), xJ cy a4 40 ((b_this.2.2 0)), xJ cy a5 40 ((b_this.2.2 1)), xJ cy a6 40 ((b_this.2.2 2)), xJ cy a7 40 ((b_this.2.2 3)), xJ cy a8 40 ((b_this.2.2 4)), xJ cy a9 40 ((b_this.2.2 5)), xJ cy a10 40 ((b_this.2.2 6)), xJ cy a11 40 ((b_this.2.2 7))]) (mk := [none, none, none, none, none, none, none, none, none, none, none, none]) C hw (c_X1_cutTo l G cy tt (((b_this.1 0))) x3 _ u9e) zy_X1_cutTo zm_X1_42 [] rfl rfl rfl rfl rfl rfl rfl rfl hl.1 ⟨rfl, rfl⟩ ⟨Nat.le_of_ble_eq_true rfl, Nat.le_of_ble_eq_true rfl⟩ rfl (Nat.le_of_ble_eq_true rfl) ⟨Nat.zero_le _, Nat.zero_le _⟩ dX1_putElement_23 (fun H locs hw => ?_)
      obtain ⟨q10, hf⟩ := ck hf
      refine zk_last (pc := 26) (w' := [xSh a0 a1 a2 a3, xI cy a1 8 b_this.1, xI cy a2 8 b_this.2.1, xRJ cy a3 8 (fun j => [some a4, some a5, some a6, some a7, some a8, some a9, some a10, some a11].getD j none), xJ cy a4 40 ((vp_updL ((b_this.2.2 0)) x2.toNatClampNeg u9)), xJ cy a5 40 ((b_this.2.2 1)), xJ cy a6 40 ((b_this.2.2 2)), xJ cy a7 40 ((b_this.2.2 3)), xJ cy a8 40 ((b_this.2.2 4)), xJ cy a9 40 ((b_this.2.2 5)), xJ cy a10 40 ((b_this.2.2 6)), xJ cy a11 40 ((b_this.2.2 7))]) C hw 4 rfl q10 rfl dX1_putElement_26 (fun H locs hw => ?_)
      have hf := Option.some.inj hf
      subst hf
      exact zk_retv (pc := 27) (ww := [xSh a0 a1 a2 a3, xI cy a1 8 b_this.1, xI cy a2 8 b_this.2.1, xRJ cy a3 8 (fun j => [some a4, some a5, some a6, some a7, some a8, some a9, some a10, some a11].getD j none), xJ cy a4 40 ((vp_updL ((b_this.2.2 0)) x2.toNatClampNeg u9)), xJ cy a5 40 ((b_this.2.2 1)), xJ cy a6 40 ((b_this.2.2 2)), xJ cy a7 40 ((b_this.2.2 3)), xJ cy a8 40 ((b_this.2.2 4)), xJ cy a9 40 ((b_this.2.2 5)), xJ cy a10 40 ((b_this.2.2 6)), xJ cy a11 40 ((b_this.2.2 7))]) C hw hr hQ dX1_putElement_27
    · rw [e4] at hf
      refine zk_aaldJ (pc := 14) (a' := a5) 1 e4 C hw 3 rfl q3 rfl dX1_putElement_14 ?_
      refine lv_iload_n (pc := 15) hx hb dX1_putElement_15 rfl (lv_at hl 2 rfl) ?_
      refine lv_aload_n (pc := 16) hx hb dX1_putElement_16 rfl (lv_at hl 0 rfl) ?_
      refine zk_gt (pc := 17) C hw zl_X1_9 0 rfl rfl dX1_putElement_17 ?_
      refine lv_iload_n (pc := 20) hx hb dX1_putElement_20 rfl (lv_at hl 1 rfl) ?_
      obtain ⟨q11, hf⟩ := ck hf
      refine zk_ialdK (pc := 21) 1 e4 C hw 1 rfl q11 dX1_putElement_21 ?_
      refine lv_lload_n (pc := 22) hx hb dX1_putElement_22 rfl (lv_at hl 3 rfl) ?_
      obtain ⟨u12, u12e, hf⟩ := bd hf
      refine zk_cS (pc := 23) (rest := [.int x2, .ref a5]) (st1 := [.long u12, .int x2, .ref a5]) (w' := [xSh a0 a1 a2 a3, xI cy a1 8 b_this.1, xI cy a2 8 b_this.2.1, xRJ cy a3 8 (fun j => [some a4, some a5, some a6, some a7, some a8, some a9, some a10, some a11].getD j none), xJ cy a4 40 ((b_this.2.2 0)), xJ cy a5 40 ((b_this.2.2 1)), xJ cy a6 40 ((b_this.2.2 2)), xJ cy a7 40 ((b_this.2.2 3)), xJ cy a8 40 ((b_this.2.2 4)), xJ cy a9 40 ((b_this.2.2 5)), xJ cy a10 40 ((b_this.2.2 6)), xJ cy a11 40 ((b_this.2.2 7))]) (mk := [none, none, none, none, none, none, none, none, none, none, none, none]) C hw (c_X1_cutTo l G cy tt (((b_this.1 1))) x3 _ u12e) zy_X1_cutTo zm_X1_42 [] rfl rfl rfl rfl rfl rfl rfl rfl hl.1 ⟨rfl, rfl⟩ ⟨Nat.le_of_ble_eq_true rfl, Nat.le_of_ble_eq_true rfl⟩ rfl (Nat.le_of_ble_eq_true rfl) ⟨Nat.zero_le _, Nat.zero_le _⟩ dX1_putElement_23 (fun H locs hw => ?_)
      obtain ⟨q13, hf⟩ := ck hf
      refine zk_last (pc := 26) (w' := [xSh a0 a1 a2 a3, xI cy a1 8 b_this.1, xI cy a2 8 b_this.2.1, xRJ cy a3 8 (fun j => [some a4, some a5, some a6, some a7, some a8, some a9, some a10, some a11].getD j none), xJ cy a4 40 ((b_this.2.2 0)), xJ cy a5 40 ((vp_updL ((b_this.2.2 1)) x2.toNatClampNeg u12)), xJ cy a6 40 ((b_this.2.2 2)), xJ cy a7 40 ((b_this.2.2 3)), xJ cy a8 40 ((b_this.2.2 4)), xJ cy a9 40 ((b_this.2.2 5)), xJ cy a10 40 ((b_this.2.2 6)), xJ cy a11 40 ((b_this.2.2 7))]) C hw 5 rfl q13 rfl dX1_putElement_26 (fun H locs hw => ?_)
      have hf := Option.some.inj hf
      subst hf
      exact zk_retv (pc := 27) (ww := [xSh a0 a1 a2 a3, xI cy a1 8 b_this.1, xI cy a2 8 b_this.2.1, xRJ cy a3 8 (fun j => [some a4, some a5, some a6, some a7, some a8, some a9, some a10, some a11].getD j none), xJ cy a4 40 ((b_this.2.2 0)), xJ cy a5 40 ((vp_updL ((b_this.2.2 1)) x2.toNatClampNeg u12)), xJ cy a6 40 ((b_this.2.2 2)), xJ cy a7 40 ((b_this.2.2 3)), xJ cy a8 40 ((b_this.2.2 4)), xJ cy a9 40 ((b_this.2.2 5)), xJ cy a10 40 ((b_this.2.2 6)), xJ cy a11 40 ((b_this.2.2 7))]) C hw hr hQ dX1_putElement_27
    · rw [e4] at hf
      refine zk_aaldJ (pc := 14) (a' := a6) 2 e4 C hw 3 rfl q3 rfl dX1_putElement_14 ?_
      refine lv_iload_n (pc := 15) hx hb dX1_putElement_15 rfl (lv_at hl 2 rfl) ?_
      refine lv_aload_n (pc := 16) hx hb dX1_putElement_16 rfl (lv_at hl 0 rfl) ?_
      refine zk_gt (pc := 17) C hw zl_X1_9 0 rfl rfl dX1_putElement_17 ?_
      refine lv_iload_n (pc := 20) hx hb dX1_putElement_20 rfl (lv_at hl 1 rfl) ?_
      obtain ⟨q14, hf⟩ := ck hf
      refine zk_ialdK (pc := 21) 2 e4 C hw 1 rfl q14 dX1_putElement_21 ?_
      refine lv_lload_n (pc := 22) hx hb dX1_putElement_22 rfl (lv_at hl 3 rfl) ?_
      obtain ⟨u15, u15e, hf⟩ := bd hf
      refine zk_cS (pc := 23) (rest := [.int x2, .ref a6]) (st1 := [.long u15, .int x2, .ref a6]) (w' := [xSh a0 a1 a2 a3, xI cy a1 8 b_this.1, xI cy a2 8 b_this.2.1, xRJ cy a3 8 (fun j => [some a4, some a5, some a6, some a7, some a8, some a9, some a10, some a11].getD j none), xJ cy a4 40 ((b_this.2.2 0)), xJ cy a5 40 ((b_this.2.2 1)), xJ cy a6 40 ((b_this.2.2 2)), xJ cy a7 40 ((b_this.2.2 3)), xJ cy a8 40 ((b_this.2.2 4)), xJ cy a9 40 ((b_this.2.2 5)), xJ cy a10 40 ((b_this.2.2 6)), xJ cy a11 40 ((b_this.2.2 7))]) (mk := [none, none, none, none, none, none, none, none, none, none, none, none]) C hw (c_X1_cutTo l G cy tt (((b_this.1 2))) x3 _ u15e) zy_X1_cutTo zm_X1_42 [] rfl rfl rfl rfl rfl rfl rfl rfl hl.1 ⟨rfl, rfl⟩ ⟨Nat.le_of_ble_eq_true rfl, Nat.le_of_ble_eq_true rfl⟩ rfl (Nat.le_of_ble_eq_true rfl) ⟨Nat.zero_le _, Nat.zero_le _⟩ dX1_putElement_23 (fun H locs hw => ?_)
      obtain ⟨q16, hf⟩ := ck hf
      refine zk_last (pc := 26) (w' := [xSh a0 a1 a2 a3, xI cy a1 8 b_this.1, xI cy a2 8 b_this.2.1, xRJ cy a3 8 (fun j => [some a4, some a5, some a6, some a7, some a8, some a9, some a10, some a11].getD j none), xJ cy a4 40 ((b_this.2.2 0)), xJ cy a5 40 ((b_this.2.2 1)), xJ cy a6 40 ((vp_updL ((b_this.2.2 2)) x2.toNatClampNeg u15)), xJ cy a7 40 ((b_this.2.2 3)), xJ cy a8 40 ((b_this.2.2 4)), xJ cy a9 40 ((b_this.2.2 5)), xJ cy a10 40 ((b_this.2.2 6)), xJ cy a11 40 ((b_this.2.2 7))]) C hw 6 rfl q16 rfl dX1_putElement_26 (fun H locs hw => ?_)
      have hf := Option.some.inj hf
      subst hf
      exact zk_retv (pc := 27) (ww := [xSh a0 a1 a2 a3, xI cy a1 8 b_this.1, xI cy a2 8 b_this.2.1, xRJ cy a3 8 (fun j => [some a4, some a5, some a6, some a7, some a8, some a9, some a10, some a11].getD j none), xJ cy a4 40 ((b_this.2.2 0)), xJ cy a5 40 ((b_this.2.2 1)), xJ cy a6 40 ((vp_updL ((b_this.2.2 2)) x2.toNatClampNeg u15)), xJ cy a7 40 ((b_this.2.2 3)), xJ cy a8 40 ((b_this.2.2 4)), xJ cy a9 40 ((b_this.2.2 5)), xJ cy a10 40 ((b_this.2.2 6)), xJ cy a11 40 ((b_this.2.2 7))]) C hw hr hQ dX1_putElement_27
    · rw [e4] at hf
      refine zk_aaldJ (pc := 14) (a' := a7) 3 e4 C hw 3 rfl q3 rfl dX1_putElement_14 ?_
      refine lv_iload_n (pc := 15) hx hb dX1_putElement_15 rfl (lv_at hl 2 rfl) ?_
      refine lv_aload_n (pc := 16) hx hb dX1_putElement_16 rfl (lv_at hl 0 rfl) ?_
      refine zk_gt (pc := 17) C hw zl_X1_9 0 rfl rfl dX1_putElement_17 ?_
      refine lv_iload_n (pc := 20) hx hb dX1_putElement_20 rfl (lv_at hl 1 rfl) ?_
      obtain ⟨q17, hf⟩ := ck hf
      refine zk_ialdK (pc := 21) 3 e4 C hw 1 rfl q17 dX1_putElement_21 ?_
      refine lv_lload_n (pc := 22) hx hb dX1_putElement_22 rfl (lv_at hl 3 rfl) ?_
      obtain ⟨u18, u18e, hf⟩ := bd hf
      refine zk_cS (pc := 23) (rest := [.int x2, .ref a7]) (st1 := [.long u18, .int x2, .ref a7]) (w' := [xSh a0 a1 a2 a3, xI cy a1 8 b_this.1, xI cy a2 8 b_this.2.1, xRJ cy a3 8 (fun j => [some a4, some a5, some a6, some a7, some a8, some a9, some a10, some a11].getD j none), xJ cy a4 40 ((b_this.2.2 0)), xJ cy a5 40 ((b_this.2.2 1)), xJ cy a6 40 ((b_this.2.2 2)), xJ cy a7 40 ((b_this.2.2 3)), xJ cy a8 40 ((b_this.2.2 4)), xJ cy a9 40 ((b_this.2.2 5)), xJ cy a10 40 ((b_this.2.2 6)), xJ cy a11 40 ((b_this.2.2 7))]) (mk := [none, none, none, none, none, none, none, none, none, none, none, none]) C hw (c_X1_cutTo l G cy tt (((b_this.1 3))) x3 _ u18e) zy_X1_cutTo zm_X1_42 [] rfl rfl rfl rfl rfl rfl rfl rfl hl.1 ⟨rfl, rfl⟩ ⟨Nat.le_of_ble_eq_true rfl, Nat.le_of_ble_eq_true rfl⟩ rfl (Nat.le_of_ble_eq_true rfl) ⟨Nat.zero_le _, Nat.zero_le _⟩ dX1_putElement_23 (fun H locs hw => ?_)
      obtain ⟨q19, hf⟩ := ck hf
      refine zk_last (pc := 26) (w' := [xSh a0 a1 a2 a3, xI cy a1 8 b_this.1, xI cy a2 8 b_this.2.1, xRJ cy a3 8 (fun j => [some a4, some a5, some a6, some a7, some a8, some a9, some a10, some a11].getD j none), xJ cy a4 40 ((b_this.2.2 0)), xJ cy a5 40 ((b_this.2.2 1)), xJ cy a6 40 ((b_this.2.2 2)), xJ cy a7 40 ((vp_updL ((b_this.2.2 3)) x2.toNatClampNeg u18)), xJ cy a8 40 ((b_this.2.2 4)), xJ cy a9 40 ((b_this.2.2 5)), xJ cy a10 40 ((b_this.2.2 6)), xJ cy a11 40 ((b_this.2.2 7))]) C hw 7 rfl q19 rfl dX1_putElement_26 (fun H locs hw => ?_)
      have hf := Option.some.inj hf
      subst hf
      exact zk_retv (pc := 27) (ww := [xSh a0 a1 a2 a3, xI cy a1 8 b_this.1, xI cy a2 8 b_this.2.1, xRJ cy a3 8 (fun j => [some a4, some a5, some a6, some a7, some a8, some a9, some a10, some a11].getD j none), xJ cy a4 40 ((b_this.2.2 0)), xJ cy a5 40 ((b_this.2.2 1)), xJ cy a6 40 ((b_this.2.2 2)), xJ cy a7 40 ((vp_updL ((b_this.2.2 3)) x2.toNatClampNeg u18)), xJ cy a8 40 ((b_this.2.2 4)), xJ cy a9 40 ((b_this.2.2 5)), xJ cy a10 40 ((b_this.2.2 6)), xJ cy a11 40 ((b_this.2.2 7))]) C hw hr hQ dX1_putElement_27
    · rw [e4] at hf
      refine zk_aaldJ (pc := 14) (a' := a8) 4 e4 C hw 3 rfl q3 rfl dX1_putElement_14 ?_
      refine lv_iload_n (pc := 15) hx hb dX1_putElement_15 rfl (lv_at hl 2 rfl) ?_
      refine lv_aload_n (pc := 16) hx hb dX1_putElement_16 rfl (lv_at hl 0 rfl) ?_
      refine zk_gt (pc := 17) C hw zl_X1_9 0 rfl rfl dX1_putElement_17 ?_
      refine lv_iload_n (pc := 20) hx hb dX1_putElement_20 rfl (lv_at hl 1 rfl) ?_
      obtain ⟨q20, hf⟩ := ck hf
      refine zk_ialdK (pc := 21) 4 e4 C hw 1 rfl q20 dX1_putElement_21 ?_
      refine lv_lload_n (pc := 22) hx hb dX1_putElement_22 rfl (lv_at hl 3 rfl) ?_
      obtain ⟨u21, u21e, hf⟩ := bd hf
      refine zk_cS (pc := 23) (rest := [.int x2, .ref a8]) (st1 := [.long u21, .int x2, .ref a8]) (w' := [xSh a0 a1 a2 a3, xI cy a1 8 b_this.1, xI cy a2 8 b_this.2.1, xRJ cy a3 8 (fun j => [some a4, some a5, some a6, some a7, some a8, some a9, some a10, some a11].getD j none), xJ cy a4 40 ((b_this.2.2 0)), xJ cy a5 40 ((b_this.2.2 1)), xJ cy a6 40 ((b_this.2.2 2)), xJ cy a7 40 ((b_this.2.2 3)), xJ cy a8 40 ((b_this.2.2 4)), xJ cy a9 40 ((b_this.2.2 5)), xJ cy a10 40 ((b_this.2.2 6)), xJ cy a11 40 ((b_this.2.2 7))]) (mk := [none, none, none, none, none, none, none, none, none, none, none, none]) C hw (c_X1_cutTo l G cy tt (((b_this.1 4))) x3 _ u21e) zy_X1_cutTo zm_X1_42 [] rfl rfl rfl rfl rfl rfl rfl rfl hl.1 ⟨rfl, rfl⟩ ⟨Nat.le_of_ble_eq_true rfl, Nat.le_of_ble_eq_true rfl⟩ rfl (Nat.le_of_ble_eq_true rfl) ⟨Nat.zero_le _, Nat.zero_le _⟩ dX1_putElement_23 (fun H locs hw => ?_)
      obtain ⟨q22, hf⟩ := ck hf
      refine zk_last (pc := 26) (w' := [xSh a0 a1 a2 a3, xI cy a1 8 b_this.1, xI cy a2 8 b_this.2.1, xRJ cy a3 8 (fun j => [some a4, some a5, some a6, some a7, some a8, some a9, some a10, some a11].getD j none), xJ cy a4 40 ((b_this.2.2 0)), xJ cy a5 40 ((b_this.2.2 1)), xJ cy a6 40 ((b_this.2.2 2)), xJ cy a7 40 ((b_this.2.2 3)), xJ cy a8 40 ((vp_updL ((b_this.2.2 4)) x2.toNatClampNeg u21)), xJ cy a9 40 ((b_this.2.2 5)), xJ cy a10 40 ((b_this.2.2 6)), xJ cy a11 40 ((b_this.2.2 7))]) C hw 8 rfl q22 rfl dX1_putElement_26 (fun H locs hw => ?_)
      have hf := Option.some.inj hf
      subst hf
      exact zk_retv (pc := 27) (ww := [xSh a0 a1 a2 a3, xI cy a1 8 b_this.1, xI cy a2 8 b_this.2.1, xRJ cy a3 8 (fun j => [some a4, some a5, some a6, some a7, some a8, some a9, some a10, some a11].getD j none), xJ cy a4 40 ((b_this.2.2 0)), xJ cy a5 40 ((b_this.2.2 1)), xJ cy a6 40 ((b_this.2.2 2)), xJ cy a7 40 ((b_this.2.2 3)), xJ cy a8 40 ((vp_updL ((b_this.2.2 4)) x2.toNatClampNeg u21)), xJ cy a9 40 ((b_this.2.2 5)), xJ cy a10 40 ((b_this.2.2 6)), xJ cy a11 40 ((b_this.2.2 7))]) C hw hr hQ dX1_putElement_27
    · rw [e4] at hf
      refine zk_aaldJ (pc := 14) (a' := a9) 5 e4 C hw 3 rfl q3 rfl dX1_putElement_14 ?_
      refine lv_iload_n (pc := 15) hx hb dX1_putElement_15 rfl (lv_at hl 2 rfl) ?_
      refine lv_aload_n (pc := 16) hx hb dX1_putElement_16 rfl (lv_at hl 0 rfl) ?_
      refine zk_gt (pc := 17) C hw zl_X1_9 0 rfl rfl dX1_putElement_17 ?_
      refine lv_iload_n (pc := 20) hx hb dX1_putElement_20 rfl (lv_at hl 1 rfl) ?_
      obtain ⟨q23, hf⟩ := ck hf
      refine zk_ialdK (pc := 21) 5 e4 C hw 1 rfl q23 dX1_putElement_21 ?_
      refine lv_lload_n (pc := 22) hx hb dX1_putElement_22 rfl (lv_at hl 3 rfl) ?_
      obtain ⟨u24, u24e, hf⟩ := bd hf
      refine zk_cS (pc := 23) (rest := [.int x2, .ref a9]) (st1 := [.long u24, .int x2, .ref a9]) (w' := [xSh a0 a1 a2 a3, xI cy a1 8 b_this.1, xI cy a2 8 b_this.2.1, xRJ cy a3 8 (fun j => [some a4, some a5, some a6, some a7, some a8, some a9, some a10, some a11].getD j none), xJ cy a4 40 ((b_this.2.2 0)), xJ cy a5 40 ((b_this.2.2 1)), xJ cy a6 40 ((b_this.2.2 2)), xJ cy a7 40 ((b_this.2.2 3)), xJ cy a8 40 ((b_this.2.2 4)), xJ cy a9 40 ((b_this.2.2 5)), xJ cy a10 40 ((b_this.2.2 6)), xJ cy a11 40 ((b_this.2.2 7))]) (mk := [none, none, none, none, none, none, none, none, none, none, none, none]) C hw (c_X1_cutTo l G cy tt (((b_this.1 5))) x3 _ u24e) zy_X1_cutTo zm_X1_42 [] rfl rfl rfl rfl rfl rfl rfl rfl hl.1 ⟨rfl, rfl⟩ ⟨Nat.le_of_ble_eq_true rfl, Nat.le_of_ble_eq_true rfl⟩ rfl (Nat.le_of_ble_eq_true rfl) ⟨Nat.zero_le _, Nat.zero_le _⟩ dX1_putElement_23 (fun H locs hw => ?_)
      obtain ⟨q25, hf⟩ := ck hf
      refine zk_last (pc := 26) (w' := [xSh a0 a1 a2 a3, xI cy a1 8 b_this.1, xI cy a2 8 b_this.2.1, xRJ cy a3 8 (fun j => [some a4, some a5, some a6, some a7, some a8, some a9, some a10, some a11].getD j none), xJ cy a4 40 ((b_this.2.2 0)), xJ cy a5 40 ((b_this.2.2 1)), xJ cy a6 40 ((b_this.2.2 2)), xJ cy a7 40 ((b_this.2.2 3)), xJ cy a8 40 ((b_this.2.2 4)), xJ cy a9 40 ((vp_updL ((b_this.2.2 5)) x2.toNatClampNeg u24)), xJ cy a10 40 ((b_this.2.2 6)), xJ cy a11 40 ((b_this.2.2 7))]) C hw 9 rfl q25 rfl dX1_putElement_26 (fun H locs hw => ?_)
      have hf := Option.some.inj hf
      subst hf
      exact zk_retv (pc := 27) (ww := [xSh a0 a1 a2 a3, xI cy a1 8 b_this.1, xI cy a2 8 b_this.2.1, xRJ cy a3 8 (fun j => [some a4, some a5, some a6, some a7, some a8, some a9, some a10, some a11].getD j none), xJ cy a4 40 ((b_this.2.2 0)), xJ cy a5 40 ((b_this.2.2 1)), xJ cy a6 40 ((b_this.2.2 2)), xJ cy a7 40 ((b_this.2.2 3)), xJ cy a8 40 ((b_this.2.2 4)), xJ cy a9 40 ((vp_updL ((b_this.2.2 5)) x2.toNatClampNeg u24)), xJ cy a10 40 ((b_this.2.2 6)), xJ cy a11 40 ((b_this.2.2 7))]) C hw hr hQ dX1_putElement_27
    · rw [e4] at hf
      refine zk_aaldJ (pc := 14) (a' := a10) 6 e4 C hw 3 rfl q3 rfl dX1_putElement_14 ?_
      refine lv_iload_n (pc := 15) hx hb dX1_putElement_15 rfl (lv_at hl 2 rfl) ?_
      refine lv_aload_n (pc := 16) hx hb dX1_putElement_16 rfl (lv_at hl 0 rfl) ?_
      refine zk_gt (pc := 17) C hw zl_X1_9 0 rfl rfl dX1_putElement_17 ?_
      refine lv_iload_n (pc := 20) hx hb dX1_putElement_20 rfl (lv_at hl 1 rfl) ?_
      obtain ⟨q26, hf⟩ := ck hf
      refine zk_ialdK (pc := 21) 6 e4 C hw 1 rfl q26 dX1_putElement_21 ?_
      refine lv_lload_n (pc := 22) hx hb dX1_putElement_22 rfl (lv_at hl 3 rfl) ?_
      obtain ⟨u27, u27e, hf⟩ := bd hf
      refine zk_cS (pc := 23) (rest := [.int x2, .ref a10]) (st1 := [.long u27, .int x2, .ref a10]) (w' := [xSh a0 a1 a2 a3, xI cy a1 8 b_this.1, xI cy a2 8 b_this.2.1, xRJ cy a3 8 (fun j => [some a4, some a5, some a6, some a7, some a8, some a9, some a10, some a11].getD j none), xJ cy a4 40 ((b_this.2.2 0)), xJ cy a5 40 ((b_this.2.2 1)), xJ cy a6 40 ((b_this.2.2 2)), xJ cy a7 40 ((b_this.2.2 3)), xJ cy a8 40 ((b_this.2.2 4)), xJ cy a9 40 ((b_this.2.2 5)), xJ cy a10 40 ((b_this.2.2 6)), xJ cy a11 40 ((b_this.2.2 7))]) (mk := [none, none, none, none, none, none, none, none, none, none, none, none]) C hw (c_X1_cutTo l G cy tt (((b_this.1 6))) x3 _ u27e) zy_X1_cutTo zm_X1_42 [] rfl rfl rfl rfl rfl rfl rfl rfl hl.1 ⟨rfl, rfl⟩ ⟨Nat.le_of_ble_eq_true rfl, Nat.le_of_ble_eq_true rfl⟩ rfl (Nat.le_of_ble_eq_true rfl) ⟨Nat.zero_le _, Nat.zero_le _⟩ dX1_putElement_23 (fun H locs hw => ?_)
      obtain ⟨q28, hf⟩ := ck hf
      refine zk_last (pc := 26) (w' := [xSh a0 a1 a2 a3, xI cy a1 8 b_this.1, xI cy a2 8 b_this.2.1, xRJ cy a3 8 (fun j => [some a4, some a5, some a6, some a7, some a8, some a9, some a10, some a11].getD j none), xJ cy a4 40 ((b_this.2.2 0)), xJ cy a5 40 ((b_this.2.2 1)), xJ cy a6 40 ((b_this.2.2 2)), xJ cy a7 40 ((b_this.2.2 3)), xJ cy a8 40 ((b_this.2.2 4)), xJ cy a9 40 ((b_this.2.2 5)), xJ cy a10 40 ((vp_updL ((b_this.2.2 6)) x2.toNatClampNeg u27)), xJ cy a11 40 ((b_this.2.2 7))]) C hw 10 rfl q28 rfl dX1_putElement_26 (fun H locs hw => ?_)
      have hf := Option.some.inj hf
      subst hf
      exact zk_retv (pc := 27) (ww := [xSh a0 a1 a2 a3, xI cy a1 8 b_this.1, xI cy a2 8 b_this.2.1, xRJ cy a3 8 (fun j => [some a4, some a5, some a6, some a7, some a8, some a9, some a10, some a11].getD j none), xJ cy a4 40 ((b_this.2.2 0)), xJ cy a5 40 ((b_this.2.2 1)), xJ cy a6 40 ((b_this.2.2 2)), xJ cy a7 40 ((b_this.2.2 3)), xJ cy a8 40 ((b_this.2.2 4)), xJ cy a9 40 ((b_this.2.2 5)), xJ cy a10 40 ((vp_updL ((b_this.2.2 6)) x2.toNatClampNeg u27)), xJ cy a11 40 ((b_this.2.2 7))]) C hw hr hQ dX1_putElement_27
    · rw [e4] at hf
      refine zk_aaldJ (pc := 14) (a' := a11) 7 e4 C hw 3 rfl q3 rfl dX1_putElement_14 ?_
      refine lv_iload_n (pc := 15) hx hb dX1_putElement_15 rfl (lv_at hl 2 rfl) ?_
      refine lv_aload_n (pc := 16) hx hb dX1_putElement_16 rfl (lv_at hl 0 rfl) ?_
      refine zk_gt (pc := 17) C hw zl_X1_9 0 rfl rfl dX1_putElement_17 ?_
      refine lv_iload_n (pc := 20) hx hb dX1_putElement_20 rfl (lv_at hl 1 rfl) ?_
      obtain ⟨q29, hf⟩ := ck hf
      refine zk_ialdK (pc := 21) 7 e4 C hw 1 rfl q29 dX1_putElement_21 ?_
      refine lv_lload_n (pc := 22) hx hb dX1_putElement_22 rfl (lv_at hl 3 rfl) ?_
      obtain ⟨u30, u30e, hf⟩ := bd hf
      refine zk_cS (pc := 23) (rest := [.int x2, .ref a11]) (st1 := [.long u30, .int x2, .ref a11]) (w' := [xSh a0 a1 a2 a3, xI cy a1 8 b_this.1, xI cy a2 8 b_this.2.1, xRJ cy a3 8 (fun j => [some a4, some a5, some a6, some a7, some a8, some a9, some a10, some a11].getD j none), xJ cy a4 40 ((b_this.2.2 0)), xJ cy a5 40 ((b_this.2.2 1)), xJ cy a6 40 ((b_this.2.2 2)), xJ cy a7 40 ((b_this.2.2 3)), xJ cy a8 40 ((b_this.2.2 4)), xJ cy a9 40 ((b_this.2.2 5)), xJ cy a10 40 ((b_this.2.2 6)), xJ cy a11 40 ((b_this.2.2 7))]) (mk := [none, none, none, none, none, none, none, none, none, none, none, none]) C hw (c_X1_cutTo l G cy tt (((b_this.1 7))) x3 _ u30e) zy_X1_cutTo zm_X1_42 [] rfl rfl rfl rfl rfl rfl rfl rfl hl.1 ⟨rfl, rfl⟩ ⟨Nat.le_of_ble_eq_true rfl, Nat.le_of_ble_eq_true rfl⟩ rfl (Nat.le_of_ble_eq_true rfl) ⟨Nat.zero_le _, Nat.zero_le _⟩ dX1_putElement_23 (fun H locs hw => ?_)
      obtain ⟨q31, hf⟩ := ck hf
      refine zk_last (pc := 26) (w' := [xSh a0 a1 a2 a3, xI cy a1 8 b_this.1, xI cy a2 8 b_this.2.1, xRJ cy a3 8 (fun j => [some a4, some a5, some a6, some a7, some a8, some a9, some a10, some a11].getD j none), xJ cy a4 40 ((b_this.2.2 0)), xJ cy a5 40 ((b_this.2.2 1)), xJ cy a6 40 ((b_this.2.2 2)), xJ cy a7 40 ((b_this.2.2 3)), xJ cy a8 40 ((b_this.2.2 4)), xJ cy a9 40 ((b_this.2.2 5)), xJ cy a10 40 ((b_this.2.2 6)), xJ cy a11 40 ((vp_updL ((b_this.2.2 7)) x2.toNatClampNeg u30))]) C hw 11 rfl q31 rfl dX1_putElement_26 (fun H locs hw => ?_)
      have hf := Option.some.inj hf
      subst hf
      exact zk_retv (pc := 27) (ww := [xSh a0 a1 a2 a3, xI cy a1 8 b_this.1, xI cy a2 8 b_this.2.1, xRJ cy a3 8 (fun j => [some a4, some a5, some a6, some a7, some a8, some a9, some a10, some a11].getD j none), xJ cy a4 40 ((b_this.2.2 0)), xJ cy a5 40 ((b_this.2.2 1)), xJ cy a6 40 ((b_this.2.2 2)), xJ cy a7 40 ((b_this.2.2 3)), xJ cy a8 40 ((b_this.2.2 4)), xJ cy a9 40 ((b_this.2.2 5)), xJ cy a10 40 ((b_this.2.2 6)), xJ cy a11 40 ((vp_updL ((b_this.2.2 7)) x2.toNatClampNeg u30))]) C hw hr hQ dX1_putElement_27
def zf_X7_set (x1 : Int32) (x2 : Int32) (x3 : Int64) (b_shelves : TSh) (b_refusals : Nat → Int32) : Option (Int32 × TSh × (Nat → Int32)) := (Option.bind (zf_X7_rowFault x1 true b_shelves) (fun u1 => (if u1 = 0 then (Option.bind (zf_X1_hasElement x1 x2 b_shelves) (fun u3 => (if u3 then (Option.bind (zf_X1_putElement x1 x2 x3 b_shelves) (fun u5 => some ((1 : Int32), u5, b_refusals))) else (Option.bind (zf_X7_refused (((-2 : Int32))) b_refusals) (fun u6 => some (u6.1, b_shelves, u6.2)))))) else (Option.bind (zf_X7_refused u1 b_refusals) (fun u7 => some (u7.1, b_shelves, u7.2))))))
abbrev zr_X7_set : Room := { frames := 4, cells := 0, slots := 0, locals := 89 }
set_option maxHeartbeats 4000000 in
set_option maxRecDepth 100000 in
theorem c_X7_set (l : Launch) (G : va_G) (cy : Nat → ClassId) (tt : Nat → Nat) (L : Nat → Nat) (b_seedNow : Int32) (b_keptSeed : Int32) (b_isKept : Bool) (x1 : Int32) (x2 : Int32) (x3 : Int64) (b_shelves : TSh) (b_refusals : Nat → Int32) (res : Int32 × TSh × (Nat → Int32)) (hf : zf_X7_set x1 x2 x3 b_shelves b_refusals = some res) : zCT l yX7_set cX7_set 6 (some .int) zr_X7_set G cy tt [.ref ((L 0)), .int x1, .int x2, .long x3] [xU L b_seedNow b_keptSeed b_isKept, xSh ((L 20)) ((L 21)) ((L 22)) ((L 23)), xI cy ((L 21)) 8 b_shelves.1, xI cy ((L 22)) 8 b_shelves.2.1, xRJ cy ((L 23)) 8 (fun j => [some ((L 24)), some ((L 25)), some ((L 26)), some ((L 27)), some ((L 28)), some ((L 29)), some ((L 30)), some ((L 31))].getD j none), xJ cy ((L 24)) 40 ((b_shelves.2.2 0)), xJ cy ((L 25)) 40 ((b_shelves.2.2 1)), xJ cy ((L 26)) 40 ((b_shelves.2.2 2)), xJ cy ((L 27)) 40 ((b_shelves.2.2 3)), xJ cy ((L 28)) 40 ((b_shelves.2.2 4)), xJ cy ((L 29)) 40 ((b_shelves.2.2 5)), xJ cy ((L 30)) 40 ((b_shelves.2.2 6)), xJ cy ((L 31)) 40 ((b_shelves.2.2 7)), xI cy ((L 48)) 5 b_refusals] (some (.int res.1)) [xU L b_seedNow b_keptSeed b_isKept, xSh ((L 20)) ((L 21)) ((L 22)) ((L 23)), xI cy ((L 21)) 8 res.2.1.1, xI cy ((L 22)) 8 res.2.1.2.1, xRJ cy ((L 23)) 8 (fun j => [some ((L 24)), some ((L 25)), some ((L 26)), some ((L 27)), some ((L 28)), some ((L 29)), some ((L 30)), some ((L 31))].getD j none), xJ cy ((L 24)) 40 ((res.2.1.2.2 0)), xJ cy ((L 25)) 40 ((res.2.1.2.2 1)), xJ cy ((L 26)) 40 ((res.2.1.2.2 2)), xJ cy ((L 27)) 40 ((res.2.1.2.2 3)), xJ cy ((L 28)) 40 ((res.2.1.2.2 4)), xJ cy ((L 29)) 40 ((res.2.1.2.2 5)), xJ cy ((L 30)) 40 ((res.2.1.2.2 6)), xJ cy ((L 31)) 40 ((res.2.1.2.2 7)), xI cy ((L 48)) 5 res.2.2] := by
  refine zk_start zn_X7 (Nat.le_of_ble_eq_true rfl) ?_
  intro p e s m args below meth c A ls Q C hr hQ hw hl
  have C : zCx p m c s args meth cX7_set 6 RX7 G cy tt A := C
  have hx := C.1.1
  have hb := C.1.2.1
  have hl : lv_has ls 6 [(0, .ref ((L 0))), (1, .int x1), (2, .int x2), (3, .long x3)] := hl
  rw [zf_X7_set] at hf
  refine lv_aload_n (pc := 0) hx hb dX7_set_0 rfl (lv_at hl 0 rfl) ?_
  refine lv_iload_n (pc := 1) hx hb dX7_set_1 rfl (lv_at hl 1 rfl) ?_
  refine lv_iconst (pc := 2) (v := 1) hx hb dX7_set_2 (by decide) ?_
  obtain ⟨u1, u1e, hf⟩ := bd hf
  refine zk_cV (pc := 3) (ci := 7) (q0 := 0) (rest := []) (st1 := [.int u1]) (w' := [xU L b_seedNow b_keptSeed b_isKept, xSh ((L 20)) ((L 21)) ((L 22)) ((L 23)), xI cy ((L 21)) 8 b_shelves.1, xI cy ((L 22)) 8 b_shelves.2.1, xRJ cy ((L 23)) 8 (fun j => [some ((L 24)), some ((L 25)), some ((L 26)), some ((L 27)), some ((L 28)), some ((L 29)), some ((L 30)), some ((L 31))].getD j none), xJ cy ((L 24)) 40 ((b_shelves.2.2 0)), xJ cy ((L 25)) 40 ((b_shelves.2.2 1)), xJ cy ((L 26)) 40 ((b_shelves.2.2 2)), xJ cy ((L 27)) 40 ((b_shelves.2.2 3)), xJ cy ((L 28)) 40 ((b_shelves.2.2 4)), xJ cy ((L 29)) 40 ((b_shelves.2.2 5)), xJ cy ((L 30)) 40 ((b_shelves.2.2 6)), xJ cy ((L 31)) 40 ((b_shelves.2.2 7)), xI cy ((L 48)) 5 b_refusals]) (mk := [none, none, none, none, none, none, none, none, none, none, none, none, none, none]) C hw (c_X7_rowFault l G cy tt L b_seedNow b_keptSeed b_isKept x1 true b_shelves _ u1e) zy_X7_rowFault zm_X7_111 rfl rfl rfl [0, 1, 2, 3, 4, 5, 6, 7, 8, 9, 10, 11, 12] rfl rfl rfl rfl rfl rfl rfl rfl hl.1 ⟨rfl, rfl⟩ ⟨Nat.le_of_ble_eq_true rfl, Nat.le_of_ble_eq_true rfl⟩ rfl (Nat.le_of_ble_eq_true rfl) ⟨Nat.zero_le _, Nat.zero_le _⟩ dX7_set_3 (fun H locs hw => ?_)
  refine lv_istore (pc := 6) (lv' := [(5, .int u1), (0, .ref ((L 0))), (1, .int x1), (2, .int x2), (3, .long x3)]) hx hb dX7_set_6 hl (by decide) rfl (fun ls hl => ?_)
  refine lv_iload (pc := 8) hx hb dX7_set_8 (lv_at hl 0 rfl) ?_
  refine lv_if_eq (pc := 10) (tgt := 20) hx hb dX7_set_10 (by decide) (fun q2 => ?_) (fun q2 => ?_)
  · replace hf := if_t q2 hf
    refine lv_aload_n (pc := 20) hx hb dX7_set_20 rfl (lv_at hl 1 rfl) ?_
    refine zk_gt (pc := 21) C hw zl_X7_41 0 rfl rfl dX7_set_21 ?_
    refine lv_iload_n (pc := 24) hx hb dX7_set_24 rfl (lv_at hl 2 rfl) ?_
    refine lv_iload_n (pc := 25) hx hb dX7_set_25 rfl (lv_at hl 3 rfl) ?_
    obtain ⟨u3, u3e, hf⟩ := bd hf
    refine zk_cV (pc := 26) (ci := 1) (q0 := 1) (rest := []) (st1 := [.int (bI u3)]) (w' := [xU L b_seedNow b_keptSeed b_isKept, xSh ((L 20)) ((L 21)) ((L 22)) ((L 23)), xI cy ((L 21)) 8 b_shelves.1, xI cy ((L 22)) 8 b_shelves.2.1, xRJ cy ((L 23)) 8 (fun j => [some ((L 24)), some ((L 25)), some ((L 26)), some ((L 27)), some ((L 28)), some ((L 29)), some ((L 30)), some ((L 31))].getD j none), xJ cy ((L 24)) 40 ((b_shelves.2.2 0)), xJ cy ((L 25)) 40 ((b_shelves.2.2 1)), xJ cy ((L 26)) 40 ((b_shelves.2.2 2)), xJ cy ((L 27)) 40 ((b_shelves.2.2 3)), xJ cy ((L 28)) 40 ((b_shelves.2.2 4)), xJ cy ((L 29)) 40 ((b_shelves.2.2 5)), xJ cy ((L 30)) 40 ((b_shelves.2.2 6)), xJ cy ((L 31)) 40 ((b_shelves.2.2 7)), xI cy ((L 48)) 5 b_refusals]) (mk := [none, none, none, none, none, none, none, none, none, none, none, none, none, none]) C hw (c_X1_hasElement l G cy tt ((L 20)) ((L 21)) ((L 22)) ((L 23)) ((L 24)) ((L 25)) ((L 26)) ((L 27)) ((L 28)) ((L 29)) ((L 30)) ((L 31)) x1 x2 b_shelves _ u3e) zy_X1_hasElement zm_X7_115 rfl rfl rfl [1, 2, 3, 4, 5, 6, 7, 8, 9, 10, 11, 12] rfl rfl rfl rfl rfl rfl rfl rfl hl.1 ⟨rfl, rfl⟩ ⟨Nat.le_of_ble_eq_true rfl, Nat.le_of_ble_eq_true rfl⟩ rfl (Nat.le_of_ble_eq_true rfl) ⟨Nat.zero_le _, Nat.zero_le _⟩ dX7_set_26 (fun H locs hw => ?_)
    refine zk_ifnz (pc := 29) (tgt := 39) hx hb dX7_set_29 (by decide) (fun q4 => ?_) (fun q4 => ?_)
    · replace hf := if_t q4 hf
      refine lv_aload_n (pc := 39) hx hb dX7_set_39 rfl (lv_at hl 1 rfl) ?_
      refine zk_gt (pc := 40) C hw zl_X7_41 0 rfl rfl dX7_set_40 ?_
      refine lv_iload_n (pc := 43) hx hb dX7_set_43 rfl (lv_at hl 2 rfl) ?_
      refine lv_iload_n (pc := 44) hx hb dX7_set_44 rfl (lv_at hl 3 rfl) ?_
      refine lv_lload_n (pc := 45) hx hb dX7_set_45 rfl (lv_at hl 4 rfl) ?_
      obtain ⟨u5, u5e, hf⟩ := bd hf
      refine zk_cV (pc := 46) (ci := 1) (q0 := 1) (rest := []) (st1 := []) (w' := [xU L b_seedNow b_keptSeed b_isKept, xSh ((L 20)) ((L 21)) ((L 22)) ((L 23)), xI cy ((L 21)) 8 u5.1, xI cy ((L 22)) 8 u5.2.1, xRJ cy ((L 23)) 8 (fun j => [some ((L 24)), some ((L 25)), some ((L 26)), some ((L 27)), some ((L 28)), some ((L 29)), some ((L 30)), some ((L 31))].getD j none), xJ cy ((L 24)) 40 ((u5.2.2 0)), xJ cy ((L 25)) 40 ((u5.2.2 1)), xJ cy ((L 26)) 40 ((u5.2.2 2)), xJ cy ((L 27)) 40 ((u5.2.2 3)), xJ cy ((L 28)) 40 ((u5.2.2 4)), xJ cy ((L 29)) 40 ((u5.2.2 5)), xJ cy ((L 30)) 40 ((u5.2.2 6)), xJ cy ((L 31)) 40 ((u5.2.2 7)), xI cy ((L 48)) 5 b_refusals]) (mk := [none, none, some (xI cy ((L 21)) 8 u5.1), some (xI cy ((L 22)) 8 u5.2.1), none, some (xJ cy ((L 24)) 40 ((u5.2.2 0))), some (xJ cy ((L 25)) 40 ((u5.2.2 1))), some (xJ cy ((L 26)) 40 ((u5.2.2 2))), some (xJ cy ((L 27)) 40 ((u5.2.2 3))), some (xJ cy ((L 28)) 40 ((u5.2.2 4))), some (xJ cy ((L 29)) 40 ((u5.2.2 5))), some (xJ cy ((L 30)) 40 ((u5.2.2 6))), some (xJ cy ((L 31)) 40 ((u5.2.2 7))), none]) C hw (c_X1_putElement l G cy tt ((L 20)) ((L 21)) ((L 22)) ((L 23)) ((L 24)) ((L 25)) ((L 26)) ((L 27)) ((L 28)) ((L 29)) ((L 30)) ((L 31)) x1 x2 x3 b_shelves _ u5e) zy_X1_putElement zm_X7_119 rfl rfl rfl [1, 2, 3, 4, 5, 6, 7, 8, 9, 10, 11, 12] rfl rfl rfl rfl rfl rfl rfl rfl hl.1 ⟨rfl, rfl⟩ ⟨Nat.le_of_ble_eq_true rfl, Nat.le_of_ble_eq_true rfl⟩ rfl (Nat.le_of_ble_eq_true rfl) ⟨Nat.zero_le _, Nat.zero_le _⟩ dX7_set_46 (fun H locs hw => ?_)
      refine lv_iconst (pc := 49) (v := 1) hx hb dX7_set_49 (by decide) ?_
      have hf := Option.some.inj hf
      subst hf
      exact zk_reti (pc := 50) (ww := [xU L b_seedNow b_keptSeed b_isKept, xSh ((L 20)) ((L 21)) ((L 22)) ((L 23)), xI cy ((L 21)) 8 u5.1, xI cy ((L 22)) 8 u5.2.1, xRJ cy ((L 23)) 8 (fun j => [some ((L 24)), some ((L 25)), some ((L 26)), some ((L 27)), some ((L 28)), some ((L 29)), some ((L 30)), some ((L 31))].getD j none), xJ cy ((L 24)) 40 ((u5.2.2 0)), xJ cy ((L 25)) 40 ((u5.2.2 1)), xJ cy ((L 26)) 40 ((u5.2.2 2)), xJ cy ((L 27)) 40 ((u5.2.2 3)), xJ cy ((L 28)) 40 ((u5.2.2 4)), xJ cy ((L 29)) 40 ((u5.2.2 5)), xJ cy ((L 30)) 40 ((u5.2.2 6)), xJ cy ((L 31)) 40 ((u5.2.2 7)), xI cy ((L 48)) 5 b_refusals]) C hw hr hQ dX7_set_50
    · replace hf := if_f q4 hf
      refine lv_aload_n (pc := 32) hx hb dX7_set_32 rfl (lv_at hl 1 rfl) ?_
      refine lv_bipush (pc := 33) (v := -2) hx hb dX7_set_33 (by decide) ?_
      obtain ⟨u6, u6e, hf⟩ := bd hf
      refine zk_cV (pc := 35) (ci := 7) (q0 := 0) (rest := []) (st1 := [.int u6.1]) (w' := [xU L b_seedNow b_keptSeed b_isKept, xSh ((L 20)) ((L 21)) ((L 22)) ((L 23)), xI cy ((L 21)) 8 b_shelves.1, xI cy ((L 22)) 8 b_shelves.2.1, xRJ cy ((L 23)) 8 (fun j => [some ((L 24)), some ((L 25)), some ((L 26)), some ((L 27)), some ((L 28)), some ((L 29)), some ((L 30)), some ((L 31))].getD j none), xJ cy ((L 24)) 40 ((b_shelves.2.2 0)), xJ cy ((L 25)) 40 ((b_shelves.2.2 1)), xJ cy ((L 26)) 40 ((b_shelves.2.2 2)), xJ cy ((L 27)) 40 ((b_shelves.2.2 3)), xJ cy ((L 28)) 40 ((b_shelves.2.2 4)), xJ cy ((L 29)) 40 ((b_shelves.2.2 5)), xJ cy ((L 30)) 40 ((b_shelves.2.2 6)), xJ cy ((L 31)) 40 ((b_shelves.2.2 7)), xI cy ((L 48)) 5 u6.2]) (mk := [none, none, none, none, none, none, none, none, none, none, none, none, none, some (xI cy ((L 48)) 5 u6.2)]) C hw (c_X7_refused l G cy tt L b_seedNow b_keptSeed b_isKept (((-2 : Int32))) b_refusals _ u6e) zy_X7_refused zm_X7_103 rfl rfl rfl [0, 13] rfl rfl rfl rfl rfl rfl rfl rfl hl.1 ⟨rfl, rfl⟩ ⟨Nat.le_of_ble_eq_true rfl, Nat.le_of_ble_eq_true rfl⟩ rfl (Nat.le_of_ble_eq_true rfl) ⟨Nat.zero_le _, Nat.zero_le _⟩ dX7_set_35 (fun H locs hw => ?_)
      have hf := Option.some.inj hf
      subst hf
      exact zk_reti (pc := 38) (ww := [xU L b_seedNow b_keptSeed b_isKept, xSh ((L 20)) ((L 21)) ((L 22)) ((L 23)), xI cy ((L 21)) 8 b_shelves.1, xI cy ((L 22)) 8 b_shelves.2.1, xRJ cy ((L 23)) 8 (fun j => [some ((L 24)), some ((L 25)), some ((L 26)), some ((L 27)), some ((L 28)), some ((L 29)), some ((L 30)), some ((L 31))].getD j none), xJ cy ((L 24)) 40 ((b_shelves.2.2 0)), xJ cy ((L 25)) 40 ((b_shelves.2.2 1)), xJ cy ((L 26)) 40 ((b_shelves.2.2 2)), xJ cy ((L 27)) 40 ((b_shelves.2.2 3)), xJ cy ((L 28)) 40 ((b_shelves.2.2 4)), xJ cy ((L 29)) 40 ((b_shelves.2.2 5)), xJ cy ((L 30)) 40 ((b_shelves.2.2 6)), xJ cy ((L 31)) 40 ((b_shelves.2.2 7)), xI cy ((L 48)) 5 u6.2]) C hw hr hQ dX7_set_38
  · replace hf := if_f q2 hf
    refine lv_aload_n (pc := 13) hx hb dX7_set_13 rfl (lv_at hl 1 rfl) ?_
    refine lv_iload (pc := 14) hx hb dX7_set_14 (lv_at hl 0 rfl) ?_
    obtain ⟨u7, u7e, hf⟩ := bd hf
    refine zk_cV (pc := 16) (ci := 7) (q0 := 0) (rest := []) (st1 := [.int u7.1]) (w' := [xU L b_seedNow b_keptSeed b_isKept, xSh ((L 20)) ((L 21)) ((L 22)) ((L 23)), xI cy ((L 21)) 8 b_shelves.1, xI cy ((L 22)) 8 b_shelves.2.1, xRJ cy ((L 23)) 8 (fun j => [some ((L 24)), some ((L 25)), some ((L 26)), some ((L 27)), some ((L 28)), some ((L 29)), some ((L 30)), some ((L 31))].getD j none), xJ cy ((L 24)) 40 ((b_shelves.2.2 0)), xJ cy ((L 25)) 40 ((b_shelves.2.2 1)), xJ cy ((L 26)) 40 ((b_shelves.2.2 2)), xJ cy ((L 27)) 40 ((b_shelves.2.2 3)), xJ cy ((L 28)) 40 ((b_shelves.2.2 4)), xJ cy ((L 29)) 40 ((b_shelves.2.2 5)), xJ cy ((L 30)) 40 ((b_shelves.2.2 6)), xJ cy ((L 31)) 40 ((b_shelves.2.2 7)), xI cy ((L 48)) 5 u7.2]) (mk := [none, none, none, none, none, none, none, none, none, none, none, none, none, some (xI cy ((L 48)) 5 u7.2)]) C hw (c_X7_refused l G cy tt L b_seedNow b_keptSeed b_isKept u1 b_refusals _ u7e) zy_X7_refused zm_X7_103 rfl rfl rfl [0, 13] rfl rfl rfl rfl rfl rfl rfl rfl hl.1 ⟨rfl, rfl⟩ ⟨Nat.le_of_ble_eq_true rfl, Nat.le_of_ble_eq_true rfl⟩ rfl (Nat.le_of_ble_eq_true rfl) ⟨Nat.zero_le _, Nat.zero_le _⟩ dX7_set_16 (fun H locs hw => ?_)
    have hf := Option.some.inj hf
    subst hf
    exact zk_reti (pc := 19) (ww := [xU L b_seedNow b_keptSeed b_isKept, xSh ((L 20)) ((L 21)) ((L 22)) ((L 23)), xI cy ((L 21)) 8 b_shelves.1, xI cy ((L 22)) 8 b_shelves.2.1, xRJ cy ((L 23)) 8 (fun j => [some ((L 24)), some ((L 25)), some ((L 26)), some ((L 27)), some ((L 28)), some ((L 29)), some ((L 30)), some ((L 31))].getD j none), xJ cy ((L 24)) 40 ((b_shelves.2.2 0)), xJ cy ((L 25)) 40 ((b_shelves.2.2 1)), xJ cy ((L 26)) 40 ((b_shelves.2.2 2)), xJ cy ((L 27)) 40 ((b_shelves.2.2 3)), xJ cy ((L 28)) 40 ((b_shelves.2.2 4)), xJ cy ((L 29)) 40 ((b_shelves.2.2 5)), xJ cy ((L 30)) 40 ((b_shelves.2.2 6)), xJ cy ((L 31)) 40 ((b_shelves.2.2 7)), xI cy ((L 48)) 5 u7.2]) C hw hr hQ dX7_set_19
def zf_X1_areOfTwoSorts (x1 : Int32) (x2 : Int32) (b_this : TSh) : Option (Bool) := (Option.bind (zf_X1_holdsRow x1 b_this) (fun u1 => (if u1 then (Option.bind (zf_X1_holdsRow x2 b_this) (fun u3 => (if u3 then (Option.bind (zf_X1_contentOf x1 b_this) (fun u5 => (Option.bind (zf_X1_contentOf x2 b_this) (fun u6 => (if u5 = u6 then some (false) else some (true)))))) else some (false)))) else some (false))))
abbrev zr_X1_areOfTwoSorts : Room := { frames := 2, cells := 0, slots := 0, locals := 43 }
set_option maxHeartbeats 4000000 in
set_option maxRecDepth 100000 in
theorem c_X1_areOfTwoSorts (l : Launch) (G : va_G) (cy : Nat → ClassId) (tt : Nat → Nat) (a0 a1 a2 a3 a4 a5 a6 a7 a8 a9 a10 a11 : Nat) (x1 : Int32) (x2 : Int32) (b_this : TSh) (res : Bool) (hf : zf_X1_areOfTwoSorts x1 x2 b_this = some res) : zCT l yX1_areOfTwoSorts cX1_areOfTwoSorts 3 (some .boolean) zr_X1_areOfTwoSorts G cy tt [.ref a0, .int x1, .int x2] [xSh a0 a1 a2 a3, xI cy a1 8 b_this.1, xI cy a2 8 b_this.2.1, xRJ cy a3 8 (fun j => [some a4, some a5, some a6, some a7, some a8, some a9, some a10, some a11].getD j none), xJ cy a4 40 ((b_this.2.2 0)), xJ cy a5 40 ((b_this.2.2 1)), xJ cy a6 40 ((b_this.2.2 2)), xJ cy a7 40 ((b_this.2.2 3)), xJ cy a8 40 ((b_this.2.2 4)), xJ cy a9 40 ((b_this.2.2 5)), xJ cy a10 40 ((b_this.2.2 6)), xJ cy a11 40 ((b_this.2.2 7))] (some (.int (bI res))) [xSh a0 a1 a2 a3, xI cy a1 8 b_this.1, xI cy a2 8 b_this.2.1, xRJ cy a3 8 (fun j => [some a4, some a5, some a6, some a7, some a8, some a9, some a10, some a11].getD j none), xJ cy a4 40 ((b_this.2.2 0)), xJ cy a5 40 ((b_this.2.2 1)), xJ cy a6 40 ((b_this.2.2 2)), xJ cy a7 40 ((b_this.2.2 3)), xJ cy a8 40 ((b_this.2.2 4)), xJ cy a9 40 ((b_this.2.2 5)), xJ cy a10 40 ((b_this.2.2 6)), xJ cy a11 40 ((b_this.2.2 7))] := by
  refine zk_start zn_X1 (Nat.le_of_ble_eq_true rfl) ?_
  intro p e s m args below meth c A ls Q C hr hQ hw hl
  have C : zCx p m c s args meth cX1_areOfTwoSorts 3 RX1 G cy tt A := C
  have hx := C.1.1
  have hb := C.1.2.1
  have hl : lv_has ls 3 [(0, .ref a0), (1, .int x1), (2, .int x2)] := hl
  rw [zf_X1_areOfTwoSorts] at hf
  refine lv_aload_n (pc := 0) hx hb dX1_areOfTwoSorts_0 rfl (lv_at hl 0 rfl) ?_
  refine lv_iload_n (pc := 1) hx hb dX1_areOfTwoSorts_1 rfl (lv_at hl 1 rfl) ?_
  obtain ⟨u1, u1e, hf⟩ := bd hf
  refine zk_cV (pc := 2) (ci := 1) (q0 := 0) (rest := []) (st1 := [.int (bI u1)]) (w' := [xSh a0 a1 a2 a3, xI cy a1 8 b_this.1, xI cy a2 8 b_this.2.1, xRJ cy a3 8 (fun j => [some a4, some a5, some a6, some a7, some a8, some a9, some a10, some a11].getD j none), xJ cy a4 40 ((b_this.2.2 0)), xJ cy a5 40 ((b_this.2.2 1)), xJ cy a6 40 ((b_this.2.2 2)), xJ cy a7 40 ((b_this.2.2 3)), xJ cy a8 40 ((b_this.2.2 4)), xJ cy a9 40 ((b_this.2.2 5)), xJ cy a10 40 ((b_this.2.2 6)), xJ cy a11 40 ((b_this.2.2 7))]) (mk := [none, none, none, none, none, none, none, none, none, none, none, none]) C hw (c_X1_holdsRow l G cy tt a0 a1 a2 a3 a4 a5 a6 a7 a8 a9 a10 a11 x1 b_this _ u1e) zy_X1_holdsRow zm_X1_31 rfl rfl rfl [0, 1, 2, 3, 4, 5, 6, 7, 8, 9, 10, 11] rfl rfl rfl rfl rfl rfl rfl rfl hl.1 ⟨rfl, rfl⟩ ⟨Nat.le_of_ble_eq_true rfl, Nat.le_of_ble_eq_true rfl⟩ rfl (Nat.le_of_ble_eq_true rfl) ⟨Nat.zero_le _, Nat.zero_le _⟩ dX1_areOfTwoSorts_2 (fun H locs hw => ?_)
  refine zk_ifz (pc := 5) (tgt := 33) hx hb dX1_areOfTwoSorts_5 (by decide) (fun q2 => ?_) (fun q2 => ?_)
  · replace hf := if_f q2 hf
    refine lv_iconst (pc := 33) (v := 0) hx hb dX1_areOfTwoSorts_33 (by decide) ?_
    have hf := Option.some.inj hf
    subst hf
    exact zk_retz (pc := 34) (b := false) (ww := [xSh a0 a1 a2 a3, xI cy a1 8 b_this.1, xI cy a2 8 b_this.2.1, xRJ cy a3 8 (fun j => [some a4, some a5, some a6, some a7, some a8, some a9, some a10, some a11].getD j none), xJ cy a4 40 ((b_this.2.2 0)), xJ cy a5 40 ((b_this.2.2 1)), xJ cy a6 40 ((b_this.2.2 2)), xJ cy a7 40 ((b_this.2.2 3)), xJ cy a8 40 ((b_this.2.2 4)), xJ cy a9 40 ((b_this.2.2 5)), xJ cy a10 40 ((b_this.2.2 6)), xJ cy a11 40 ((b_this.2.2 7))]) C hw hr hQ dX1_areOfTwoSorts_34
  · replace hf := if_t q2 hf
    refine lv_aload_n (pc := 8) hx hb dX1_areOfTwoSorts_8 rfl (lv_at hl 0 rfl) ?_
    refine lv_iload_n (pc := 9) hx hb dX1_areOfTwoSorts_9 rfl (lv_at hl 2 rfl) ?_
    obtain ⟨u3, u3e, hf⟩ := bd hf
    refine zk_cV (pc := 10) (ci := 1) (q0 := 0) (rest := []) (st1 := [.int (bI u3)]) (w' := [xSh a0 a1 a2 a3, xI cy a1 8 b_this.1, xI cy a2 8 b_this.2.1, xRJ cy a3 8 (fun j => [some a4, some a5, some a6, some a7, some a8, some a9, some a10, some a11].getD j none), xJ cy a4 40 ((b_this.2.2 0)), xJ cy a5 40 ((b_this.2.2 1)), xJ cy a6 40 ((b_this.2.2 2)), xJ cy a7 40 ((b_this.2.2 3)), xJ cy a8 40 ((b_this.2.2 4)), xJ cy a9 40 ((b_this.2.2 5)), xJ cy a10 40 ((b_this.2.2 6)), xJ cy a11 40 ((b_this.2.2 7))]) (mk := [none, none, none, none, none, none, none, none, none, none, none, none]) C hw (c_X1_holdsRow l G cy tt a0 a1 a2 a3 a4 a5 a6 a7 a8 a9 a10 a11 x2 b_this _ u3e) zy_X1_holdsRow zm_X1_31 rfl rfl rfl [0, 1, 2, 3, 4, 5, 6, 7, 8, 9, 10, 11] rfl rfl rfl rfl rfl rfl rfl rfl hl.1 ⟨rfl, rfl⟩ ⟨Nat.le_of_ble_eq_true rfl, Nat.le_of_ble_eq_true rfl⟩ rfl (Nat.le_of_ble_eq_true rfl) ⟨Nat.zero_le _, Nat.zero_le _⟩ dX1_areOfTwoSorts_10 (fun H locs hw => ?_)
    refine zk_ifz (pc := 13) (tgt := 33) hx hb dX1_areOfTwoSorts_13 (by decide) (fun q4 => ?_) (fun q4 => ?_)
    · replace hf := if_f q4 hf
      refine lv_iconst (pc := 33) (v := 0) hx hb dX1_areOfTwoSorts_33 (by decide) ?_
      have hf := Option.some.inj hf
      subst hf
      exact zk_retz (pc := 34) (b := false) (ww := [xSh a0 a1 a2 a3, xI cy a1 8 b_this.1, xI cy a2 8 b_this.2.1, xRJ cy a3 8 (fun j => [some a4, some a5, some a6, some a7, some a8, some a9, some a10, some a11].getD j none), xJ cy a4 40 ((b_this.2.2 0)), xJ cy a5 40 ((b_this.2.2 1)), xJ cy a6 40 ((b_this.2.2 2)), xJ cy a7 40 ((b_this.2.2 3)), xJ cy a8 40 ((b_this.2.2 4)), xJ cy a9 40 ((b_this.2.2 5)), xJ cy a10 40 ((b_this.2.2 6)), xJ cy a11 40 ((b_this.2.2 7))]) C hw hr hQ dX1_areOfTwoSorts_34
    · replace hf := if_t q4 hf
      refine lv_aload_n (pc := 16) hx hb dX1_areOfTwoSorts_16 rfl (lv_at hl 0 rfl) ?_
      refine lv_iload_n (pc := 17) hx hb dX1_areOfTwoSorts_17 rfl (lv_at hl 1 rfl) ?_
      obtain ⟨u5, u5e, hf⟩ := bd hf
      refine zk_cV (pc := 18) (ci := 1) (q0 := 0) (rest := []) (st1 := [.int u5]) (w' := [xSh a0 a1 a2 a3, xI cy a1 8 b_this.1, xI cy a2 8 b_this.2.1, xRJ cy a3 8 (fun j => [some a4, some a5, some a6, some a7, some a8, some a9, some a10, some a11].getD j none), xJ cy a4 40 ((b_this.2.2 0)), xJ cy a5 40 ((b_this.2.2 1)), xJ cy a6 40 ((b_this.2.2 2)), xJ cy a7 40 ((b_this.2.2 3)), xJ cy a8 40 ((b_this.2.2 4)), xJ cy a9 40 ((b_this.2.2 5)), xJ cy a10 40 ((b_this.2.2 6)), xJ cy a11 40 ((b_this.2.2 7))]) (mk := [none, none, none, none, none, none, none, none, none, none, none, none]) C hw (c_X1_contentOf l G cy tt a0 a1 a2 a3 a4 a5 a6 a7 a8 a9 a10 a11 x1 b_this _ u5e) zy_X1_contentOf zm_X1_23 rfl rfl rfl [0, 1, 2, 3, 4, 5, 6, 7, 8, 9, 10, 11] rfl rfl rfl rfl rfl rfl rfl rfl hl.1 ⟨rfl, rfl⟩ ⟨Nat.le_of_ble_eq_true rfl, Nat.le_of_ble_eq_true rfl⟩ rfl (Nat.le_of_ble_eq_true rfl) ⟨Nat.zero_le _, Nat.zero_le _⟩ dX1_areOfTwoSorts_18 (fun H locs hw => ?_)
      refine lv_aload_n (pc := 21) hx hb dX1_areOfTwoSorts_21 rfl (lv_at hl 0 rfl) ?_
      refine lv_iload_n (pc := 22) hx hb dX1_areOfTwoSorts_22 rfl (lv_at hl 2 rfl) ?_
      obtain ⟨u6, u6e, hf⟩ := bd hf
      refine zk_cV (pc := 23) (ci := 1) (q0 := 0) (rest := [.int u5]) (st1 := [.int u6, .int u5]) (w' := [xSh a0 a1 a2 a3, xI cy a1 8 b_this.1, xI cy a2 8 b_this.2.1, xRJ cy a3 8 (fun j => [some a4, some a5, some a6, some a7, some a8, some a9, some a10, some a11].getD j none), xJ cy a4 40 ((b_this.2.2 0)), xJ cy a5 40 ((b_this.2.2 1)), xJ cy a6 40 ((b_this.2.2 2)), xJ cy a7 40 ((b_this.2.2 3)), xJ cy a8 40 ((b_this.2.2 4)), xJ cy a9 40 ((b_this.2.2 5)), xJ cy a10 40 ((b_this.2.2 6)), xJ cy a11 40 ((b_this.2.2 7))]) (mk := [none, none, none, none, none, none, none, none, none, none, none, none]) C hw (c_X1_contentOf l G cy tt a0 a1 a2 a3 a4 a5 a6 a7 a8 a9 a10 a11 x2 b_this _ u6e) zy_X1_contentOf zm_X1_23 rfl rfl rfl [0, 1, 2, 3, 4, 5, 6, 7, 8, 9, 10, 11] rfl rfl rfl rfl rfl rfl rfl rfl hl.1 ⟨rfl, rfl⟩ ⟨Nat.le_of_ble_eq_true rfl, Nat.le_of_ble_eq_true rfl⟩ rfl (Nat.le_of_ble_eq_true rfl) ⟨Nat.zero_le _, Nat.zero_le _⟩ dX1_areOfTwoSorts_23 (fun H locs hw => ?_)
      refine lv_icmp_eq (pc := 26) (tgt := 33) hx hb dX1_areOfTwoSorts_26 (by decide) (fun q7 => ?_) (fun q7 => ?_)
      · replace hf := if_t q7 hf
        refine lv_iconst (pc := 33) (v := 0) hx hb dX1_areOfTwoSorts_33 (by decide) ?_
        have hf := Option.some.inj hf
        subst hf
        exact zk_retz (pc := 34) (b := false) (ww := [xSh a0 a1 a2 a3, xI cy a1 8 b_this.1, xI cy a2 8 b_this.2.1, xRJ cy a3 8 (fun j => [some a4, some a5, some a6, some a7, some a8, some a9, some a10, some a11].getD j none), xJ cy a4 40 ((b_this.2.2 0)), xJ cy a5 40 ((b_this.2.2 1)), xJ cy a6 40 ((b_this.2.2 2)), xJ cy a7 40 ((b_this.2.2 3)), xJ cy a8 40 ((b_this.2.2 4)), xJ cy a9 40 ((b_this.2.2 5)), xJ cy a10 40 ((b_this.2.2 6)), xJ cy a11 40 ((b_this.2.2 7))]) C hw hr hQ dX1_areOfTwoSorts_34
      · replace hf := if_f q7 hf
        refine lv_iconst (pc := 29) (v := 1) hx hb dX1_areOfTwoSorts_29 (by decide) ?_
        refine lv_goto (pc := 30) (tgt := 34) hx hb dX1_areOfTwoSorts_30 (by decide) ?_
        have hf := Option.some.inj hf
        subst hf
        exact zk_retz (pc := 34) (b := true) (ww := [xSh a0 a1 a2 a3, xI cy a1 8 b_this.1, xI cy a2 8 b_this.2.1, xRJ cy a3 8 (fun j => [some a4, some a5, some a6, some a7, some a8, some a9, some a10, some a11].getD j none), xJ cy a4 40 ((b_this.2.2 0)), xJ cy a5 40 ((b_this.2.2 1)), xJ cy a6 40 ((b_this.2.2 2)), xJ cy a7 40 ((b_this.2.2 3)), xJ cy a8 40 ((b_this.2.2 4)), xJ cy a9 40 ((b_this.2.2 5)), xJ cy a10 40 ((b_this.2.2 6)), xJ cy a11 40 ((b_this.2.2 7))]) C hw hr hQ dX1_areOfTwoSorts_34
def zf_X1_hasStretch (x1 : Int32) (x2 : Int32) (x3 : Int32) (b_this : TSh) : Option (Bool) := (Option.bind (zf_X1_holdsRow x1 b_this) (fun u1 => (if u1 then (if x3 < 0 then some (false) else (if x2 < 0 then some (false) else (if ix x1 8 then (if (b_this.2.1 x1.toNatClampNeg) < x2 then some (false) else (if ix x1 8 then (if ((b_this.2.1 x1.toNatClampNeg) - x2) < x3 then some (false) else some (true)) else none)) else none))) else some (false))))
abbrev zr_X1_hasStretch : Room := { frames := 2, cells := 0, slots := 0, locals := 43 }
set_option maxHeartbeats 4000000 in
set_option maxRecDepth 100000 in
theorem c_X1_hasStretch (l : Launch) (G : va_G) (cy : Nat → ClassId) (tt : Nat → Nat) (a0 a1 a2 a3 a4 a5 a6 a7 a8 a9 a10 a11 : Nat) (x1 : Int32) (x2 : Int32) (x3 : Int32) (b_this : TSh) (res : Bool) (hf : zf_X1_hasStretch x1 x2 x3 b_this = some res) : zCT l yX1_hasStretch cX1_hasStretch 4 (some .boolean) zr_X1_hasStretch G cy tt [.ref a0, .int x1, .int x2, .int x3] [xSh a0 a1 a2 a3, xI cy a1 8 b_this.1, xI cy a2 8 b_this.2.1, xRJ cy a3 8 (fun j => [some a4, some a5, some a6, some a7, some a8, some a9, some a10, some a11].getD j none), xJ cy a4 40 ((b_this.2.2 0)), xJ cy a5 40 ((b_this.2.2 1)), xJ cy a6 40 ((b_this.2.2 2)), xJ cy a7 40 ((b_this.2.2 3)), xJ cy a8 40 ((b_this.2.2 4)), xJ cy a9 40 ((b_this.2.2 5)), xJ cy a10 40 ((b_this.2.2 6)), xJ cy a11 40 ((b_this.2.2 7))] (some (.int (bI res))) [xSh a0 a1 a2 a3, xI cy a1 8 b_this.1, xI cy a2 8 b_this.2.1, xRJ cy a3 8 (fun j => [some a4, some a5, some a6, some a7, some a8, some a9, some a10, some a11].getD j none), xJ cy a4 40 ((b_this.2.2 0)), xJ cy a5 40 ((b_this.2.2 1)), xJ cy a6 40 ((b_this.2.2 2)), xJ cy a7 40 ((b_this.2.2 3)), xJ cy a8 40 ((b_this.2.2 4)), xJ cy a9 40 ((b_this.2.2 5)), xJ cy a10 40 ((b_this.2.2 6)), xJ cy a11 40 ((b_this.2.2 7))] := by
  refine zk_start zn_X1 (Nat.le_of_ble_eq_true rfl) ?_
  intro p e s m args below meth c A ls Q C hr hQ hw hl
  have C : zCx p m c s args meth cX1_hasStretch 4 RX1 G cy tt A := C
  have hx := C.1.1
  have hb := C.1.2.1
  have hl : lv_has ls 4 [(0, .ref a0), (1, .int x1), (2, .int x2), (3, .int x3)] := hl
  rw [zf_X1_hasStretch] at hf
  refine lv_aload_n (pc := 0) hx hb dX1_hasStretch_0 rfl (lv_at hl 0 rfl) ?_
  refine lv_iload_n (pc := 1) hx hb dX1_hasStretch_1 rfl (lv_at hl 1 rfl) ?_
  obtain ⟨u1, u1e, hf⟩ := bd hf
  refine zk_cV (pc := 2) (ci := 1) (q0 := 0) (rest := []) (st1 := [.int (bI u1)]) (w' := [xSh a0 a1 a2 a3, xI cy a1 8 b_this.1, xI cy a2 8 b_this.2.1, xRJ cy a3 8 (fun j => [some a4, some a5, some a6, some a7, some a8, some a9, some a10, some a11].getD j none), xJ cy a4 40 ((b_this.2.2 0)), xJ cy a5 40 ((b_this.2.2 1)), xJ cy a6 40 ((b_this.2.2 2)), xJ cy a7 40 ((b_this.2.2 3)), xJ cy a8 40 ((b_this.2.2 4)), xJ cy a9 40 ((b_this.2.2 5)), xJ cy a10 40 ((b_this.2.2 6)), xJ cy a11 40 ((b_this.2.2 7))]) (mk := [none, none, none, none, none, none, none, none, none, none, none, none]) C hw (c_X1_holdsRow l G cy tt a0 a1 a2 a3 a4 a5 a6 a7 a8 a9 a10 a11 x1 b_this _ u1e) zy_X1_holdsRow zm_X1_31 rfl rfl rfl [0, 1, 2, 3, 4, 5, 6, 7, 8, 9, 10, 11] rfl rfl rfl rfl rfl rfl rfl rfl hl.1 ⟨rfl, rfl⟩ ⟨Nat.le_of_ble_eq_true rfl, Nat.le_of_ble_eq_true rfl⟩ rfl (Nat.le_of_ble_eq_true rfl) ⟨Nat.zero_le _, Nat.zero_le _⟩ dX1_hasStretch_2 (fun H locs hw => ?_)
  refine zk_ifz (pc := 5) (tgt := 42) hx hb dX1_hasStretch_5 (by decide) (fun q2 => ?_) (fun q2 => ?_)
  · replace hf := if_f q2 hf
    refine lv_iconst (pc := 42) (v := 0) hx hb dX1_hasStretch_42 (by decide) ?_
    have hf := Option.some.inj hf
    subst hf
    exact zk_retz (pc := 43) (b := false) (ww := [xSh a0 a1 a2 a3, xI cy a1 8 b_this.1, xI cy a2 8 b_this.2.1, xRJ cy a3 8 (fun j => [some a4, some a5, some a6, some a7, some a8, some a9, some a10, some a11].getD j none), xJ cy a4 40 ((b_this.2.2 0)), xJ cy a5 40 ((b_this.2.2 1)), xJ cy a6 40 ((b_this.2.2 2)), xJ cy a7 40 ((b_this.2.2 3)), xJ cy a8 40 ((b_this.2.2 4)), xJ cy a9 40 ((b_this.2.2 5)), xJ cy a10 40 ((b_this.2.2 6)), xJ cy a11 40 ((b_this.2.2 7))]) C hw hr hQ dX1_hasStretch_43
  · replace hf := if_t q2 hf
    refine lv_iload_n (pc := 8) hx hb dX1_hasStretch_8 rfl (lv_at hl 3 rfl) ?_
    refine lv_if_lt (pc := 9) (tgt := 42) hx hb dX1_hasStretch_9 (by decide) (fun q3 => ?_) (fun q3 => ?_)
    · replace hf := if_t q3 hf
      refine lv_iconst (pc := 42) (v := 0) hx hb dX1_hasStretch_42 (by decide) ?_
      have hf := Option.some.inj hf
      subst hf
      exact zk_retz (pc := 43) (b := false) (ww := [xSh a0 a1 a2 a3, xI cy a1 8 b_this.1, xI cy a2 8 b_this.2.1, xRJ cy a3 8 (fun j => [some a4, some a5, some a6, some a7, some a8, some a9, some a10, some a11].getD j none), xJ cy a4 40 ((b_this.2.2 0)), xJ cy a5 40 ((b_this.2.2 1)), xJ cy a6 40 ((b_this.2.2 2)), xJ cy a7 40 ((b_this.2.2 3)), xJ cy a8 40 ((b_this.2.2 4)), xJ cy a9 40 ((b_this.2.2 5)), xJ cy a10 40 ((b_this.2.2 6)), xJ cy a11 40 ((b_this.2.2 7))]) C hw hr hQ dX1_hasStretch_43
    · replace hf := if_f q3 hf
      refine lv_iload_n (pc := 12) hx hb dX1_hasStretch_12 rfl (lv_at hl 2 rfl) ?_
      refine lv_if_lt (pc := 13) (tgt := 42) hx hb dX1_hasStretch_13 (by decide) (fun q4 => ?_) (fun q4 => ?_)
      · replace hf := if_t q4 hf
        refine lv_iconst (pc := 42) (v := 0) hx hb dX1_hasStretch_42 (by decide) ?_
        have hf := Option.some.inj hf
        subst hf
        exact zk_retz (pc := 43) (b := false) (ww := [xSh a0 a1 a2 a3, xI cy a1 8 b_this.1, xI cy a2 8 b_this.2.1, xRJ cy a3 8 (fun j => [some a4, some a5, some a6, some a7, some a8, some a9, some a10, some a11].getD j none), xJ cy a4 40 ((b_this.2.2 0)), xJ cy a5 40 ((b_this.2.2 1)), xJ cy a6 40 ((b_this.2.2 2)), xJ cy a7 40 ((b_this.2.2 3)), xJ cy a8 40 ((b_this.2.2 4)), xJ cy a9 40 ((b_this.2.2 5)), xJ cy a10 40 ((b_this.2.2 6)), xJ cy a11 40 ((b_this.2.2 7))]) C hw hr hQ dX1_hasStretch_43
      · replace hf := if_f q4 hf
        refine lv_iload_n (pc := 16) hx hb dX1_hasStretch_16 rfl (lv_at hl 2 rfl) ?_
        refine lv_aload_n (pc := 17) hx hb dX1_hasStretch_17 rfl (lv_at hl 0 rfl) ?_
        refine zk_gt (pc := 18) C hw zl_X1_15 0 rfl rfl dX1_hasStretch_18 ?_
        refine lv_iload_n (pc := 21) hx hb dX1_hasStretch_21 rfl (lv_at hl 1 rfl) ?_
        obtain ⟨q5, hf⟩ := ck hf
        refine zk_iald (pc := 22) C hw 2 rfl q5 dX1_hasStretch_22 ?_
        refine lv_icmp_gt (pc := 23) (tgt := 42) hx hb dX1_hasStretch_23 (by decide) (fun q6 => ?_) (fun q6 => ?_)
        · replace hf := if_t q6 hf
          refine lv_iconst (pc := 42) (v := 0) hx hb dX1_hasStretch_42 (by decide) ?_
          have hf := Option.some.inj hf
          subst hf
          exact zk_retz (pc := 43) (b := false) (ww := [xSh a0 a1 a2 a3, xI cy a1 8 b_this.1, xI cy a2 8 b_this.2.1, xRJ cy a3 8 (fun j => [some a4, some a5, some a6, some a7, some a8, some a9, some a10, some a11].getD j none), xJ cy a4 40 ((b_this.2.2 0)), xJ cy a5 40 ((b_this.2.2 1)), xJ cy a6 40 ((b_this.2.2 2)), xJ cy a7 40 ((b_this.2.2 3)), xJ cy a8 40 ((b_this.2.2 4)), xJ cy a9 40 ((b_this.2.2 5)), xJ cy a10 40 ((b_this.2.2 6)), xJ cy a11 40 ((b_this.2.2 7))]) C hw hr hQ dX1_hasStretch_43
        · replace hf := if_f q6 hf
          refine lv_iload_n (pc := 26) hx hb dX1_hasStretch_26 rfl (lv_at hl 3 rfl) ?_
          refine lv_aload_n (pc := 27) hx hb dX1_hasStretch_27 rfl (lv_at hl 0 rfl) ?_
          refine zk_gt (pc := 28) C hw zl_X1_15 0 rfl rfl dX1_hasStretch_28 ?_
          refine lv_iload_n (pc := 31) hx hb dX1_hasStretch_31 rfl (lv_at hl 1 rfl) ?_
          obtain ⟨q7, hf⟩ := ck hf
          refine zk_iald (pc := 32) C hw 2 rfl q7 dX1_hasStretch_32 ?_
          refine lv_iload_n (pc := 33) hx hb dX1_hasStretch_33 rfl (lv_at hl 2 rfl) ?_
          refine lv_isub (pc := 34) hx hb dX1_hasStretch_34 ?_
          refine lv_icmp_gt (pc := 35) (tgt := 42) hx hb dX1_hasStretch_35 (by decide) (fun q8 => ?_) (fun q8 => ?_)
          · replace hf := if_t q8 hf
            refine lv_iconst (pc := 42) (v := 0) hx hb dX1_hasStretch_42 (by decide) ?_
            have hf := Option.some.inj hf
            subst hf
            exact zk_retz (pc := 43) (b := false) (ww := [xSh a0 a1 a2 a3, xI cy a1 8 b_this.1, xI cy a2 8 b_this.2.1, xRJ cy a3 8 (fun j => [some a4, some a5, some a6, some a7, some a8, some a9, some a10, some a11].getD j none), xJ cy a4 40 ((b_this.2.2 0)), xJ cy a5 40 ((b_this.2.2 1)), xJ cy a6 40 ((b_this.2.2 2)), xJ cy a7 40 ((b_this.2.2 3)), xJ cy a8 40 ((b_this.2.2 4)), xJ cy a9 40 ((b_this.2.2 5)), xJ cy a10 40 ((b_this.2.2 6)), xJ cy a11 40 ((b_this.2.2 7))]) C hw hr hQ dX1_hasStretch_43
          · replace hf := if_f q8 hf
            refine lv_iconst (pc := 38) (v := 1) hx hb dX1_hasStretch_38 (by decide) ?_
            refine lv_goto (pc := 39) (tgt := 43) hx hb dX1_hasStretch_39 (by decide) ?_
            have hf := Option.some.inj hf
            subst hf
            exact zk_retz (pc := 43) (b := true) (ww := [xSh a0 a1 a2 a3, xI cy a1 8 b_this.1, xI cy a2 8 b_this.2.1, xRJ cy a3 8 (fun j => [some a4, some a5, some a6, some a7, some a8, some a9, some a10, some a11].getD j none), xJ cy a4 40 ((b_this.2.2 0)), xJ cy a5 40 ((b_this.2.2 1)), xJ cy a6 40 ((b_this.2.2 2)), xJ cy a7 40 ((b_this.2.2 3)), xJ cy a8 40 ((b_this.2.2 4)), xJ cy a9 40 ((b_this.2.2 5)), xJ cy a10 40 ((b_this.2.2 6)), xJ cy a11 40 ((b_this.2.2 7))]) C hw hr hQ dX1_hasStretch_43
def zf_X1_moveStretch (x1 : Int32) (x2 : Int32) (x3 : Int32) (x4 : Int32) (x5 : Int32) (b_this : TSh) : Option (TSh) := (Option.bind (zf_X1_hasStretch x1 x3 x5 b_this) (fun u1 => (if u1 then (Option.bind (zf_X1_hasStretch x2 x4 x5 b_this) (fun u3 => (if u3 then (if ix x1 8 then (if ix x2 8 then (if cpOk x3 x4 x5 40 40 then some ((b_this.1, b_this.2.1, (va_up b_this.2.2 x2.toNatClampNeg ((va_cpy ((b_this.2.2 x1.toNatClampNeg)) ((b_this.2.2 x2.toNatClampNeg)) x3.toNatClampNeg x4.toNatClampNeg x5.toNatClampNeg))))) else none) else none) else none) else some (b_this)))) else some (b_this))))
abbrev zr_X1_moveStretch : Room := { frames := 3, cells := 0, slots := 0, locals := 66 }
set_option maxHeartbeats 4000000 in
set_option maxRecDepth 100000 in
theorem c_X1_moveStretch (l : Launch) (G : va_G) (cy : Nat → ClassId) (tt : Nat → Nat) (a0 a1 a2 a3 a4 a5 a6 a7 a8 a9 a10 a11 : Nat) (x1 : Int32) (x2 : Int32) (x3 : Int32) (x4 : Int32) (x5 : Int32) (b_this : TSh) (res : TSh) (hf : zf_X1_moveStretch x1 x2 x3 x4 x5 b_this = some res) : zCT l yX1_moveStretch cX1_moveStretch 6 none zr_X1_moveStretch G cy tt [.ref a0, .int x1, .int x2, .int x3, .int x4, .int x5] [xSh a0 a1 a2 a3, xI cy a1 8 b_this.1, xI cy a2 8 b_this.2.1, xRJ cy a3 8 (fun j => [some a4, some a5, some a6, some a7, some a8, some a9, some a10, some a11].getD j none), xJ cy a4 40 ((b_this.2.2 0)), xJ cy a5 40 ((b_this.2.2 1)), xJ cy a6 40 ((b_this.2.2 2)), xJ cy a7 40 ((b_this.2.2 3)), xJ cy a8 40 ((b_this.2.2 4)), xJ cy a9 40 ((b_this.2.2 5)), xJ cy a10 40 ((b_this.2.2 6)), xJ cy a11 40 ((b_this.2.2 7))] none [xSh a0 a1 a2 a3, xI cy a1 8 res.1, xI cy a2 8 res.2.1, xRJ cy a3 8 (fun j => [some a4, some a5, some a6, some a7, some a8, some a9, some a10, some a11].getD j none), xJ cy a4 40 ((res.2.2 0)), xJ cy a5 40 ((res.2.2 1)), xJ cy a6 40 ((res.2.2 2)), xJ cy a7 40 ((res.2.2 3)), xJ cy a8 40 ((res.2.2 4)), xJ cy a9 40 ((res.2.2 5)), xJ cy a10 40 ((res.2.2 6)), xJ cy a11 40 ((res.2.2 7))] := by
  refine zk_start zn_X1 (Nat.le_of_ble_eq_true rfl) ?_
  intro p e s m args below meth c A ls Q C hr hQ hw hl
  have C : zCx p m c s args meth cX1_moveStretch 6 RX1 G cy tt A := C
  have hx := C.1.1
  have hb := C.1.2.1
  have hl : lv_has ls 6 [(0, .ref a0), (1, .int x1), (2, .int x2), (3, .int x3), (4, .int x4), (5, .int x5)] := hl
  rw [zf_X1_moveStretch] at hf
  refine lv_aload_n (pc := 0) hx hb dX1_moveStretch_0 rfl (lv_at hl 0 rfl) ?_
  refine lv_iload_n (pc := 1) hx hb dX1_moveStretch_1 rfl (lv_at hl 1 rfl) ?_
  refine lv_iload_n (pc := 2) hx hb dX1_moveStretch_2 rfl (lv_at hl 3 rfl) ?_
  refine lv_iload (pc := 3) hx hb dX1_moveStretch_3 (lv_at hl 5 rfl) ?_
  obtain ⟨u1, u1e, hf⟩ := bd hf
  refine zk_cV (pc := 5) (ci := 1) (q0 := 0) (rest := []) (st1 := [.int (bI u1)]) (w' := [xSh a0 a1 a2 a3, xI cy a1 8 b_this.1, xI cy a2 8 b_this.2.1, xRJ cy a3 8 (fun j => [some a4, some a5, some a6, some a7, some a8, some a9, some a10, some a11].getD j none), xJ cy a4 40 ((b_this.2.2 0)), xJ cy a5 40 ((b_this.2.2 1)), xJ cy a6 40 ((b_this.2.2 2)), xJ cy a7 40 ((b_this.2.2 3)), xJ cy a8 40 ((b_this.2.2 4)), xJ cy a9 40 ((b_this.2.2 5)), xJ cy a10 40 ((b_this.2.2 6)), xJ cy a11 40 ((b_this.2.2 7))]) (mk := [none, none, none, none, none, none, none, none, none, none, none, none]) C hw (c_X1_hasStretch l G cy tt a0 a1 a2 a3 a4 a5 a6 a7 a8 a9 a10 a11 x1 x3 x5 b_this _ u1e) zy_X1_hasStretch zm_X1_46 rfl rfl rfl [0, 1, 2, 3, 4, 5, 6, 7, 8, 9, 10, 11] rfl rfl rfl rfl rfl rfl rfl rfl hl.1 ⟨rfl, rfl⟩ ⟨Nat.le_of_ble_eq_true rfl, Nat.le_of_ble_eq_true rfl⟩ rfl (Nat.le_of_ble_eq_true rfl) ⟨Nat.zero_le _, Nat.zero_le _⟩ dX1_moveStretch_5 (fun H locs hw => ?_)
  refine zk_ifz (pc := 8) (tgt := 43) hx hb dX1_moveStretch_8 (by decide) (fun q2 => ?_) (fun q2 => ?_)
  · replace hf := if_f q2 hf
    have hf := Option.some.inj hf
    subst hf
    exact zk_retv (pc := 43) (ww := [xSh a0 a1 a2 a3, xI cy a1 8 b_this.1, xI cy a2 8 b_this.2.1, xRJ cy a3 8 (fun j => [some a4, some a5, some a6, some a7, some a8, some a9, some a10, some a11].getD j none), xJ cy a4 40 ((b_this.2.2 0)), xJ cy a5 40 ((b_this.2.2 1)), xJ cy a6 40 ((b_this.2.2 2)), xJ cy a7 40 ((b_this.2.2 3)), xJ cy a8 40 ((b_this.2.2 4)), xJ cy a9 40 ((b_this.2.2 5)), xJ cy a10 40 ((b_this.2.2 6)), xJ cy a11 40 ((b_this.2.2 7))]) C hw hr hQ dX1_moveStretch_43
  · replace hf := if_t q2 hf
    refine lv_aload_n (pc := 11) hx hb dX1_moveStretch_11 rfl (lv_at hl 0 rfl) ?_
    refine lv_iload_n (pc := 12) hx hb dX1_moveStretch_12 rfl (lv_at hl 2 rfl) ?_
    refine lv_iload (pc := 13) hx hb dX1_moveStretch_13 (lv_at hl 4 rfl) ?_
    refine lv_iload (pc := 15) hx hb dX1_moveStretch_15 (lv_at hl 5 rfl) ?_
    obtain ⟨u3, u3e, hf⟩ := bd hf
    refine zk_cV (pc := 17) (ci := 1) (q0 := 0) (rest := []) (st1 := [.int (bI u3)]) (w' := [xSh a0 a1 a2 a3, xI cy a1 8 b_this.1, xI cy a2 8 b_this.2.1, xRJ cy a3 8 (fun j => [some a4, some a5, some a6, some a7, some a8, some a9, some a10, some a11].getD j none), xJ cy a4 40 ((b_this.2.2 0)), xJ cy a5 40 ((b_this.2.2 1)), xJ cy a6 40 ((b_this.2.2 2)), xJ cy a7 40 ((b_this.2.2 3)), xJ cy a8 40 ((b_this.2.2 4)), xJ cy a9 40 ((b_this.2.2 5)), xJ cy a10 40 ((b_this.2.2 6)), xJ cy a11 40 ((b_this.2.2 7))]) (mk := [none, none, none, none, none, none, none, none, none, none, none, none]) C hw (c_X1_hasStretch l G cy tt a0 a1 a2 a3 a4 a5 a6 a7 a8 a9 a10 a11 x2 x4 x5 b_this _ u3e) zy_X1_hasStretch zm_X1_46 rfl rfl rfl [0, 1, 2, 3, 4, 5, 6, 7, 8, 9, 10, 11] rfl rfl rfl rfl rfl rfl rfl rfl hl.1 ⟨rfl, rfl⟩ ⟨Nat.le_of_ble_eq_true rfl, Nat.le_of_ble_eq_true rfl⟩ rfl (Nat.le_of_ble_eq_true rfl) ⟨Nat.zero_le _, Nat.zero_le _⟩ dX1_moveStretch_17 (fun H locs hw => ?_)
    refine zk_ifz (pc := 20) (tgt := 43) hx hb dX1_moveStretch_20 (by decide) (fun q4 => ?_) (fun q4 => ?_)
    · replace hf := if_f q4 hf
      have hf := Option.some.inj hf
      subst hf
      exact zk_retv (pc := 43) (ww := [xSh a0 a1 a2 a3, xI cy a1 8 b_this.1, xI cy a2 8 b_this.2.1, xRJ cy a3 8 (fun j => [some a4, some a5, some a6, some a7, some a8, some a9, some a10, some a11].getD j none), xJ cy a4 40 ((b_this.2.2 0)), xJ cy a5 40 ((b_this.2.2 1)), xJ cy a6 40 ((b_this.2.2 2)), xJ cy a7 40 ((b_this.2.2 3)), xJ cy a8 40 ((b_this.2.2 4)), xJ cy a9 40 ((b_this.2.2 5)), xJ cy a10 40 ((b_this.2.2 6)), xJ cy a11 40 ((b_this.2.2 7))]) C hw hr hQ dX1_moveStretch_43
    · replace hf := if_t q4 hf
      refine lv_aload_n (pc := 23) hx hb dX1_moveStretch_23 rfl (lv_at hl 0 rfl) ?_
      refine zk_gt (pc := 24) C hw zl_X1_20 0 rfl rfl dX1_moveStretch_24 ?_
      refine lv_iload_n (pc := 27) hx hb dX1_moveStretch_27 rfl (lv_at hl 1 rfl) ?_
      obtain ⟨q5, hf⟩ := ck hf
      rcases ix8 q5 with e6 | e6 | e6 | e6 | e6 | e6 | e6 | e6
      · rw [e6] at hf
        refine zk_aaldJ (pc := 28) (a' := a4) 0 e6 C hw 3 rfl q5 rfl dX1_moveStretch_28 ?_
        refine lv_iload_n (pc := 29) hx hb dX1_moveStretch_29 rfl (lv_at hl 3 rfl) ?_
        refine lv_aload_n (pc := 30) hx hb dX1_moveStretch_30 rfl (lv_at hl 0 rfl) ?_
        refine zk_gt (pc := 31) C hw zl_X1_20 0 rfl rfl dX1_moveStretch_31 ?_
        refine lv_iload_n (pc := 34) hx hb dX1_moveStretch_34 rfl (lv_at hl 2 rfl) ?_
        obtain ⟨q18, hf⟩ := ck hf
        rcases ix8 q18 with e19 | e19 | e19 | e19 | e19 | e19 | e19 | e19
        · rw [e19] at hf
          refine zk_aaldJ (pc := 35) (a' := a4) 0 e19 C hw 3 rfl q18 rfl dX1_moveStretch_35 ?_
          refine lv_iload (pc := 36) hx hb dX1_moveStretch_36 (lv_at hl 4 rfl) ?_
          refine lv_iload (pc := 38) hx hb dX1_moveStretch_38 (lv_at hl 5 rfl) ?_
          obtain ⟨q21, hf⟩ := ck hf
          refine zk_copyJ (pc := 40) (w' := [xSh a0 a1 a2 a3, xI cy a1 8 b_this.1, xI cy a2 8 b_this.2.1, xRJ cy a3 8 (fun j => [some a4, some a5, some a6, some a7, some a8, some a9, some a10, some a11].getD j none), xJ cy a4 40 ((va_cpy ((b_this.2.2 0)) ((b_this.2.2 0)) x3.toNatClampNeg x4.toNatClampNeg x5.toNatClampNeg)), xJ cy a5 40 ((b_this.2.2 1)), xJ cy a6 40 ((b_this.2.2 2)), xJ cy a7 40 ((b_this.2.2 3)), xJ cy a8 40 ((b_this.2.2 4)), xJ cy a9 40 ((b_this.2.2 5)), xJ cy a10 40 ((b_this.2.2 6)), xJ cy a11 40 ((b_this.2.2 7))]) C hw hl.1 zm_X1_49 4 4 rfl rfl q21 ⟨Nat.le_of_ble_eq_true rfl, Nat.le_of_ble_eq_true rfl⟩ rfl dX1_moveStretch_40 (fun H locs hw => ?_)
          have hf := Option.some.inj hf
          subst hf
          exact zk_retv (pc := 43) (ww := [xSh a0 a1 a2 a3, xI cy a1 8 b_this.1, xI cy a2 8 b_this.2.1, xRJ cy a3 8 (fun j => [some a4, some a5, some a6, some a7, some a8, some a9, some a10, some a11].getD j none), xJ cy a4 40 ((va_cpy ((b_this.2.2 0)) ((b_this.2.2 0)) x3.toNatClampNeg x4.toNatClampNeg x5.toNatClampNeg)), xJ cy a5 40 ((b_this.2.2 1)), xJ cy a6 40 ((b_this.2.2 2)), xJ cy a7 40 ((b_this.2.2 3)), xJ cy a8 40 ((b_this.2.2 4)), xJ cy a9 40 ((b_this.2.2 5)), xJ cy a10 40 ((b_this.2.2 6)), xJ cy a11 40 ((b_this.2.2 7))]) C hw hr hQ dX1_moveStretch_43
        · rw [e19] at hf
          refine zk_aaldJ (pc := 35) (a' := a5) 1 e19 C hw 3 rfl q18 rfl dX1_moveStretch_35 ?_
          refine lv_iload (pc := 36) hx hb dX1_moveStretch_36 (lv_at hl 4 rfl) ?_
          refine lv_iload (pc := 38) hx hb dX1_moveStretch_38 (lv_at hl 5 rfl) ?_
          obtain ⟨q22, hf⟩ := ck hf
          refine zk_copyJ (pc := 40) (w' := [xSh a0 a1 a2 a3, xI cy a1 8 b_this.1, xI cy a2 8 b_this.2.1, xRJ cy a3 8 (fun j => [some a4, some a5, some a6, some a7, some a8, some a9, some a10, some a11].getD j none), xJ cy a4 40 ((b_this.2.2 0)), xJ cy a5 40 ((va_cpy ((b_this.2.2 0)) ((b_this.2.2 1)) x3.toNatClampNeg x4.toNatClampNeg x5.toNatClampNeg)), xJ cy a6 40 ((b_this.2.2 2)), xJ cy a7 40 ((b_this.2.2 3)), xJ cy a8 40 ((b_this.2.2 4)), xJ cy a9 40 ((b_this.2.2 5)), xJ cy a10 40 ((b_this.2.2 6)), xJ cy a11 40 ((b_this.2.2 7))]) C hw hl.1 zm_X1_49 4 5 rfl rfl q22 ⟨Nat.le_of_ble_eq_true rfl, Nat.le_of_ble_eq_true rfl⟩ rfl dX1_moveStretch_40 (fun H locs hw => ?_)
          have hf := Option.some.inj hf
          subst hf
          exact zk_retv (pc := 43) (ww := [xSh a0 a1 a2 a3, xI cy a1 8 b_this.1, xI cy a2 8 b_this.2.1, xRJ cy a3 8 (fun j => [some a4, some a5, some a6, some a7, some a8, some a9, some a10, some a11].getD j none), xJ cy a4 40 ((b_this.2.2 0)), xJ cy a5 40 ((va_cpy ((b_this.2.2 0)) ((b_this.2.2 1)) x3.toNatClampNeg x4.toNatClampNeg x5.toNatClampNeg)), xJ cy a6 40 ((b_this.2.2 2)), xJ cy a7 40 ((b_this.2.2 3)), xJ cy a8 40 ((b_this.2.2 4)), xJ cy a9 40 ((b_this.2.2 5)), xJ cy a10 40 ((b_this.2.2 6)), xJ cy a11 40 ((b_this.2.2 7))]) C hw hr hQ dX1_moveStretch_43
        · rw [e19] at hf
          refine zk_aaldJ (pc := 35) (a' := a6) 2 e19 C hw 3 rfl q18 rfl dX1_moveStretch_35 ?_
          refine lv_iload (pc := 36) hx hb dX1_moveStretch_36 (lv_at hl 4 rfl) ?_
          refine lv_iload (pc := 38) hx hb dX1_moveStretch_38 (lv_at hl 5 rfl) ?_
          obtain ⟨q23, hf⟩ := ck hf
          refine zk_copyJ (pc := 40) (w' := [xSh a0 a1 a2 a3, xI cy a1 8 b_this.1, xI cy a2 8 b_this.2.1, xRJ cy a3 8 (fun j => [some a4, some a5, some a6, some a7, some a8, some a9, some a10, some a11].getD j none), xJ cy a4 40 ((b_this.2.2 0)), xJ cy a5 40 ((b_this.2.2 1)), xJ cy a6 40 ((va_cpy ((b_this.2.2 0)) ((b_this.2.2 2)) x3.toNatClampNeg x4.toNatClampNeg x5.toNatClampNeg)), xJ cy a7 40 ((b_this.2.2 3)), xJ cy a8 40 ((b_this.2.2 4)), xJ cy a9 40 ((b_this.2.2 5)), xJ cy a10 40 ((b_this.2.2 6)), xJ cy a11 40 ((b_this.2.2 7))]) C hw hl.1 zm_X1_49 4 6 rfl rfl q23 ⟨Nat.le_of_ble_eq_true rfl, Nat.le_of_ble_eq_true rfl⟩ rfl dX1_moveStretch_40 (fun H locs hw => ?_)
          have hf := Option.some.inj hf
          subst hf
          exact zk_retv (pc := 43) (ww := [xSh a0 a1 a2 a3, xI cy a1 8 b_this.1, xI cy a2 8 b_this.2.1, xRJ cy a3 8 (fun j => [some a4, some a5, some a6, some a7, some a8, some a9, some a10, some a11].getD j none), xJ cy a4 40 ((b_this.2.2 0)), xJ cy a5 40 ((b_this.2.2 1)), xJ cy a6 40 ((va_cpy ((b_this.2.2 0)) ((b_this.2.2 2)) x3.toNatClampNeg x4.toNatClampNeg x5.toNatClampNeg)), xJ cy a7 40 ((b_this.2.2 3)), xJ cy a8 40 ((b_this.2.2 4)), xJ cy a9 40 ((b_this.2.2 5)), xJ cy a10 40 ((b_this.2.2 6)), xJ cy a11 40 ((b_this.2.2 7))]) C hw hr hQ dX1_moveStretch_43
        · rw [e19] at hf
          refine zk_aaldJ (pc := 35) (a' := a7) 3 e19 C hw 3 rfl q18 rfl dX1_moveStretch_35 ?_
          refine lv_iload (pc := 36) hx hb dX1_moveStretch_36 (lv_at hl 4 rfl) ?_
          refine lv_iload (pc := 38) hx hb dX1_moveStretch_38 (lv_at hl 5 rfl) ?_
          obtain ⟨q24, hf⟩ := ck hf
          refine zk_copyJ (pc := 40) (w' := [xSh a0 a1 a2 a3, xI cy a1 8 b_this.1, xI cy a2 8 b_this.2.1, xRJ cy a3 8 (fun j => [some a4, some a5, some a6, some a7, some a8, some a9, some a10, some a11].getD j none), xJ cy a4 40 ((b_this.2.2 0)), xJ cy a5 40 ((b_this.2.2 1)), xJ cy a6 40 ((b_this.2.2 2)), xJ cy a7 40 ((va_cpy ((b_this.2.2 0)) ((b_this.2.2 3)) x3.toNatClampNeg x4.toNatClampNeg x5.toNatClampNeg)), xJ cy a8 40 ((b_this.2.2 4)), xJ cy a9 40 ((b_this.2.2 5)), xJ cy a10 40 ((b_this.2.2 6)), xJ cy a11 40 ((b_this.2.2 7))]) C hw hl.1 zm_X1_49 4 7 rfl rfl q24 ⟨Nat.le_of_ble_eq_true rfl, Nat.le_of_ble_eq_true rfl⟩ rfl dX1_moveStretch_40 (fun H locs hw => ?_)
          have hf := Option.some.inj hf
          subst hf
          exact zk_retv (pc := 43) (ww := [xSh a0 a1 a2 a3, xI cy a1 8 b_this.1, xI cy a2 8 b_this.2.1, xRJ cy a3 8 (fun j => [some a4, some a5, some a6, some a7, some a8, some a9, some a10, some a11].getD j none), xJ cy a4 40 ((b_this.2.2 0)), xJ cy a5 40 ((b_this.2.2 1)), xJ cy a6 40 ((b_this.2.2 2)), xJ cy a7 40 ((va_cpy ((b_this.2.2 0)) ((b_this.2.2 3)) x3.toNatClampNeg x4.toNatClampNeg x5.toNatClampNeg)), xJ cy a8 40 ((b_this.2.2 4)), xJ cy a9 40 ((b_this.2.2 5)), xJ cy a10 40 ((b_this.2.2 6)), xJ cy a11 40 ((b_this.2.2 7))]) C hw hr hQ dX1_moveStretch_43
        · rw [e19] at hf
          refine zk_aaldJ (pc := 35) (a' := a8) 4 e19 C hw 3 rfl q18 rfl dX1_moveStretch_35 ?_
          refine lv_iload (pc := 36) hx hb dX1_moveStretch_36 (lv_at hl 4 rfl) ?_
          refine lv_iload (pc := 38) hx hb dX1_moveStretch_38 (lv_at hl 5 rfl) ?_
          obtain ⟨q25, hf⟩ := ck hf
          refine zk_copyJ (pc := 40) (w' := [xSh a0 a1 a2 a3, xI cy a1 8 b_this.1, xI cy a2 8 b_this.2.1, xRJ cy a3 8 (fun j => [some a4, some a5, some a6, some a7, some a8, some a9, some a10, some a11].getD j none), xJ cy a4 40 ((b_this.2.2 0)), xJ cy a5 40 ((b_this.2.2 1)), xJ cy a6 40 ((b_this.2.2 2)), xJ cy a7 40 ((b_this.2.2 3)), xJ cy a8 40 ((va_cpy ((b_this.2.2 0)) ((b_this.2.2 4)) x3.toNatClampNeg x4.toNatClampNeg x5.toNatClampNeg)), xJ cy a9 40 ((b_this.2.2 5)), xJ cy a10 40 ((b_this.2.2 6)), xJ cy a11 40 ((b_this.2.2 7))]) C hw hl.1 zm_X1_49 4 8 rfl rfl q25 ⟨Nat.le_of_ble_eq_true rfl, Nat.le_of_ble_eq_true rfl⟩ rfl dX1_moveStretch_40 (fun H locs hw => ?_)
          have hf := Option.some.inj hf
          subst hf
          exact zk_retv (pc := 43) (ww := [xSh a0 a1 a2 a3, xI cy a1 8 b_this.1, xI cy a2 8 b_this.2.1, xRJ cy a3 8 (fun j => [some a4, some a5, some a6, some a7, some a8, some a9, some a10, some a11].getD j none), xJ cy a4 40 ((b_this.2.2 0)), xJ cy a5 40 ((b_this.2.2 1)), xJ cy a6 40 ((b_this.2.2 2)), xJ cy a7 40 ((b_this.2.2 3)), xJ cy a8 40 ((va_cpy ((b_this.2.2 0)) ((b_this.2.2 4)) x3.toNatClampNeg x4.toNatClampNeg x5.toNatClampNeg)), xJ cy a9 40 ((b_this.2.2 5)), xJ cy a10 40 ((b_this.2.2 6)), xJ cy a11 40 ((b_this.2.2 7))]) C hw hr hQ dX1_moveStretch_43
        · rw [e19] at hf
          refine zk_aaldJ (pc := 35) (a' := a9) 5 e19 C hw 3 rfl q18 rfl dX1_moveStretch_35 ?_
          refine lv_iload (pc := 36) hx hb dX1_moveStretch_36 (lv_at hl 4 rfl) ?_
          refine lv_iload (pc := 38) hx hb dX1_moveStretch_38 (lv_at hl 5 rfl) ?_
          obtain ⟨q26, hf⟩ := ck hf
          refine zk_copyJ (pc := 40) (w' := [xSh a0 a1 a2 a3, xI cy a1 8 b_this.1, xI cy a2 8 b_this.2.1, xRJ cy a3 8 (fun j => [some a4, some a5, some a6, some a7, some a8, some a9, some a10, some a11].getD j none), xJ cy a4 40 ((b_this.2.2 0)), xJ cy a5 40 ((b_this.2.2 1)), xJ cy a6 40 ((b_this.2.2 2)), xJ cy a7 40 ((b_this.2.2 3)), xJ cy a8 40 ((b_this.2.2 4)), xJ cy a9 40 ((va_cpy ((b_this.2.2 0)) ((b_this.2.2 5)) x3.toNatClampNeg x4.toNatClampNeg x5.toNatClampNeg)), xJ cy a10 40 ((b_this.2.2 6)), xJ cy a11 40 ((b_this.2.2 7))]) C hw hl.1 zm_X1_49 4 9 rfl rfl q26 ⟨Nat.le_of_ble_eq_true rfl, Nat.le_of_ble_eq_true rfl⟩ rfl dX1_moveStretch_40 (fun H locs hw => ?_)
          have hf := Option.some.inj hf
          subst hf
          exact zk_retv (pc := 43) (ww := [xSh a0 a1 a2 a3, xI cy a1 8 b_this.1, xI cy a2 8 b_this.2.1, xRJ cy a3 8 (fun j => [some a4, some a5, some a6, some a7, some a8, some a9, some a10, some a11].getD j none), xJ cy a4 40 ((b_this.2.2 0)), xJ cy a5 40 ((b_this.2.2 1)), xJ cy a6 40 ((b_this.2.2 2)), xJ cy a7 40 ((b_this.2.2 3)), xJ cy a8 40 ((b_this.2.2 4)), xJ cy a9 40 ((va_cpy ((b_this.2.2 0)) ((b_this.2.2 5)) x3.toNatClampNeg x4.toNatClampNeg x5.toNatClampNeg)), xJ cy a10 40 ((b_this.2.2 6)), xJ cy a11 40 ((b_this.2.2 7))]) C hw hr hQ dX1_moveStretch_43
        · rw [e19] at hf
          refine zk_aaldJ (pc := 35) (a' := a10) 6 e19 C hw 3 rfl q18 rfl dX1_moveStretch_35 ?_
          refine lv_iload (pc := 36) hx hb dX1_moveStretch_36 (lv_at hl 4 rfl) ?_
          refine lv_iload (pc := 38) hx hb dX1_moveStretch_38 (lv_at hl 5 rfl) ?_
          obtain ⟨q27, hf⟩ := ck hf
          refine zk_copyJ (pc := 40) (w' := [xSh a0 a1 a2 a3, xI cy a1 8 b_this.1, xI cy a2 8 b_this.2.1, xRJ cy a3 8 (fun j => [some a4, some a5, some a6, some a7, some a8, some a9, some a10, some a11].getD j none), xJ cy a4 40 ((b_this.2.2 0)), xJ cy a5 40 ((b_this.2.2 1)), xJ cy a6 40 ((b_this.2.2 2)), xJ cy a7 40 ((b_this.2.2 3)), xJ cy a8 40 ((b_this.2.2 4)), xJ cy a9 40 ((b_this.2.2 5)), xJ cy a10 40 ((va_cpy ((b_this.2.2 0)) ((b_this.2.2 6)) x3.toNatClampNeg x4.toNatClampNeg x5.toNatClampNeg)), xJ cy a11 40 ((b_this.2.2 7))]) C hw hl.1 zm_X1_49 4 10 rfl rfl q27 ⟨Nat.le_of_ble_eq_true rfl, Nat.le_of_ble_eq_true rfl⟩ rfl dX1_moveStretch_40 (fun H locs hw => ?_)
          have hf := Option.some.inj hf
          subst hf
          exact zk_retv (pc := 43) (ww := [xSh a0 a1 a2 a3, xI cy a1 8 b_this.1, xI cy a2 8 b_this.2.1, xRJ cy a3 8 (fun j => [some a4, some a5, some a6, some a7, some a8, some a9, some a10, some a11].getD j none), xJ cy a4 40 ((b_this.2.2 0)), xJ cy a5 40 ((b_this.2.2 1)), xJ cy a6 40 ((b_this.2.2 2)), xJ cy a7 40 ((b_this.2.2 3)), xJ cy a8 40 ((b_this.2.2 4)), xJ cy a9 40 ((b_this.2.2 5)), xJ cy a10 40 ((va_cpy ((b_this.2.2 0)) ((b_this.2.2 6)) x3.toNatClampNeg x4.toNatClampNeg x5.toNatClampNeg)), xJ cy a11 40 ((b_this.2.2 7))]) C hw hr hQ dX1_moveStretch_43
        · rw [e19] at hf
          refine zk_aaldJ (pc := 35) (a' := a11) 7 e19 C hw 3 rfl q18 rfl dX1_moveStretch_35 ?_
          refine lv_iload (pc := 36) hx hb dX1_moveStretch_36 (lv_at hl 4 rfl) ?_
          refine lv_iload (pc := 38) hx hb dX1_moveStretch_38 (lv_at hl 5 rfl) ?_
          obtain ⟨q28, hf⟩ := ck hf
          refine zk_copyJ (pc := 40) (w' := [xSh a0 a1 a2 a3, xI cy a1 8 b_this.1, xI cy a2 8 b_this.2.1, xRJ cy a3 8 (fun j => [some a4, some a5, some a6, some a7, some a8, some a9, some a10, some a11].getD j none), xJ cy a4 40 ((b_this.2.2 0)), xJ cy a5 40 ((b_this.2.2 1)), xJ cy a6 40 ((b_this.2.2 2)), xJ cy a7 40 ((b_this.2.2 3)), xJ cy a8 40 ((b_this.2.2 4)), xJ cy a9 40 ((b_this.2.2 5)), xJ cy a10 40 ((b_this.2.2 6)), xJ cy a11 40 ((va_cpy ((b_this.2.2 0)) ((b_this.2.2 7)) x3.toNatClampNeg x4.toNatClampNeg x5.toNatClampNeg))]) C hw hl.1 zm_X1_49 4 11 rfl rfl q28 ⟨Nat.le_of_ble_eq_true rfl, Nat.le_of_ble_eq_true rfl⟩ rfl dX1_moveStretch_40 (fun H locs hw => ?_)
          have hf := Option.some.inj hf
          subst hf
          exact zk_retv (pc := 43) (ww := [xSh a0 a1 a2 a3, xI cy a1 8 b_this.1, xI cy a2 8 b_this.2.1, xRJ cy a3 8 (fun j => [some a4, some a5, some a6, some a7, some a8, some a9, some a10, some a11].getD j none), xJ cy a4 40 ((b_this.2.2 0)), xJ cy a5 40 ((b_this.2.2 1)), xJ cy a6 40 ((b_this.2.2 2)), xJ cy a7 40 ((b_this.2.2 3)), xJ cy a8 40 ((b_this.2.2 4)), xJ cy a9 40 ((b_this.2.2 5)), xJ cy a10 40 ((b_this.2.2 6)), xJ cy a11 40 ((va_cpy ((b_this.2.2 0)) ((b_this.2.2 7)) x3.toNatClampNeg x4.toNatClampNeg x5.toNatClampNeg))]) C hw hr hQ dX1_moveStretch_43
      · rw [e6] at hf
        refine zk_aaldJ (pc := 28) (a' := a5) 1 e6 C hw 3 rfl q5 rfl dX1_moveStretch_28 ?_
        refine lv_iload_n (pc := 29) hx hb dX1_moveStretch_29 rfl (lv_at hl 3 rfl) ?_
        refine lv_aload_n (pc := 30) hx hb dX1_moveStretch_30 rfl (lv_at hl 0 rfl) ?_
        refine zk_gt (pc := 31) C hw zl_X1_20 0 rfl rfl dX1_moveStretch_31 ?_
        refine lv_iload_n (pc := 34) hx hb dX1_moveStretch_34 rfl (lv_at hl 2 rfl) ?_
        obtain ⟨q29, hf⟩ := ck hf
        rcases ix8 q29 with e30 | e30 | e30 | e30 | e30 | e30 | e30 | e30
        · rw [e30] at hf
          refine zk_aaldJ (pc := 35) (a' := a4) 0 e30 C hw 3 rfl q29 rfl dX1_moveStretch_35 ?_
          refine lv_iload (pc := 36) hx hb dX1_moveStretch_36 (lv_at hl 4 rfl) ?_
          refine lv_iload (pc := 38) hx hb dX1_moveStretch_38 (lv_at hl 5 rfl) ?_
          obtain ⟨q32, hf⟩ := ck hf
          refine zk_copyJ (pc := 40) (w' := [xSh a0 a1 a2 a3, xI cy a1 8 b_this.1, xI cy a2 8 b_this.2.1, xRJ cy a3 8 (fun j => [some a4, some a5, some a6, some a7, some a8, some a9, some a10, some a11].getD j none), xJ cy a4 40 ((va_cpy ((b_this.2.2 1)) ((b_this.2.2 0)) x3.toNatClampNeg x4.toNatClampNeg x5.toNatClampNeg)), xJ cy a5 40 ((b_this.2.2 1)), xJ cy a6 40 ((b_this.2.2 2)), xJ cy a7 40 ((b_this.2.2 3)), xJ cy a8 40 ((b_this.2.2 4)), xJ cy a9 40 ((b_this.2.2 5)), xJ cy a10 40 ((b_this.2.2 6)), xJ cy a11 40 ((b_this.2.2 7))]) C hw hl.1 zm_X1_49 5 4 rfl rfl q32 ⟨Nat.le_of_ble_eq_true rfl, Nat.le_of_ble_eq_true rfl⟩ rfl dX1_moveStretch_40 (fun H locs hw => ?_)
          have hf := Option.some.inj hf
          subst hf
          exact zk_retv (pc := 43) (ww := [xSh a0 a1 a2 a3, xI cy a1 8 b_this.1, xI cy a2 8 b_this.2.1, xRJ cy a3 8 (fun j => [some a4, some a5, some a6, some a7, some a8, some a9, some a10, some a11].getD j none), xJ cy a4 40 ((va_cpy ((b_this.2.2 1)) ((b_this.2.2 0)) x3.toNatClampNeg x4.toNatClampNeg x5.toNatClampNeg)), xJ cy a5 40 ((b_this.2.2 1)), xJ cy a6 40 ((b_this.2.2 2)), xJ cy a7 40 ((b_this.2.2 3)), xJ cy a8 40 ((b_this.2.2 4)), xJ cy a9 40 ((b_this.2.2 5)), xJ cy a10 40 ((b_this.2.2 6)), xJ cy a11 40 ((b_this.2.2 7))]) C hw hr hQ dX1_moveStretch_43
        · rw [e30] at hf
          refine zk_aaldJ (pc := 35) (a' := a5) 1 e30 C hw 3 rfl q29 rfl dX1_moveStretch_35 ?_
          refine lv_iload (pc := 36) hx hb dX1_moveStretch_36 (lv_at hl 4 rfl) ?_
          refine lv_iload (pc := 38) hx hb dX1_moveStretch_38 (lv_at hl 5 rfl) ?_
          obtain ⟨q33, hf⟩ := ck hf
          refine zk_copyJ (pc := 40) (w' := [xSh a0 a1 a2 a3, xI cy a1 8 b_this.1, xI cy a2 8 b_this.2.1, xRJ cy a3 8 (fun j => [some a4, some a5, some a6, some a7, some a8, some a9, some a10, some a11].getD j none), xJ cy a4 40 ((b_this.2.2 0)), xJ cy a5 40 ((va_cpy ((b_this.2.2 1)) ((b_this.2.2 1)) x3.toNatClampNeg x4.toNatClampNeg x5.toNatClampNeg)), xJ cy a6 40 ((b_this.2.2 2)), xJ cy a7 40 ((b_this.2.2 3)), xJ cy a8 40 ((b_this.2.2 4)), xJ cy a9 40 ((b_this.2.2 5)), xJ cy a10 40 ((b_this.2.2 6)), xJ cy a11 40 ((b_this.2.2 7))]) C hw hl.1 zm_X1_49 5 5 rfl rfl q33 ⟨Nat.le_of_ble_eq_true rfl, Nat.le_of_ble_eq_true rfl⟩ rfl dX1_moveStretch_40 (fun H locs hw => ?_)
          have hf := Option.some.inj hf
          subst hf
          exact zk_retv (pc := 43) (ww := [xSh a0 a1 a2 a3, xI cy a1 8 b_this.1, xI cy a2 8 b_this.2.1, xRJ cy a3 8 (fun j => [some a4, some a5, some a6, some a7, some a8, some a9, some a10, some a11].getD j none), xJ cy a4 40 ((b_this.2.2 0)), xJ cy a5 40 ((va_cpy ((b_this.2.2 1)) ((b_this.2.2 1)) x3.toNatClampNeg x4.toNatClampNeg x5.toNatClampNeg)), xJ cy a6 40 ((b_this.2.2 2)), xJ cy a7 40 ((b_this.2.2 3)), xJ cy a8 40 ((b_this.2.2 4)), xJ cy a9 40 ((b_this.2.2 5)), xJ cy a10 40 ((b_this.2.2 6)), xJ cy a11 40 ((b_this.2.2 7))]) C hw hr hQ dX1_moveStretch_43
        · rw [e30] at hf
          refine zk_aaldJ (pc := 35) (a' := a6) 2 e30 C hw 3 rfl q29 rfl dX1_moveStretch_35 ?_
          refine lv_iload (pc := 36) hx hb dX1_moveStretch_36 (lv_at hl 4 rfl) ?_
          refine lv_iload (pc := 38) hx hb dX1_moveStretch_38 (lv_at hl 5 rfl) ?_
          obtain ⟨q34, hf⟩ := ck hf
          refine zk_copyJ (pc := 40) (w' := [xSh a0 a1 a2 a3, xI cy a1 8 b_this.1, xI cy a2 8 b_this.2.1, xRJ cy a3 8 (fun j => [some a4, some a5, some a6, some a7, some a8, some a9, some a10, some a11].getD j none), xJ cy a4 40 ((b_this.2.2 0)), xJ cy a5 40 ((b_this.2.2 1)), xJ cy a6 40 ((va_cpy ((b_this.2.2 1)) ((b_this.2.2 2)) x3.toNatClampNeg x4.toNatClampNeg x5.toNatClampNeg)), xJ cy a7 40 ((b_this.2.2 3)), xJ cy a8 40 ((b_this.2.2 4)), xJ cy a9 40 ((b_this.2.2 5)), xJ cy a10 40 ((b_this.2.2 6)), xJ cy a11 40 ((b_this.2.2 7))]) C hw hl.1 zm_X1_49 5 6 rfl rfl q34 ⟨Nat.le_of_ble_eq_true rfl, Nat.le_of_ble_eq_true rfl⟩ rfl dX1_moveStretch_40 (fun H locs hw => ?_)
          have hf := Option.some.inj hf
          subst hf
          exact zk_retv (pc := 43) (ww := [xSh a0 a1 a2 a3, xI cy a1 8 b_this.1, xI cy a2 8 b_this.2.1, xRJ cy a3 8 (fun j => [some a4, some a5, some a6, some a7, some a8, some a9, some a10, some a11].getD j none), xJ cy a4 40 ((b_this.2.2 0)), xJ cy a5 40 ((b_this.2.2 1)), xJ cy a6 40 ((va_cpy ((b_this.2.2 1)) ((b_this.2.2 2)) x3.toNatClampNeg x4.toNatClampNeg x5.toNatClampNeg)), xJ cy a7 40 ((b_this.2.2 3)), xJ cy a8 40 ((b_this.2.2 4)), xJ cy a9 40 ((b_this.2.2 5)), xJ cy a10 40 ((b_this.2.2 6)), xJ cy a11 40 ((b_this.2.2 7))]) C hw hr hQ dX1_moveStretch_43
        · rw [e30] at hf
          refine zk_aaldJ (pc := 35) (a' := a7) 3 e30 C hw 3 rfl q29 rfl dX1_moveStretch_35 ?_
          refine lv_iload (pc := 36) hx hb dX1_moveStretch_36 (lv_at hl 4 rfl) ?_
          refine lv_iload (pc := 38) hx hb dX1_moveStretch_38 (lv_at hl 5 rfl) ?_
          obtain ⟨q35, hf⟩ := ck hf
          refine zk_copyJ (pc := 40) (w' := [xSh a0 a1 a2 a3, xI cy a1 8 b_this.1, xI cy a2 8 b_this.2.1, xRJ cy a3 8 (fun j => [some a4, some a5, some a6, some a7, some a8, some a9, some a10, some a11].getD j none), xJ cy a4 40 ((b_this.2.2 0)), xJ cy a5 40 ((b_this.2.2 1)), xJ cy a6 40 ((b_this.2.2 2)), xJ cy a7 40 ((va_cpy ((b_this.2.2 1)) ((b_this.2.2 3)) x3.toNatClampNeg x4.toNatClampNeg x5.toNatClampNeg)), xJ cy a8 40 ((b_this.2.2 4)), xJ cy a9 40 ((b_this.2.2 5)), xJ cy a10 40 ((b_this.2.2 6)), xJ cy a11 40 ((b_this.2.2 7))]) C hw hl.1 zm_X1_49 5 7 rfl rfl q35 ⟨Nat.le_of_ble_eq_true rfl, Nat.le_of_ble_eq_true rfl⟩ rfl dX1_moveStretch_40 (fun H locs hw => ?_)
          have hf := Option.some.inj hf
          subst hf
          exact zk_retv (pc := 43) (ww := [xSh a0 a1 a2 a3, xI cy a1 8 b_this.1, xI cy a2 8 b_this.2.1, xRJ cy a3 8 (fun j => [some a4, some a5, some a6, some a7, some a8, some a9, some a10, some a11].getD j none), xJ cy a4 40 ((b_this.2.2 0)), xJ cy a5 40 ((b_this.2.2 1)), xJ cy a6 40 ((b_this.2.2 2)), xJ cy a7 40 ((va_cpy ((b_this.2.2 1)) ((b_this.2.2 3)) x3.toNatClampNeg x4.toNatClampNeg x5.toNatClampNeg)), xJ cy a8 40 ((b_this.2.2 4)), xJ cy a9 40 ((b_this.2.2 5)), xJ cy a10 40 ((b_this.2.2 6)), xJ cy a11 40 ((b_this.2.2 7))]) C hw hr hQ dX1_moveStretch_43
        · rw [e30] at hf
          refine zk_aaldJ (pc := 35) (a' := a8) 4 e30 C hw 3 rfl q29 rfl dX1_moveStretch_35 ?_
          refine lv_iload (pc := 36) hx hb dX1_moveStretch_36 (lv_at hl 4 rfl) ?_
          refine lv_iload (pc := 38) hx hb dX1_moveStretch_38 (lv_at hl 5 rfl) ?_
          obtain ⟨q36, hf⟩ := ck hf
          refine zk_copyJ (pc := 40) (w' := [xSh a0 a1 a2 a3, xI cy a1 8 b_this.1, xI cy a2 8 b_this.2.1, xRJ cy a3 8 (fun j => [some a4, some a5, some a6, some a7, some a8, some a9, some a10, some a11].getD j none), xJ cy a4 40 ((b_this.2.2 0)), xJ cy a5 40 ((b_this.2.2 1)), xJ cy a6 40 ((b_this.2.2 2)), xJ cy a7 40 ((b_this.2.2 3)), xJ cy a8 40 ((va_cpy ((b_this.2.2 1)) ((b_this.2.2 4)) x3.toNatClampNeg x4.toNatClampNeg x5.toNatClampNeg)), xJ cy a9 40 ((b_this.2.2 5)), xJ cy a10 40 ((b_this.2.2 6)), xJ cy a11 40 ((b_this.2.2 7))]) C hw hl.1 zm_X1_49 5 8 rfl rfl q36 ⟨Nat.le_of_ble_eq_true rfl, Nat.le_of_ble_eq_true rfl⟩ rfl dX1_moveStretch_40 (fun H locs hw => ?_)
          have hf := Option.some.inj hf
          subst hf
          exact zk_retv (pc := 43) (ww := [xSh a0 a1 a2 a3, xI cy a1 8 b_this.1, xI cy a2 8 b_this.2.1, xRJ cy a3 8 (fun j => [some a4, some a5, some a6, some a7, some a8, some a9, some a10, some a11].getD j none), xJ cy a4 40 ((b_this.2.2 0)), xJ cy a5 40 ((b_this.2.2 1)), xJ cy a6 40 ((b_this.2.2 2)), xJ cy a7 40 ((b_this.2.2 3)), xJ cy a8 40 ((va_cpy ((b_this.2.2 1)) ((b_this.2.2 4)) x3.toNatClampNeg x4.toNatClampNeg x5.toNatClampNeg)), xJ cy a9 40 ((b_this.2.2 5)), xJ cy a10 40 ((b_this.2.2 6)), xJ cy a11 40 ((b_this.2.2 7))]) C hw hr hQ dX1_moveStretch_43
        · rw [e30] at hf
          refine zk_aaldJ (pc := 35) (a' := a9) 5 e30 C hw 3 rfl q29 rfl dX1_moveStretch_35 ?_
          refine lv_iload (pc := 36) hx hb dX1_moveStretch_36 (lv_at hl 4 rfl) ?_
          refine lv_iload (pc := 38) hx hb dX1_moveStretch_38 (lv_at hl 5 rfl) ?_
          obtain ⟨q37, hf⟩ := ck hf
          refine zk_copyJ (pc := 40) (w' := [xSh a0 a1 a2 a3, xI cy a1 8 b_this.1, xI cy a2 8 b_this.2.1, xRJ cy a3 8 (fun j => [some a4, some a5, some a6, some a7, some a8, some a9, some a10, some a11].getD j none), xJ cy a4 40 ((b_this.2.2 0)), xJ cy a5 40 ((b_this.2.2 1)), xJ cy a6 40 ((b_this.2.2 2)), xJ cy a7 40 ((b_this.2.2 3)), xJ cy a8 40 ((b_this.2.2 4)), xJ cy a9 40 ((va_cpy ((b_this.2.2 1)) ((b_this.2.2 5)) x3.toNatClampNeg x4.toNatClampNeg x5.toNatClampNeg)), xJ cy a10 40 ((b_this.2.2 6)), xJ cy a11 40 ((b_this.2.2 7))]) C hw hl.1 zm_X1_49 5 9 rfl rfl q37 ⟨Nat.le_of_ble_eq_true rfl, Nat.le_of_ble_eq_true rfl⟩ rfl dX1_moveStretch_40 (fun H locs hw => ?_)
          have hf := Option.some.inj hf
          subst hf
          exact zk_retv (pc := 43) (ww := [xSh a0 a1 a2 a3, xI cy a1 8 b_this.1, xI cy a2 8 b_this.2.1, xRJ cy a3 8 (fun j => [some a4, some a5, some a6, some a7, some a8, some a9, some a10, some a11].getD j none), xJ cy a4 40 ((b_this.2.2 0)), xJ cy a5 40 ((b_this.2.2 1)), xJ cy a6 40 ((b_this.2.2 2)), xJ cy a7 40 ((b_this.2.2 3)), xJ cy a8 40 ((b_this.2.2 4)), xJ cy a9 40 ((va_cpy ((b_this.2.2 1)) ((b_this.2.2 5)) x3.toNatClampNeg x4.toNatClampNeg x5.toNatClampNeg)), xJ cy a10 40 ((b_this.2.2 6)), xJ cy a11 40 ((b_this.2.2 7))]) C hw hr hQ dX1_moveStretch_43
        · rw [e30] at hf
          refine zk_aaldJ (pc := 35) (a' := a10) 6 e30 C hw 3 rfl q29 rfl dX1_moveStretch_35 ?_
          refine lv_iload (pc := 36) hx hb dX1_moveStretch_36 (lv_at hl 4 rfl) ?_
          refine lv_iload (pc := 38) hx hb dX1_moveStretch_38 (lv_at hl 5 rfl) ?_
          obtain ⟨q38, hf⟩ := ck hf
          refine zk_copyJ (pc := 40) (w' := [xSh a0 a1 a2 a3, xI cy a1 8 b_this.1, xI cy a2 8 b_this.2.1, xRJ cy a3 8 (fun j => [some a4, some a5, some a6, some a7, some a8, some a9, some a10, some a11].getD j none), xJ cy a4 40 ((b_this.2.2 0)), xJ cy a5 40 ((b_this.2.2 1)), xJ cy a6 40 ((b_this.2.2 2)), xJ cy a7 40 ((b_this.2.2 3)), xJ cy a8 40 ((b_this.2.2 4)), xJ cy a9 40 ((b_this.2.2 5)), xJ cy a10 40 ((va_cpy ((b_this.2.2 1)) ((b_this.2.2 6)) x3.toNatClampNeg x4.toNatClampNeg x5.toNatClampNeg)), xJ cy a11 40 ((b_this.2.2 7))]) C hw hl.1 zm_X1_49 5 10 rfl rfl q38 ⟨Nat.le_of_ble_eq_true rfl, Nat.le_of_ble_eq_true rfl⟩ rfl dX1_moveStretch_40 (fun H locs hw => ?_)
          have hf := Option.some.inj hf
          subst hf
          exact zk_retv (pc := 43) (ww := [xSh a0 a1 a2 a3, xI cy a1 8 b_this.1, xI cy a2 8 b_this.2.1, xRJ cy a3 8 (fun j => [some a4, some a5, some a6, some a7, some a8, some a9, some a10, some a11].getD j none), xJ cy a4 40 ((b_this.2.2 0)), xJ cy a5 40 ((b_this.2.2 1)), xJ cy a6 40 ((b_this.2.2 2)), xJ cy a7 40 ((b_this.2.2 3)), xJ cy a8 40 ((b_this.2.2 4)), xJ cy a9 40 ((b_this.2.2 5)), xJ cy a10 40 ((va_cpy ((b_this.2.2 1)) ((b_this.2.2 6)) x3.toNatClampNeg x4.toNatClampNeg x5.toNatClampNeg)), xJ cy a11 40 ((b_this.2.2 7))]) C hw hr hQ dX1_moveStretch_43
        · rw [e30] at hf
          refine zk_aaldJ (pc := 35) (a' := a11) 7 e30 C hw 3 rfl q29 rfl dX1_moveStretch_35 ?_
          refine lv_iload (pc := 36) hx hb dX1_moveStretch_36 (lv_at hl 4 rfl) ?_
          refine lv_iload (pc := 38) hx hb dX1_moveStretch_38 (lv_at hl 5 rfl) ?_
          obtain ⟨q39, hf⟩ := ck hf
          refine zk_copyJ (pc := 40) (w' := [xSh a0 a1 a2 a3, xI cy a1 8 b_this.1, xI cy a2 8 b_this.2.1, xRJ cy a3 8 (fun j => [some a4, some a5, some a6, some a7, some a8, some a9, some a10, some a11].getD j none), xJ cy a4 40 ((b_this.2.2 0)), xJ cy a5 40 ((b_this.2.2 1)), xJ cy a6 40 ((b_this.2.2 2)), xJ cy a7 40 ((b_this.2.2 3)), xJ cy a8 40 ((b_this.2.2 4)), xJ cy a9 40 ((b_this.2.2 5)), xJ cy a10 40 ((b_this.2.2 6)), xJ cy a11 40 ((va_cpy ((b_this.2.2 1)) ((b_this.2.2 7)) x3.toNatClampNeg x4.toNatClampNeg x5.toNatClampNeg))]) C hw hl.1 zm_X1_49 5 11 rfl rfl q39 ⟨Nat.le_of_ble_eq_true rfl, Nat.le_of_ble_eq_true rfl⟩ rfl dX1_moveStretch_40 (fun H locs hw => ?_)
          have hf := Option.some.inj hf
          subst hf
          exact zk_retv (pc := 43) (ww := [xSh a0 a1 a2 a3, xI cy a1 8 b_this.1, xI cy a2 8 b_this.2.1, xRJ cy a3 8 (fun j => [some a4, some a5, some a6, some a7, some a8, some a9, some a10, some a11].getD j none), xJ cy a4 40 ((b_this.2.2 0)), xJ cy a5 40 ((b_this.2.2 1)), xJ cy a6 40 ((b_this.2.2 2)), xJ cy a7 40 ((b_this.2.2 3)), xJ cy a8 40 ((b_this.2.2 4)), xJ cy a9 40 ((b_this.2.2 5)), xJ cy a10 40 ((b_this.2.2 6)), xJ cy a11 40 ((va_cpy ((b_this.2.2 1)) ((b_this.2.2 7)) x3.toNatClampNeg x4.toNatClampNeg x5.toNatClampNeg))]) C hw hr hQ dX1_moveStretch_43
      · rw [e6] at hf
        refine zk_aaldJ (pc := 28) (a' := a6) 2 e6 C hw 3 rfl q5 rfl dX1_moveStretch_28 ?_
        refine lv_iload_n (pc := 29) hx hb dX1_moveStretch_29 rfl (lv_at hl 3 rfl) ?_
        refine lv_aload_n (pc := 30) hx hb dX1_moveStretch_30 rfl (lv_at hl 0 rfl) ?_
        refine zk_gt (pc := 31) C hw zl_X1_20 0 rfl rfl dX1_moveStretch_31 ?_
        refine lv_iload_n (pc := 34) hx hb dX1_moveStretch_34 rfl (lv_at hl 2 rfl) ?_
        obtain ⟨q40, hf⟩ := ck hf
        rcases ix8 q40 with e41 | e41 | e41 | e41 | e41 | e41 | e41 | e41
        · rw [e41] at hf
          refine zk_aaldJ (pc := 35) (a' := a4) 0 e41 C hw 3 rfl q40 rfl dX1_moveStretch_35 ?_
          refine lv_iload (pc := 36) hx hb dX1_moveStretch_36 (lv_at hl 4 rfl) ?_
          refine lv_iload (pc := 38) hx hb dX1_moveStretch_38 (lv_at hl 5 rfl) ?_
          obtain ⟨q43, hf⟩ := ck hf
          refine zk_copyJ (pc := 40) (w' := [xSh a0 a1 a2 a3, xI cy a1 8 b_this.1, xI cy a2 8 b_this.2.1, xRJ cy a3 8 (fun j => [some a4, some a5, some a6, some a7, some a8, some a9, some a10, some a11].getD j none), xJ cy a4 40 ((va_cpy ((b_this.2.2 2)) ((b_this.2.2 0)) x3.toNatClampNeg x4.toNatClampNeg x5.toNatClampNeg)), xJ cy a5 40 ((b_this.2.2 1)), xJ cy a6 40 ((b_this.2.2 2)), xJ cy a7 40 ((b_this.2.2 3)), xJ cy a8 40 ((b_this.2.2 4)), xJ cy a9 40 ((b_this.2.2 5)), xJ cy a10 40 ((b_this.2.2 6)), xJ cy a11 40 ((b_this.2.2 7))]) C hw hl.1 zm_X1_49 6 4 rfl rfl q43 ⟨Nat.le_of_ble_eq_true rfl, Nat.le_of_ble_eq_true rfl⟩ rfl dX1_moveStretch_40 (fun H locs hw => ?_)
          have hf := Option.some.inj hf
          subst hf
          exact zk_retv (pc := 43) (ww := [xSh a0 a1 a2 a3, xI cy a1 8 b_this.1, xI cy a2 8 b_this.2.1, xRJ cy a3 8 (fun j => [some a4, some a5, some a6, some a7, some a8, some a9, some a10, some a11].getD j none), xJ cy a4 40 ((va_cpy ((b_this.2.2 2)) ((b_this.2.2 0)) x3.toNatClampNeg x4.toNatClampNeg x5.toNatClampNeg)), xJ cy a5 40 ((b_this.2.2 1)), xJ cy a6 40 ((b_this.2.2 2)), xJ cy a7 40 ((b_this.2.2 3)), xJ cy a8 40 ((b_this.2.2 4)), xJ cy a9 40 ((b_this.2.2 5)), xJ cy a10 40 ((b_this.2.2 6)), xJ cy a11 40 ((b_this.2.2 7))]) C hw hr hQ dX1_moveStretch_43
        · rw [e41] at hf
          refine zk_aaldJ (pc := 35) (a' := a5) 1 e41 C hw 3 rfl q40 rfl dX1_moveStretch_35 ?_
          refine lv_iload (pc := 36) hx hb dX1_moveStretch_36 (lv_at hl 4 rfl) ?_
          refine lv_iload (pc := 38) hx hb dX1_moveStretch_38 (lv_at hl 5 rfl) ?_
          obtain ⟨q44, hf⟩ := ck hf
          refine zk_copyJ (pc := 40) (w' := [xSh a0 a1 a2 a3, xI cy a1 8 b_this.1, xI cy a2 8 b_this.2.1, xRJ cy a3 8 (fun j => [some a4, some a5, some a6, some a7, some a8, some a9, some a10, some a11].getD j none), xJ cy a4 40 ((b_this.2.2 0)), xJ cy a5 40 ((va_cpy ((b_this.2.2 2)) ((b_this.2.2 1)) x3.toNatClampNeg x4.toNatClampNeg x5.toNatClampNeg)), xJ cy a6 40 ((b_this.2.2 2)), xJ cy a7 40 ((b_this.2.2 3)), xJ cy a8 40 ((b_this.2.2 4)), xJ cy a9 40 ((b_this.2.2 5)), xJ cy a10 40 ((b_this.2.2 6)), xJ cy a11 40 ((b_this.2.2 7))]) C hw hl.1 zm_X1_49 6 5 rfl rfl q44 ⟨Nat.le_of_ble_eq_true rfl, Nat.le_of_ble_eq_true rfl⟩ rfl dX1_moveStretch_40 (fun H locs hw => ?_)
          have hf := Option.some.inj hf
          subst hf
          exact zk_retv (pc := 43) (ww := [xSh a0 a1 a2 a3, xI cy a1 8 b_this.1, xI cy a2 8 b_this.2.1, xRJ cy a3 8 (fun j => [some a4, some a5, some a6, some a7, some a8, some a9, some a10, some a11].getD j none), xJ cy a4 40 ((b_this.2.2 0)), xJ cy a5 40 ((va_cpy ((b_this.2.2 2)) ((b_this.2.2 1)) x3.toNatClampNeg x4.toNatClampNeg x5.toNatClampNeg)), xJ cy a6 40 ((b_this.2.2 2)), xJ cy a7 40 ((b_this.2.2 3)), xJ cy a8 40 ((b_this.2.2 4)), xJ cy a9 40 ((b_this.2.2 5)), xJ cy a10 40 ((b_this.2.2 6)), xJ cy a11 40 ((b_this.2.2 7))]) C hw hr hQ dX1_moveStretch_43
        · rw [e41] at hf
          refine zk_aaldJ (pc := 35) (a' := a6) 2 e41 C hw 3 rfl q40 rfl dX1_moveStretch_35 ?_
          refine lv_iload (pc := 36) hx hb dX1_moveStretch_36 (lv_at hl 4 rfl) ?_
          refine lv_iload (pc := 38) hx hb dX1_moveStretch_38 (lv_at hl 5 rfl) ?_
          obtain ⟨q45, hf⟩ := ck hf
          refine zk_copyJ (pc := 40) (w' := [xSh a0 a1 a2 a3, xI cy a1 8 b_this.1, xI cy a2 8 b_this.2.1, xRJ cy a3 8 (fun j => [some a4, some a5, some a6, some a7, some a8, some a9, some a10, some a11].getD j none), xJ cy a4 40 ((b_this.2.2 0)), xJ cy a5 40 ((b_this.2.2 1)), xJ cy a6 40 ((va_cpy ((b_this.2.2 2)) ((b_this.2.2 2)) x3.toNatClampNeg x4.toNatClampNeg x5.toNatClampNeg)), xJ cy a7 40 ((b_this.2.2 3)), xJ cy a8 40 ((b_this.2.2 4)), xJ cy a9 40 ((b_this.2.2 5)), xJ cy a10 40 ((b_this.2.2 6)), xJ cy a11 40 ((b_this.2.2 7))]) C hw hl.1 zm_X1_49 6 6 rfl rfl q45 ⟨Nat.le_of_ble_eq_true rfl, Nat.le_of_ble_eq_true rfl⟩ rfl dX1_moveStretch_40 (fun H locs hw => ?_)
          have hf := Option.some.inj hf
          subst hf
          exact zk_retv (pc := 43) (ww := [xSh a0 a1 a2 a3, xI cy a1 8 b_this.1, xI cy a2 8 b_this.2.1, xRJ cy a3 8 (fun j => [some a4, some a5, some a6, some a7, some a8, some a9, some a10, some a11].getD j none), xJ cy a4 40 ((b_this.2.2 0)), xJ cy a5 40 ((b_this.2.2 1)), xJ cy a6 40 ((va_cpy ((b_this.2.2 2)) ((b_this.2.2 2)) x3.toNatClampNeg x4.toNatClampNeg x5.toNatClampNeg)), xJ cy a7 40 ((b_this.2.2 3)), xJ cy a8 40 ((b_this.2.2 4)), xJ cy a9 40 ((b_this.2.2 5)), xJ cy a10 40 ((b_this.2.2 6)), xJ cy a11 40 ((b_this.2.2 7))]) C hw hr hQ dX1_moveStretch_43
        · rw [e41] at hf
          refine zk_aaldJ (pc := 35) (a' := a7) 3 e41 C hw 3 rfl q40 rfl dX1_moveStretch_35 ?_
          refine lv_iload (pc := 36) hx hb dX1_moveStretch_36 (lv_at hl 4 rfl) ?_
          refine lv_iload (pc := 38) hx hb dX1_moveStretch_38 (lv_at hl 5 rfl) ?_
          obtain ⟨q46, hf⟩ := ck hf
          refine zk_copyJ (pc := 40) (w' := [xSh a0 a1 a2 a3, xI cy a1 8 b_this.1, xI cy a2 8 b_this.2.1, xRJ cy a3 8 (fun j => [some a4, some a5, some a6, some a7, some a8, some a9, some a10, some a11].getD j none), xJ cy a4 40 ((b_this.2.2 0)), xJ cy a5 40 ((b_this.2.2 1)), xJ cy a6 40 ((b_this.2.2 2)), xJ cy a7 40 ((va_cpy ((b_this.2.2 2)) ((b_this.2.2 3)) x3.toNatClampNeg x4.toNatClampNeg x5.toNatClampNeg)), xJ cy a8 40 ((b_this.2.2 4)), xJ cy a9 40 ((b_this.2.2 5)), xJ cy a10 40 ((b_this.2.2 6)), xJ cy a11 40 ((b_this.2.2 7))]) C hw hl.1 zm_X1_49 6 7 rfl rfl q46 ⟨Nat.le_of_ble_eq_true rfl, Nat.le_of_ble_eq_true rfl⟩ rfl dX1_moveStretch_40 (fun H locs hw => ?_)
          have hf := Option.some.inj hf
          subst hf
          exact zk_retv (pc := 43) (ww := [xSh a0 a1 a2 a3, xI cy a1 8 b_this.1, xI cy a2 8 b_this.2.1, xRJ cy a3 8 (fun j => [some a4, some a5, some a6, some a7, some a8, some a9, some a10, some a11].getD j none), xJ cy a4 40 ((b_this.2.2 0)), xJ cy a5 40 ((b_this.2.2 1)), xJ cy a6 40 ((b_this.2.2 2)), xJ cy a7 40 ((va_cpy ((b_this.2.2 2)) ((b_this.2.2 3)) x3.toNatClampNeg x4.toNatClampNeg x5.toNatClampNeg)), xJ cy a8 40 ((b_this.2.2 4)), xJ cy a9 40 ((b_this.2.2 5)), xJ cy a10 40 ((b_this.2.2 6)), xJ cy a11 40 ((b_this.2.2 7))]) C hw hr hQ dX1_moveStretch_43
        · rw [e41] at hf
          refine zk_aaldJ (pc := 35) (a' := a8) 4 e41 C hw 3 rfl q40 rfl dX1_moveStretch_35 ?_
          refine lv_iload (pc := 36) hx hb dX1_moveStretch_36 (lv_at hl 4 rfl) ?_
          refine lv_iload (pc := 38) hx hb dX1_moveStretch_38 (lv_at hl 5 rfl) ?_
          obtain ⟨q47, hf⟩ := ck hf
          refine zk_copyJ (pc := 40) (w' := [xSh a0 a1 a2 a3, xI cy a1 8 b_this.1, xI cy a2 8 b_this.2.1, xRJ cy a3 8 (fun j => [some a4, some a5, some a6, some a7, some a8, some a9, some a10, some a11].getD j none), xJ cy a4 40 ((b_this.2.2 0)), xJ cy a5 40 ((b_this.2.2 1)), xJ cy a6 40 ((b_this.2.2 2)), xJ cy a7 40 ((b_this.2.2 3)), xJ cy a8 40 ((va_cpy ((b_this.2.2 2)) ((b_this.2.2 4)) x3.toNatClampNeg x4.toNatClampNeg x5.toNatClampNeg)), xJ cy a9 40 ((b_this.2.2 5)), xJ cy a10 40 ((b_this.2.2 6)), xJ cy a11 40 ((b_this.2.2 7))]) C hw hl.1 zm_X1_49 6 8 rfl rfl q47 ⟨Nat.le_of_ble_eq_true rfl, Nat.le_of_ble_eq_true rfl⟩ rfl dX1_moveStretch_40 (fun H locs hw => ?_)
          have hf := Option.some.inj hf
          subst hf
          exact zk_retv (pc := 43) (ww := [xSh a0 a1 a2 a3, xI cy a1 8 b_this.1, xI cy a2 8 b_this.2.1, xRJ cy a3 8 (fun j => [some a4, some a5, some a6, some a7, some a8, some a9, some a10, some a11].getD j none), xJ cy a4 40 ((b_this.2.2 0)), xJ cy a5 40 ((b_this.2.2 1)), xJ cy a6 40 ((b_this.2.2 2)), xJ cy a7 40 ((b_this.2.2 3)), xJ cy a8 40 ((va_cpy ((b_this.2.2 2)) ((b_this.2.2 4)) x3.toNatClampNeg x4.toNatClampNeg x5.toNatClampNeg)), xJ cy a9 40 ((b_this.2.2 5)), xJ cy a10 40 ((b_this.2.2 6)), xJ cy a11 40 ((b_this.2.2 7))]) C hw hr hQ dX1_moveStretch_43
        · rw [e41] at hf
          refine zk_aaldJ (pc := 35) (a' := a9) 5 e41 C hw 3 rfl q40 rfl dX1_moveStretch_35 ?_
          refine lv_iload (pc := 36) hx hb dX1_moveStretch_36 (lv_at hl 4 rfl) ?_
          refine lv_iload (pc := 38) hx hb dX1_moveStretch_38 (lv_at hl 5 rfl) ?_
          obtain ⟨q48, hf⟩ := ck hf
          refine zk_copyJ (pc := 40) (w' := [xSh a0 a1 a2 a3, xI cy a1 8 b_this.1, xI cy a2 8 b_this.2.1, xRJ cy a3 8 (fun j => [some a4, some a5, some a6, some a7, some a8, some a9, some a10, some a11].getD j none), xJ cy a4 40 ((b_this.2.2 0)), xJ cy a5 40 ((b_this.2.2 1)), xJ cy a6 40 ((b_this.2.2 2)), xJ cy a7 40 ((b_this.2.2 3)), xJ cy a8 40 ((b_this.2.2 4)), xJ cy a9 40 ((va_cpy ((b_this.2.2 2)) ((b_this.2.2 5)) x3.toNatClampNeg x4.toNatClampNeg x5.toNatClampNeg)), xJ cy a10 40 ((b_this.2.2 6)), xJ cy a11 40 ((b_this.2.2 7))]) C hw hl.1 zm_X1_49 6 9 rfl rfl q48 ⟨Nat.le_of_ble_eq_true rfl, Nat.le_of_ble_eq_true rfl⟩ rfl dX1_moveStretch_40 (fun H locs hw => ?_)
          have hf := Option.some.inj hf
          subst hf
          exact zk_retv (pc := 43) (ww := [xSh a0 a1 a2 a3, xI cy a1 8 b_this.1, xI cy a2 8 b_this.2.1, xRJ cy a3 8 (fun j => [some a4, some a5, some a6, some a7, some a8, some a9, some a10, some a11].getD j none), xJ cy a4 40 ((b_this.2.2 0)), xJ cy a5 40 ((b_this.2.2 1)), xJ cy a6 40 ((b_this.2.2 2)), xJ cy a7 40 ((b_this.2.2 3)), xJ cy a8 40 ((b_this.2.2 4)), xJ cy a9 40 ((va_cpy ((b_this.2.2 2)) ((b_this.2.2 5)) x3.toNatClampNeg x4.toNatClampNeg x5.toNatClampNeg)), xJ cy a10 40 ((b_this.2.2 6)), xJ cy a11 40 ((b_this.2.2 7))]) C hw hr hQ dX1_moveStretch_43
        · rw [e41] at hf
          refine zk_aaldJ (pc := 35) (a' := a10) 6 e41 C hw 3 rfl q40 rfl dX1_moveStretch_35 ?_
          refine lv_iload (pc := 36) hx hb dX1_moveStretch_36 (lv_at hl 4 rfl) ?_
          refine lv_iload (pc := 38) hx hb dX1_moveStretch_38 (lv_at hl 5 rfl) ?_
          obtain ⟨q49, hf⟩ := ck hf
          refine zk_copyJ (pc := 40) (w' := [xSh a0 a1 a2 a3, xI cy a1 8 b_this.1, xI cy a2 8 b_this.2.1, xRJ cy a3 8 (fun j => [some a4, some a5, some a6, some a7, some a8, some a9, some a10, some a11].getD j none), xJ cy a4 40 ((b_this.2.2 0)), xJ cy a5 40 ((b_this.2.2 1)), xJ cy a6 40 ((b_this.2.2 2)), xJ cy a7 40 ((b_this.2.2 3)), xJ cy a8 40 ((b_this.2.2 4)), xJ cy a9 40 ((b_this.2.2 5)), xJ cy a10 40 ((va_cpy ((b_this.2.2 2)) ((b_this.2.2 6)) x3.toNatClampNeg x4.toNatClampNeg x5.toNatClampNeg)), xJ cy a11 40 ((b_this.2.2 7))]) C hw hl.1 zm_X1_49 6 10 rfl rfl q49 ⟨Nat.le_of_ble_eq_true rfl, Nat.le_of_ble_eq_true rfl⟩ rfl dX1_moveStretch_40 (fun H locs hw => ?_)
          have hf := Option.some.inj hf
          subst hf
          exact zk_retv (pc := 43) (ww := [xSh a0 a1 a2 a3, xI cy a1 8 b_this.1, xI cy a2 8 b_this.2.1, xRJ cy a3 8 (fun j => [some a4, some a5, some a6, some a7, some a8, some a9, some a10, some a11].getD j none), xJ cy a4 40 ((b_this.2.2 0)), xJ cy a5 40 ((b_this.2.2 1)), xJ cy a6 40 ((b_this.2.2 2)), xJ cy a7 40 ((b_this.2.2 3)), xJ cy a8 40 ((b_this.2.2 4)), xJ cy a9 40 ((b_this.2.2 5)), xJ cy a10 40 ((va_cpy ((b_this.2.2 2)) ((b_this.2.2 6)) x3.toNatClampNeg x4.toNatClampNeg x5.toNatClampNeg)), xJ cy a11 40 ((b_this.2.2 7))]) C hw hr hQ dX1_moveStretch_43
        · rw [e41] at hf
          refine zk_aaldJ (pc := 35) (a' := a11) 7 e41 C hw 3 rfl q40 rfl dX1_moveStretch_35 ?_
          refine lv_iload (pc := 36) hx hb dX1_moveStretch_36 (lv_at hl 4 rfl) ?_
          refine lv_iload (pc := 38) hx hb dX1_moveStretch_38 (lv_at hl 5 rfl) ?_
          obtain ⟨q50, hf⟩ := ck hf
          refine zk_copyJ (pc := 40) (w' := [xSh a0 a1 a2 a3, xI cy a1 8 b_this.1, xI cy a2 8 b_this.2.1, xRJ cy a3 8 (fun j => [some a4, some a5, some a6, some a7, some a8, some a9, some a10, some a11].getD j none), xJ cy a4 40 ((b_this.2.2 0)), xJ cy a5 40 ((b_this.2.2 1)), xJ cy a6 40 ((b_this.2.2 2)), xJ cy a7 40 ((b_this.2.2 3)), xJ cy a8 40 ((b_this.2.2 4)), xJ cy a9 40 ((b_this.2.2 5)), xJ cy a10 40 ((b_this.2.2 6)), xJ cy a11 40 ((va_cpy ((b_this.2.2 2)) ((b_this.2.2 7)) x3.toNatClampNeg x4.toNatClampNeg x5.toNatClampNeg))]) C hw hl.1 zm_X1_49 6 11 rfl rfl q50 ⟨Nat.le_of_ble_eq_true rfl, Nat.le_of_ble_eq_true rfl⟩ rfl dX1_moveStretch_40 (fun H locs hw => ?_)
          have hf := Option.some.inj hf
          subst hf
          exact zk_retv (pc := 43) (ww := [xSh a0 a1 a2 a3, xI cy a1 8 b_this.1, xI cy a2 8 b_this.2.1, xRJ cy a3 8 (fun j => [some a4, some a5, some a6, some a7, some a8, some a9, some a10, some a11].getD j none), xJ cy a4 40 ((b_this.2.2 0)), xJ cy a5 40 ((b_this.2.2 1)), xJ cy a6 40 ((b_this.2.2 2)), xJ cy a7 40 ((b_this.2.2 3)), xJ cy a8 40 ((b_this.2.2 4)), xJ cy a9 40 ((b_this.2.2 5)), xJ cy a10 40 ((b_this.2.2 6)), xJ cy a11 40 ((va_cpy ((b_this.2.2 2)) ((b_this.2.2 7)) x3.toNatClampNeg x4.toNatClampNeg x5.toNatClampNeg))]) C hw hr hQ dX1_moveStretch_43
      · rw [e6] at hf
        refine zk_aaldJ (pc := 28) (a' := a7) 3 e6 C hw 3 rfl q5 rfl dX1_moveStretch_28 ?_
        refine lv_iload_n (pc := 29) hx hb dX1_moveStretch_29 rfl (lv_at hl 3 rfl) ?_
        refine lv_aload_n (pc := 30) hx hb dX1_moveStretch_30 rfl (lv_at hl 0 rfl) ?_
        refine zk_gt (pc := 31) C hw zl_X1_20 0 rfl rfl dX1_moveStretch_31 ?_
        refine lv_iload_n (pc := 34) hx hb dX1_moveStretch_34 rfl (lv_at hl 2 rfl) ?_
        obtain ⟨q51, hf⟩ := ck hf
        rcases ix8 q51 with e52 | e52 | e52 | e52 | e52 | e52 | e52 | e52
        · rw [e52] at hf
          refine zk_aaldJ (pc := 35) (a' := a4) 0 e52 C hw 3 rfl q51 rfl dX1_moveStretch_35 ?_
          refine lv_iload (pc := 36) hx hb dX1_moveStretch_36 (lv_at hl 4 rfl) ?_
          refine lv_iload (pc := 38) hx hb dX1_moveStretch_38 (lv_at hl 5 rfl) ?_
          obtain ⟨q54, hf⟩ := ck hf
          refine zk_copyJ (pc := 40) (w' := [xSh a0 a1 a2 a3, xI cy a1 8 b_this.1, xI cy a2 8 b_this.2.1, xRJ cy a3 8 (fun j => [some a4, some a5, some a6, some a7, some a8, some a9, some a10, some a11].getD j none), xJ cy a4 40 ((va_cpy ((b_this.2.2 3)) ((b_this.2.2 0)) x3.toNatClampNeg x4.toNatClampNeg x5.toNatClampNeg)), xJ cy a5 40 ((b_this.2.2 1)), xJ cy a6 40 ((b_this.2.2 2)), xJ cy a7 40 ((b_this.2.2 3)), xJ cy a8 40 ((b_this.2.2 4)), xJ cy a9 40 ((b_this.2.2 5)), xJ cy a10 40 ((b_this.2.2 6)), xJ cy a11 40 ((b_this.2.2 7))]) C hw hl.1 zm_X1_49 7 4 rfl rfl q54 ⟨Nat.le_of_ble_eq_true rfl, Nat.le_of_ble_eq_true rfl⟩ rfl dX1_moveStretch_40 (fun H locs hw => ?_)
          have hf := Option.some.inj hf
          subst hf
          exact zk_retv (pc := 43) (ww := [xSh a0 a1 a2 a3, xI cy a1 8 b_this.1, xI cy a2 8 b_this.2.1, xRJ cy a3 8 (fun j => [some a4, some a5, some a6, some a7, some a8, some a9, some a10, some a11].getD j none), xJ cy a4 40 ((va_cpy ((b_this.2.2 3)) ((b_this.2.2 0)) x3.toNatClampNeg x4.toNatClampNeg x5.toNatClampNeg)), xJ cy a5 40 ((b_this.2.2 1)), xJ cy a6 40 ((b_this.2.2 2)), xJ cy a7 40 ((b_this.2.2 3)), xJ cy a8 40 ((b_this.2.2 4)), xJ cy a9 40 ((b_this.2.2 5)), xJ cy a10 40 ((b_this.2.2 6)), xJ cy a11 40 ((b_this.2.2 7))]) C hw hr hQ dX1_moveStretch_43
        · rw [e52] at hf
          refine zk_aaldJ (pc := 35) (a' := a5) 1 e52 C hw 3 rfl q51 rfl dX1_moveStretch_35 ?_
          refine lv_iload (pc := 36) hx hb dX1_moveStretch_36 (lv_at hl 4 rfl) ?_
          refine lv_iload (pc := 38) hx hb dX1_moveStretch_38 (lv_at hl 5 rfl) ?_
          obtain ⟨q55, hf⟩ := ck hf
          refine zk_copyJ (pc := 40) (w' := [xSh a0 a1 a2 a3, xI cy a1 8 b_this.1, xI cy a2 8 b_this.2.1, xRJ cy a3 8 (fun j => [some a4, some a5, some a6, some a7, some a8, some a9, some a10, some a11].getD j none), xJ cy a4 40 ((b_this.2.2 0)), xJ cy a5 40 ((va_cpy ((b_this.2.2 3)) ((b_this.2.2 1)) x3.toNatClampNeg x4.toNatClampNeg x5.toNatClampNeg)), xJ cy a6 40 ((b_this.2.2 2)), xJ cy a7 40 ((b_this.2.2 3)), xJ cy a8 40 ((b_this.2.2 4)), xJ cy a9 40 ((b_this.2.2 5)), xJ cy a10 40 ((b_this.2.2 6)), xJ cy a11 40 ((b_this.2.2 7))]) C hw hl.1 zm_X1_49 7 5 rfl rfl q55 ⟨Nat.le_of_ble_eq_true rfl, Nat.le_of_ble_eq_true rfl⟩ rfl dX1_moveStretch_40 (fun H locs hw => ?_)
          have hf := Option.some.inj hf
          subst hf
          exact zk_retv (pc := 43) (ww := [xSh a0 a1 a2 a3, xI cy a1 8 b_this.1, xI cy a2 8 b_this.2.1, xRJ cy a3 8 (fun j => [some a4, some a5, some a6, some a7, some a8, some a9, some a10, some a11].getD j none), xJ cy a4 40 ((b_this.2.2 0)), xJ cy a5 40 ((va_cpy ((b_this.2.2 3)) ((b_this.2.2 1)) x3.toNatClampNeg x4.toNatClampNeg x5.toNatClampNeg)), xJ cy a6 40 ((b_this.2.2 2)), xJ cy a7 40 ((b_this.2.2 3)), xJ cy a8 40 ((b_this.2.2 4)), xJ cy a9 40 ((b_this.2.2 5)), xJ cy a10 40 ((b_this.2.2 6)), xJ cy a11 40 ((b_this.2.2 7))]) C hw hr hQ dX1_moveStretch_43
        · rw [e52] at hf
          refine zk_aaldJ (pc := 35) (a' := a6) 2 e52 C hw 3 rfl q51 rfl dX1_moveStretch_35 ?_
          refine lv_iload (pc := 36) hx hb dX1_moveStretch_36 (lv_at hl 4 rfl) ?_
          refine lv_iload (pc := 38) hx hb dX1_moveStretch_38 (lv_at hl 5 rfl) ?_
          obtain ⟨q56, hf⟩ := ck hf
          refine zk_copyJ (pc := 40) (w' := [xSh a0 a1 a2 a3, xI cy a1 8 b_this.1, xI cy a2 8 b_this.2.1, xRJ cy a3 8 (fun j => [some a4, some a5, some a6, some a7, some a8, some a9, some a10, some a11].getD j none), xJ cy a4 40 ((b_this.2.2 0)), xJ cy a5 40 ((b_this.2.2 1)), xJ cy a6 40 ((va_cpy ((b_this.2.2 3)) ((b_this.2.2 2)) x3.toNatClampNeg x4.toNatClampNeg x5.toNatClampNeg)), xJ cy a7 40 ((b_this.2.2 3)), xJ cy a8 40 ((b_this.2.2 4)), xJ cy a9 40 ((b_this.2.2 5)), xJ cy a10 40 ((b_this.2.2 6)), xJ cy a11 40 ((b_this.2.2 7))]) C hw hl.1 zm_X1_49 7 6 rfl rfl q56 ⟨Nat.le_of_ble_eq_true rfl, Nat.le_of_ble_eq_true rfl⟩ rfl dX1_moveStretch_40 (fun H locs hw => ?_)
          have hf := Option.some.inj hf
          subst hf
          exact zk_retv (pc := 43) (ww := [xSh a0 a1 a2 a3, xI cy a1 8 b_this.1, xI cy a2 8 b_this.2.1, xRJ cy a3 8 (fun j => [some a4, some a5, some a6, some a7, some a8, some a9, some a10, some a11].getD j none), xJ cy a4 40 ((b_this.2.2 0)), xJ cy a5 40 ((b_this.2.2 1)), xJ cy a6 40 ((va_cpy ((b_this.2.2 3)) ((b_this.2.2 2)) x3.toNatClampNeg x4.toNatClampNeg x5.toNatClampNeg)), xJ cy a7 40 ((b_this.2.2 3)), xJ cy a8 40 ((b_this.2.2 4)), xJ cy a9 40 ((b_this.2.2 5)), xJ cy a10 40 ((b_this.2.2 6)), xJ cy a11 40 ((b_this.2.2 7))]) C hw hr hQ dX1_moveStretch_43
        · rw [e52] at hf
          refine zk_aaldJ (pc := 35) (a' := a7) 3 e52 C hw 3 rfl q51 rfl dX1_moveStretch_35 ?_
          refine lv_iload (pc := 36) hx hb dX1_moveStretch_36 (lv_at hl 4 rfl) ?_
          refine lv_iload (pc := 38) hx hb dX1_moveStretch_38 (lv_at hl 5 rfl) ?_
          obtain ⟨q57, hf⟩ := ck hf
          refine zk_copyJ (pc := 40) (w' := [xSh a0 a1 a2 a3, xI cy a1 8 b_this.1, xI cy a2 8 b_this.2.1, xRJ cy a3 8 (fun j => [some a4, some a5, some a6, some a7, some a8, some a9, some a10, some a11].getD j none), xJ cy a4 40 ((b_this.2.2 0)), xJ cy a5 40 ((b_this.2.2 1)), xJ cy a6 40 ((b_this.2.2 2)), xJ cy a7 40 ((va_cpy ((b_this.2.2 3)) ((b_this.2.2 3)) x3.toNatClampNeg x4.toNatClampNeg x5.toNatClampNeg)), xJ cy a8 40 ((b_this.2.2 4)), xJ cy a9 40 ((b_this.2.2 5)), xJ cy a10 40 ((b_this.2.2 6)), xJ cy a11 40 ((b_this.2.2 7))]) C hw hl.1 zm_X1_49 7 7 rfl rfl q57 ⟨Nat.le_of_ble_eq_true rfl, Nat.le_of_ble_eq_true rfl⟩ rfl dX1_moveStretch_40 (fun H locs hw => ?_)
          have hf := Option.some.inj hf
          subst hf
          exact zk_retv (pc := 43) (ww := [xSh a0 a1 a2 a3, xI cy a1 8 b_this.1, xI cy a2 8 b_this.2.1, xRJ cy a3 8 (fun j => [some a4, some a5, some a6, some a7, some a8, some a9, some a10, some a11].getD j none), xJ cy a4 40 ((b_this.2.2 0)), xJ cy a5 40 ((b_this.2.2 1)), xJ cy a6 40 ((b_this.2.2 2)), xJ cy a7 40 ((va_cpy ((b_this.2.2 3)) ((b_this.2.2 3)) x3.toNatClampNeg x4.toNatClampNeg x5.toNatClampNeg)), xJ cy a8 40 ((b_this.2.2 4)), xJ cy a9 40 ((b_this.2.2 5)), xJ cy a10 40 ((b_this.2.2 6)), xJ cy a11 40 ((b_this.2.2 7))]) C hw hr hQ dX1_moveStretch_43
        · rw [e52] at hf
          refine zk_aaldJ (pc := 35) (a' := a8) 4 e52 C hw 3 rfl q51 rfl dX1_moveStretch_35 ?_
          refine lv_iload (pc := 36) hx hb dX1_moveStretch_36 (lv_at hl 4 rfl) ?_
          refine lv_iload (pc := 38) hx hb dX1_moveStretch_38 (lv_at hl 5 rfl) ?_
          obtain ⟨q58, hf⟩ := ck hf
          refine zk_copyJ (pc := 40) (w' := [xSh a0 a1 a2 a3, xI cy a1 8 b_this.1, xI cy a2 8 b_this.2.1, xRJ cy a3 8 (fun j => [some a4, some a5, some a6, some a7, some a8, some a9, some a10, some a11].getD j none), xJ cy a4 40 ((b_this.2.2 0)), xJ cy a5 40 ((b_this.2.2 1)), xJ cy a6 40 ((b_this.2.2 2)), xJ cy a7 40 ((b_this.2.2 3)), xJ cy a8 40 ((va_cpy ((b_this.2.2 3)) ((b_this.2.2 4)) x3.toNatClampNeg x4.toNatClampNeg x5.toNatClampNeg)), xJ cy a9 40 ((b_this.2.2 5)), xJ cy a10 40 ((b_this.2.2 6)), xJ cy a11 40 ((b_this.2.2 7))]) C hw hl.1 zm_X1_49 7 8 rfl rfl q58 ⟨Nat.le_of_ble_eq_true rfl, Nat.le_of_ble_eq_true rfl⟩ rfl dX1_moveStretch_40 (fun H locs hw => ?_)
          have hf := Option.some.inj hf
          subst hf
          exact zk_retv (pc := 43) (ww := [xSh a0 a1 a2 a3, xI cy a1 8 b_this.1, xI cy a2 8 b_this.2.1, xRJ cy a3 8 (fun j => [some a4, some a5, some a6, some a7, some a8, some a9, some a10, some a11].getD j none), xJ cy a4 40 ((b_this.2.2 0)), xJ cy a5 40 ((b_this.2.2 1)), xJ cy a6 40 ((b_this.2.2 2)), xJ cy a7 40 ((b_this.2.2 3)), xJ cy a8 40 ((va_cpy ((b_this.2.2 3)) ((b_this.2.2 4)) x3.toNatClampNeg x4.toNatClampNeg x5.toNatClampNeg)), xJ cy a9 40 ((b_this.2.2 5)), xJ cy a10 40 ((b_this.2.2 6)), xJ cy a11 40 ((b_this.2.2 7))]) C hw hr hQ dX1_moveStretch_43
        · rw [e52] at hf
          refine zk_aaldJ (pc := 35) (a' := a9) 5 e52 C hw 3 rfl q51 rfl dX1_moveStretch_35 ?_
          refine lv_iload (pc := 36) hx hb dX1_moveStretch_36 (lv_at hl 4 rfl) ?_
          refine lv_iload (pc := 38) hx hb dX1_moveStretch_38 (lv_at hl 5 rfl) ?_
          obtain ⟨q59, hf⟩ := ck hf
          refine zk_copyJ (pc := 40) (w' := [xSh a0 a1 a2 a3, xI cy a1 8 b_this.1, xI cy a2 8 b_this.2.1, xRJ cy a3 8 (fun j => [some a4, some a5, some a6, some a7, some a8, some a9, some a10, some a11].getD j none), xJ cy a4 40 ((b_this.2.2 0)), xJ cy a5 40 ((b_this.2.2 1)), xJ cy a6 40 ((b_this.2.2 2)), xJ cy a7 40 ((b_this.2.2 3)), xJ cy a8 40 ((b_this.2.2 4)), xJ cy a9 40 ((va_cpy ((b_this.2.2 3)) ((b_this.2.2 5)) x3.toNatClampNeg x4.toNatClampNeg x5.toNatClampNeg)), xJ cy a10 40 ((b_this.2.2 6)), xJ cy a11 40 ((b_this.2.2 7))]) C hw hl.1 zm_X1_49 7 9 rfl rfl q59 ⟨Nat.le_of_ble_eq_true rfl, Nat.le_of_ble_eq_true rfl⟩ rfl dX1_moveStretch_40 (fun H locs hw => ?_)
          have hf := Option.some.inj hf
          subst hf
          exact zk_retv (pc := 43) (ww := [xSh a0 a1 a2 a3, xI cy a1 8 b_this.1, xI cy a2 8 b_this.2.1, xRJ cy a3 8 (fun j => [some a4, some a5, some a6, some a7, some a8, some a9, some a10, some a11].getD j none), xJ cy a4 40 ((b_this.2.2 0)), xJ cy a5 40 ((b_this.2.2 1)), xJ cy a6 40 ((b_this.2.2 2)), xJ cy a7 40 ((b_this.2.2 3)), xJ cy a8 40 ((b_this.2.2 4)), xJ cy a9 40 ((va_cpy ((b_this.2.2 3)) ((b_this.2.2 5)) x3.toNatClampNeg x4.toNatClampNeg x5.toNatClampNeg)), xJ cy a10 40 ((b_this.2.2 6)), xJ cy a11 40 ((b_this.2.2 7))]) C hw hr hQ dX1_moveStretch_43
        · rw [e52] at hf
          refine zk_aaldJ (pc := 35) (a' := a10) 6 e52 C hw 3 rfl q51 rfl dX1_moveStretch_35 ?_
          refine lv_iload (pc := 36) hx hb dX1_moveStretch_36 (lv_at hl 4 rfl) ?_
          refine lv_iload (pc := 38) hx hb dX1_moveStretch_38 (lv_at hl 5 rfl) ?_
          obtain ⟨q60, hf⟩ := ck hf
          refine zk_copyJ (pc := 40) (w' := [xSh a0 a1 a2 a3, xI cy a1 8 b_this.1, xI cy a2 8 b_this.2.1, xRJ cy a3 8 (fun j => [some a4, some a5, some a6, some a7, some a8, some a9, some a10, some a11].getD j none), xJ cy a4 40 ((b_this.2.2 0)), xJ cy a5 40 ((b_this.2.2 1)), xJ cy a6 40 ((b_this.2.2 2)), xJ cy a7 40 ((b_this.2.2 3)), xJ cy a8 40 ((b_this.2.2 4)), xJ cy a9 40 ((b_this.2.2 5)), xJ cy a10 40 ((va_cpy ((b_this.2.2 3)) ((b_this.2.2 6)) x3.toNatClampNeg x4.toNatClampNeg x5.toNatClampNeg)), xJ cy a11 40 ((b_this.2.2 7))]) C hw hl.1 zm_X1_49 7 10 rfl rfl q60 ⟨Nat.le_of_ble_eq_true rfl, Nat.le_of_ble_eq_true rfl⟩ rfl dX1_moveStretch_40 (fun H locs hw => ?_)
          have hf := Option.some.inj hf
          subst hf
          exact zk_retv (pc := 43) (ww := [xSh a0 a1 a2 a3, xI cy a1 8 b_this.1, xI cy a2 8 b_this.2.1, xRJ cy a3 8 (fun j => [some a4, some a5, some a6, some a7, some a8, some a9, some a10, some a11].getD j none), xJ cy a4 40 ((b_this.2.2 0)), xJ cy a5 40 ((b_this.2.2 1)), xJ cy a6 40 ((b_this.2.2 2)), xJ cy a7 40 ((b_this.2.2 3)), xJ cy a8 40 ((b_this.2.2 4)), xJ cy a9 40 ((b_this.2.2 5)), xJ cy a10 40 ((va_cpy ((b_this.2.2 3)) ((b_this.2.2 6)) x3.toNatClampNeg x4.toNatClampNeg x5.toNatClampNeg)), xJ cy a11 40 ((b_this.2.2 7))]) C hw hr hQ dX1_moveStretch_43
        · rw [e52] at hf
          refine zk_aaldJ (pc := 35) (a' := a11) 7 e52 C hw 3 rfl q51 rfl dX1_moveStretch_35 ?_
          refine lv_iload (pc := 36) hx hb dX1_moveStretch_36 (lv_at hl 4 rfl) ?_
          refine lv_iload (pc := 38) hx hb dX1_moveStretch_38 (lv_at hl 5 rfl) ?_
          obtain ⟨q61, hf⟩ := ck hf
          refine zk_copyJ (pc := 40) (w' := [xSh a0 a1 a2 a3, xI cy a1 8 b_this.1, xI cy a2 8 b_this.2.1, xRJ cy a3 8 (fun j => [some a4, some a5, some a6, some a7, some a8, some a9, some a10, some a11].getD j none), xJ cy a4 40 ((b_this.2.2 0)), xJ cy a5 40 ((b_this.2.2 1)), xJ cy a6 40 ((b_this.2.2 2)), xJ cy a7 40 ((b_this.2.2 3)), xJ cy a8 40 ((b_this.2.2 4)), xJ cy a9 40 ((b_this.2.2 5)), xJ cy a10 40 ((b_this.2.2 6)), xJ cy a11 40 ((va_cpy ((b_this.2.2 3)) ((b_this.2.2 7)) x3.toNatClampNeg x4.toNatClampNeg x5.toNatClampNeg))]) C hw hl.1 zm_X1_49 7 11 rfl rfl q61 ⟨Nat.le_of_ble_eq_true rfl, Nat.le_of_ble_eq_true rfl⟩ rfl dX1_moveStretch_40 (fun H locs hw => ?_)
          have hf := Option.some.inj hf
          subst hf
          exact zk_retv (pc := 43) (ww := [xSh a0 a1 a2 a3, xI cy a1 8 b_this.1, xI cy a2 8 b_this.2.1, xRJ cy a3 8 (fun j => [some a4, some a5, some a6, some a7, some a8, some a9, some a10, some a11].getD j none), xJ cy a4 40 ((b_this.2.2 0)), xJ cy a5 40 ((b_this.2.2 1)), xJ cy a6 40 ((b_this.2.2 2)), xJ cy a7 40 ((b_this.2.2 3)), xJ cy a8 40 ((b_this.2.2 4)), xJ cy a9 40 ((b_this.2.2 5)), xJ cy a10 40 ((b_this.2.2 6)), xJ cy a11 40 ((va_cpy ((b_this.2.2 3)) ((b_this.2.2 7)) x3.toNatClampNeg x4.toNatClampNeg x5.toNatClampNeg))]) C hw hr hQ dX1_moveStretch_43
      · rw [e6] at hf
        refine zk_aaldJ (pc := 28) (a' := a8) 4 e6 C hw 3 rfl q5 rfl dX1_moveStretch_28 ?_
        refine lv_iload_n (pc := 29) hx hb dX1_moveStretch_29 rfl (lv_at hl 3 rfl) ?_
        refine lv_aload_n (pc := 30) hx hb dX1_moveStretch_30 rfl (lv_at hl 0 rfl) ?_
        refine zk_gt (pc := 31) C hw zl_X1_20 0 rfl rfl dX1_moveStretch_31 ?_
        refine lv_iload_n (pc := 34) hx hb dX1_moveStretch_34 rfl (lv_at hl 2 rfl) ?_
        obtain ⟨q62, hf⟩ := ck hf
        rcases ix8 q62 with e63 | e63 | e63 | e63 | e63 | e63 | e63 | e63
        · rw [e63] at hf
          refine zk_aaldJ (pc := 35) (a' := a4) 0 e63 C hw 3 rfl q62 rfl dX1_moveStretch_35 ?_
          refine lv_iload (pc := 36) hx hb dX1_moveStretch_36 (lv_at hl 4 rfl) ?_
          refine lv_iload (pc := 38) hx hb dX1_moveStretch_38 (lv_at hl 5 rfl) ?_
          obtain ⟨q65, hf⟩ := ck hf
          refine zk_copyJ (pc := 40) (w' := [xSh a0 a1 a2 a3, xI cy a1 8 b_this.1, xI cy a2 8 b_this.2.1, xRJ cy a3 8 (fun j => [some a4, some a5, some a6, some a7, some a8, some a9, some a10, some a11].getD j none), xJ cy a4 40 ((va_cpy ((b_this.2.2 4)) ((b_this.2.2 0)) x3.toNatClampNeg x4.toNatClampNeg x5.toNatClampNeg)), xJ cy a5 40 ((b_this.2.2 1)), xJ cy a6 40 ((b_this.2.2 2)), xJ cy a7 40 ((b_this.2.2 3)), xJ cy a8 40 ((b_this.2.2 4)), xJ cy a9 40 ((b_this.2.2 5)), xJ cy a10 40 ((b_this.2.2 6)), xJ cy a11 40 ((b_this.2.2 7))]) C hw hl.1 zm_X1_49 8 4 rfl rfl q65 ⟨Nat.le_of_ble_eq_true rfl, Nat.le_of_ble_eq_true rfl⟩ rfl dX1_moveStretch_40 (fun H locs hw => ?_)
          have hf := Option.some.inj hf
          subst hf
          exact zk_retv (pc := 43) (ww := [xSh a0 a1 a2 a3, xI cy a1 8 b_this.1, xI cy a2 8 b_this.2.1, xRJ cy a3 8 (fun j => [some a4, some a5, some a6, some a7, some a8, some a9, some a10, some a11].getD j none), xJ cy a4 40 ((va_cpy ((b_this.2.2 4)) ((b_this.2.2 0)) x3.toNatClampNeg x4.toNatClampNeg x5.toNatClampNeg)), xJ cy a5 40 ((b_this.2.2 1)), xJ cy a6 40 ((b_this.2.2 2)), xJ cy a7 40 ((b_this.2.2 3)), xJ cy a8 40 ((b_this.2.2 4)), xJ cy a9 40 ((b_this.2.2 5)), xJ cy a10 40 ((b_this.2.2 6)), xJ cy a11 40 ((b_this.2.2 7))]) C hw hr hQ dX1_moveStretch_43
        · rw [e63] at hf
          refine zk_aaldJ (pc := 35) (a' := a5) 1 e63 C hw 3 rfl q62 rfl dX1_moveStretch_35 ?_
          refine lv_iload (pc := 36) hx hb dX1_moveStretch_36 (lv_at hl 4 rfl) ?_
          refine lv_iload (pc := 38) hx hb dX1_moveStretch_38 (lv_at hl 5 rfl) ?_
          obtain ⟨q66, hf⟩ := ck hf
          refine zk_copyJ (pc := 40) (w' := [xSh a0 a1 a2 a3, xI cy a1 8 b_this.1, xI cy a2 8 b_this.2.1, xRJ cy a3 8 (fun j => [some a4, some a5, some a6, some a7, some a8, some a9, some a10, some a11].getD j none), xJ cy a4 40 ((b_this.2.2 0)), xJ cy a5 40 ((va_cpy ((b_this.2.2 4)) ((b_this.2.2 1)) x3.toNatClampNeg x4.toNatClampNeg x5.toNatClampNeg)), xJ cy a6 40 ((b_this.2.2 2)), xJ cy a7 40 ((b_this.2.2 3)), xJ cy a8 40 ((b_this.2.2 4)), xJ cy a9 40 ((b_this.2.2 5)), xJ cy a10 40 ((b_this.2.2 6)), xJ cy a11 40 ((b_this.2.2 7))]) C hw hl.1 zm_X1_49 8 5 rfl rfl q66 ⟨Nat.le_of_ble_eq_true rfl, Nat.le_of_ble_eq_true rfl⟩ rfl dX1_moveStretch_40 (fun H locs hw => ?_)
          have hf := Option.some.inj hf
          subst hf
          exact zk_retv (pc := 43) (ww := [xSh a0 a1 a2 a3, xI cy a1 8 b_this.1, xI cy a2 8 b_this.2.1, xRJ cy a3 8 (fun j => [some a4, some a5, some a6, some a7, some a8, some a9, some a10, some a11].getD j none), xJ cy a4 40 ((b_this.2.2 0)), xJ cy a5 40 ((va_cpy ((b_this.2.2 4)) ((b_this.2.2 1)) x3.toNatClampNeg x4.toNatClampNeg x5.toNatClampNeg)), xJ cy a6 40 ((b_this.2.2 2)), xJ cy a7 40 ((b_this.2.2 3)), xJ cy a8 40 ((b_this.2.2 4)), xJ cy a9 40 ((b_this.2.2 5)), xJ cy a10 40 ((b_this.2.2 6)), xJ cy a11 40 ((b_this.2.2 7))]) C hw hr hQ dX1_moveStretch_43
        · rw [e63] at hf
          refine zk_aaldJ (pc := 35) (a' := a6) 2 e63 C hw 3 rfl q62 rfl dX1_moveStretch_35 ?_
          refine lv_iload (pc := 36) hx hb dX1_moveStretch_36 (lv_at hl 4 rfl) ?_
          refine lv_iload (pc := 38) hx hb dX1_moveStretch_38 (lv_at hl 5 rfl) ?_
          obtain ⟨q67, hf⟩ := ck hf
          refine zk_copyJ (pc := 40) (w' := [xSh a0 a1 a2 a3, xI cy a1 8 b_this.1, xI cy a2 8 b_this.2.1, xRJ cy a3 8 (fun j => [some a4, some a5, some a6, some a7, some a8, some a9, some a10, some a11].getD j none), xJ cy a4 40 ((b_this.2.2 0)), xJ cy a5 40 ((b_this.2.2 1)), xJ cy a6 40 ((va_cpy ((b_this.2.2 4)) ((b_this.2.2 2)) x3.toNatClampNeg x4.toNatClampNeg x5.toNatClampNeg)), xJ cy a7 40 ((b_this.2.2 3)), xJ cy a8 40 ((b_this.2.2 4)), xJ cy a9 40 ((b_this.2.2 5)), xJ cy a10 40 ((b_this.2.2 6)), xJ cy a11 40 ((b_this.2.2 7))]) C hw hl.1 zm_X1_49 8 6 rfl rfl q67 ⟨Nat.le_of_ble_eq_true rfl, Nat.le_of_ble_eq_true rfl⟩ rfl dX1_moveStretch_40 (fun H locs hw => ?_)
          have hf := Option.some.inj hf
          subst hf
          exact zk_retv (pc := 43) (ww := [xSh a0 a1 a2 a3, xI cy a1 8 b_this.1, xI cy a2 8 b_this.2.1, xRJ cy a3 8 (fun j => [some a4, some a5, some a6, some a7, some a8, some a9, some a10, some a11].getD j none), xJ cy a4 40 ((b_this.2.2 0)), xJ cy a5 40 ((b_this.2.2 1)), xJ cy a6 40 ((va_cpy ((b_this.2.2 4)) ((b_this.2.2 2)) x3.toNatClampNeg x4.toNatClampNeg x5.toNatClampNeg)), xJ cy a7 40 ((b_this.2.2 3)), xJ cy a8 40 ((b_this.2.2 4)), xJ cy a9 40 ((b_this.2.2 5)), xJ cy a10 40 ((b_this.2.2 6)), xJ cy a11 40 ((b_this.2.2 7))]) C hw hr hQ dX1_moveStretch_43
        · rw [e63] at hf
          refine zk_aaldJ (pc := 35) (a' := a7) 3 e63 C hw 3 rfl q62 rfl dX1_moveStretch_35 ?_
          refine lv_iload (pc := 36) hx hb dX1_moveStretch_36 (lv_at hl 4 rfl) ?_
          refine lv_iload (pc := 38) hx hb dX1_moveStretch_38 (lv_at hl 5 rfl) ?_
          obtain ⟨q68, hf⟩ := ck hf
          refine zk_copyJ (pc := 40) (w' := [xSh a0 a1 a2 a3, xI cy a1 8 b_this.1, xI cy a2 8 b_this.2.1, xRJ cy a3 8 (fun j => [some a4, some a5, some a6, some a7, some a8, some a9, some a10, some a11].getD j none), xJ cy a4 40 ((b_this.2.2 0)), xJ cy a5 40 ((b_this.2.2 1)), xJ cy a6 40 ((b_this.2.2 2)), xJ cy a7 40 ((va_cpy ((b_this.2.2 4)) ((b_this.2.2 3)) x3.toNatClampNeg x4.toNatClampNeg x5.toNatClampNeg)), xJ cy a8 40 ((b_this.2.2 4)), xJ cy a9 40 ((b_this.2.2 5)), xJ cy a10 40 ((b_this.2.2 6)), xJ cy a11 40 ((b_this.2.2 7))]) C hw hl.1 zm_X1_49 8 7 rfl rfl q68 ⟨Nat.le_of_ble_eq_true rfl, Nat.le_of_ble_eq_true rfl⟩ rfl dX1_moveStretch_40 (fun H locs hw => ?_)
          have hf := Option.some.inj hf
          subst hf
          exact zk_retv (pc := 43) (ww := [xSh a0 a1 a2 a3, xI cy a1 8 b_this.1, xI cy a2 8 b_this.2.1, xRJ cy a3 8 (fun j => [some a4, some a5, some a6, some a7, some a8, some a9, some a10, some a11].getD j none), xJ cy a4 40 ((b_this.2.2 0)), xJ cy a5 40 ((b_this.2.2 1)), xJ cy a6 40 ((b_this.2.2 2)), xJ cy a7 40 ((va_cpy ((b_this.2.2 4)) ((b_this.2.2 3)) x3.toNatClampNeg x4.toNatClampNeg x5.toNatClampNeg)), xJ cy a8 40 ((b_this.2.2 4)), xJ cy a9 40 ((b_this.2.2 5)), xJ cy a10 40 ((b_this.2.2 6)), xJ cy a11 40 ((b_this.2.2 7))]) C hw hr hQ dX1_moveStretch_43
        · rw [e63] at hf
          refine zk_aaldJ (pc := 35) (a' := a8) 4 e63 C hw 3 rfl q62 rfl dX1_moveStretch_35 ?_
          refine lv_iload (pc := 36) hx hb dX1_moveStretch_36 (lv_at hl 4 rfl) ?_
          refine lv_iload (pc := 38) hx hb dX1_moveStretch_38 (lv_at hl 5 rfl) ?_
          obtain ⟨q69, hf⟩ := ck hf
          refine zk_copyJ (pc := 40) (w' := [xSh a0 a1 a2 a3, xI cy a1 8 b_this.1, xI cy a2 8 b_this.2.1, xRJ cy a3 8 (fun j => [some a4, some a5, some a6, some a7, some a8, some a9, some a10, some a11].getD j none), xJ cy a4 40 ((b_this.2.2 0)), xJ cy a5 40 ((b_this.2.2 1)), xJ cy a6 40 ((b_this.2.2 2)), xJ cy a7 40 ((b_this.2.2 3)), xJ cy a8 40 ((va_cpy ((b_this.2.2 4)) ((b_this.2.2 4)) x3.toNatClampNeg x4.toNatClampNeg x5.toNatClampNeg)), xJ cy a9 40 ((b_this.2.2 5)), xJ cy a10 40 ((b_this.2.2 6)), xJ cy a11 40 ((b_this.2.2 7))]) C hw hl.1 zm_X1_49 8 8 rfl rfl q69 ⟨Nat.le_of_ble_eq_true rfl, Nat.le_of_ble_eq_true rfl⟩ rfl dX1_moveStretch_40 (fun H locs hw => ?_)
          have hf := Option.some.inj hf
          subst hf
          exact zk_retv (pc := 43) (ww := [xSh a0 a1 a2 a3, xI cy a1 8 b_this.1, xI cy a2 8 b_this.2.1, xRJ cy a3 8 (fun j => [some a4, some a5, some a6, some a7, some a8, some a9, some a10, some a11].getD j none), xJ cy a4 40 ((b_this.2.2 0)), xJ cy a5 40 ((b_this.2.2 1)), xJ cy a6 40 ((b_this.2.2 2)), xJ cy a7 40 ((b_this.2.2 3)), xJ cy a8 40 ((va_cpy ((b_this.2.2 4)) ((b_this.2.2 4)) x3.toNatClampNeg x4.toNatClampNeg x5.toNatClampNeg)), xJ cy a9 40 ((b_this.2.2 5)), xJ cy a10 40 ((b_this.2.2 6)), xJ cy a11 40 ((b_this.2.2 7))]) C hw hr hQ dX1_moveStretch_43
        · rw [e63] at hf
          refine zk_aaldJ (pc := 35) (a' := a9) 5 e63 C hw 3 rfl q62 rfl dX1_moveStretch_35 ?_
          refine lv_iload (pc := 36) hx hb dX1_moveStretch_36 (lv_at hl 4 rfl) ?_
          refine lv_iload (pc := 38) hx hb dX1_moveStretch_38 (lv_at hl 5 rfl) ?_
          obtain ⟨q70, hf⟩ := ck hf
          refine zk_copyJ (pc := 40) (w' := [xSh a0 a1 a2 a3, xI cy a1 8 b_this.1, xI cy a2 8 b_this.2.1, xRJ cy a3 8 (fun j => [some a4, some a5, some a6, some a7, some a8, some a9, some a10, some a11].getD j none), xJ cy a4 40 ((b_this.2.2 0)), xJ cy a5 40 ((b_this.2.2 1)), xJ cy a6 40 ((b_this.2.2 2)), xJ cy a7 40 ((b_this.2.2 3)), xJ cy a8 40 ((b_this.2.2 4)), xJ cy a9 40 ((va_cpy ((b_this.2.2 4)) ((b_this.2.2 5)) x3.toNatClampNeg x4.toNatClampNeg x5.toNatClampNeg)), xJ cy a10 40 ((b_this.2.2 6)), xJ cy a11 40 ((b_this.2.2 7))]) C hw hl.1 zm_X1_49 8 9 rfl rfl q70 ⟨Nat.le_of_ble_eq_true rfl, Nat.le_of_ble_eq_true rfl⟩ rfl dX1_moveStretch_40 (fun H locs hw => ?_)
          have hf := Option.some.inj hf
          subst hf
          exact zk_retv (pc := 43) (ww := [xSh a0 a1 a2 a3, xI cy a1 8 b_this.1, xI cy a2 8 b_this.2.1, xRJ cy a3 8 (fun j => [some a4, some a5, some a6, some a7, some a8, some a9, some a10, some a11].getD j none), xJ cy a4 40 ((b_this.2.2 0)), xJ cy a5 40 ((b_this.2.2 1)), xJ cy a6 40 ((b_this.2.2 2)), xJ cy a7 40 ((b_this.2.2 3)), xJ cy a8 40 ((b_this.2.2 4)), xJ cy a9 40 ((va_cpy ((b_this.2.2 4)) ((b_this.2.2 5)) x3.toNatClampNeg x4.toNatClampNeg x5.toNatClampNeg)), xJ cy a10 40 ((b_this.2.2 6)), xJ cy a11 40 ((b_this.2.2 7))]) C hw hr hQ dX1_moveStretch_43
        · rw [e63] at hf
          refine zk_aaldJ (pc := 35) (a' := a10) 6 e63 C hw 3 rfl q62 rfl dX1_moveStretch_35 ?_
          refine lv_iload (pc := 36) hx hb dX1_moveStretch_36 (lv_at hl 4 rfl) ?_
          refine lv_iload (pc := 38) hx hb dX1_moveStretch_38 (lv_at hl 5 rfl) ?_
          obtain ⟨q71, hf⟩ := ck hf
          refine zk_copyJ (pc := 40) (w' := [xSh a0 a1 a2 a3, xI cy a1 8 b_this.1, xI cy a2 8 b_this.2.1, xRJ cy a3 8 (fun j => [some a4, some a5, some a6, some a7, some a8, some a9, some a10, some a11].getD j none), xJ cy a4 40 ((b_this.2.2 0)), xJ cy a5 40 ((b_this.2.2 1)), xJ cy a6 40 ((b_this.2.2 2)), xJ cy a7 40 ((b_this.2.2 3)), xJ cy a8 40 ((b_this.2.2 4)), xJ cy a9 40 ((b_this.2.2 5)), xJ cy a10 40 ((va_cpy ((b_this.2.2 4)) ((b_this.2.2 6)) x3.toNatClampNeg x4.toNatClampNeg x5.toNatClampNeg)), xJ cy a11 40 ((b_this.2.2 7))]) C hw hl.1 zm_X1_49 8 10 rfl rfl q71 ⟨Nat.le_of_ble_eq_true rfl, Nat.le_of_ble_eq_true rfl⟩ rfl dX1_moveStretch_40 (fun H locs hw => ?_)
          have hf := Option.some.inj hf
          subst hf
          exact zk_retv (pc := 43) (ww := [xSh a0 a1 a2 a3, xI cy a1 8 b_this.1, xI cy a2 8 b_this.2.1, xRJ cy a3 8 (fun j => [some a4, some a5, some a6, some a7, some a8, some a9, some a10, some a11].getD j none), xJ cy a4 40 ((b_this.2.2 0)), xJ cy a5 40 ((b_this.2.2 1)), xJ cy a6 40 ((b_this.2.2 2)), xJ cy a7 40 ((b_this.2.2 3)), xJ cy a8 40 ((b_this.2.2 4)), xJ cy a9 40 ((b_this.2.2 5)), xJ cy a10 40 ((va_cpy ((b_this.2.2 4)) ((b_this.2.2 6)) x3.toNatClampNeg x4.toNatClampNeg x5.toNatClampNeg)), xJ cy a11 40 ((b_this.2.2 7))]) C hw hr hQ dX1_moveStretch_43
        · rw [e63] at hf
          refine zk_aaldJ (pc := 35) (a' := a11) 7 e63 C hw 3 rfl q62 rfl dX1_moveStretch_35 ?_
          refine lv_iload (pc := 36) hx hb dX1_moveStretch_36 (lv_at hl 4 rfl) ?_
          refine lv_iload (pc := 38) hx hb dX1_moveStretch_38 (lv_at hl 5 rfl) ?_
          obtain ⟨q72, hf⟩ := ck hf
          refine zk_copyJ (pc := 40) (w' := [xSh a0 a1 a2 a3, xI cy a1 8 b_this.1, xI cy a2 8 b_this.2.1, xRJ cy a3 8 (fun j => [some a4, some a5, some a6, some a7, some a8, some a9, some a10, some a11].getD j none), xJ cy a4 40 ((b_this.2.2 0)), xJ cy a5 40 ((b_this.2.2 1)), xJ cy a6 40 ((b_this.2.2 2)), xJ cy a7 40 ((b_this.2.2 3)), xJ cy a8 40 ((b_this.2.2 4)), xJ cy a9 40 ((b_this.2.2 5)), xJ cy a10 40 ((b_this.2.2 6)), xJ cy a11 40 ((va_cpy ((b_this.2.2 4)) ((b_this.2.2 7)) x3.toNatClampNeg x4.toNatClampNeg x5.toNatClampNeg))]) C hw hl.1 zm_X1_49 8 11 rfl rfl q72 ⟨Nat.le_of_ble_eq_true rfl, Nat.le_of_ble_eq_true rfl⟩ rfl dX1_moveStretch_40 (fun H locs hw => ?_)
          have hf := Option.some.inj hf
          subst hf
          exact zk_retv (pc := 43) (ww := [xSh a0 a1 a2 a3, xI cy a1 8 b_this.1, xI cy a2 8 b_this.2.1, xRJ cy a3 8 (fun j => [some a4, some a5, some a6, some a7, some a8, some a9, some a10, some a11].getD j none), xJ cy a4 40 ((b_this.2.2 0)), xJ cy a5 40 ((b_this.2.2 1)), xJ cy a6 40 ((b_this.2.2 2)), xJ cy a7 40 ((b_this.2.2 3)), xJ cy a8 40 ((b_this.2.2 4)), xJ cy a9 40 ((b_this.2.2 5)), xJ cy a10 40 ((b_this.2.2 6)), xJ cy a11 40 ((va_cpy ((b_this.2.2 4)) ((b_this.2.2 7)) x3.toNatClampNeg x4.toNatClampNeg x5.toNatClampNeg))]) C hw hr hQ dX1_moveStretch_43
      · rw [e6] at hf
        refine zk_aaldJ (pc := 28) (a' := a9) 5 e6 C hw 3 rfl q5 rfl dX1_moveStretch_28 ?_
        refine lv_iload_n (pc := 29) hx hb dX1_moveStretch_29 rfl (lv_at hl 3 rfl) ?_
        refine lv_aload_n (pc := 30) hx hb dX1_moveStretch_30 rfl (lv_at hl 0 rfl) ?_
        refine zk_gt (pc := 31) C hw zl_X1_20 0 rfl rfl dX1_moveStretch_31 ?_
        refine lv_iload_n (pc := 34) hx hb dX1_moveStretch_34 rfl (lv_at hl 2 rfl) ?_
        obtain ⟨q73, hf⟩ := ck hf
        rcases ix8 q73 with e74 | e74 | e74 | e74 | e74 | e74 | e74 | e74
        · rw [e74] at hf
          refine zk_aaldJ (pc := 35) (a' := a4) 0 e74 C hw 3 rfl q73 rfl dX1_moveStretch_35 ?_
          refine lv_iload (pc := 36) hx hb dX1_moveStretch_36 (lv_at hl 4 rfl) ?_
          refine lv_iload (pc := 38) hx hb dX1_moveStretch_38 (lv_at hl 5 rfl) ?_
          obtain ⟨q76, hf⟩ := ck hf
          refine zk_copyJ (pc := 40) (w' := [xSh a0 a1 a2 a3, xI cy a1 8 b_this.1, xI cy a2 8 b_this.2.1, xRJ cy a3 8 (fun j => [some a4, some a5, some a6, some a7, some a8, some a9, some a10, some a11].getD j none), xJ cy a4 40 ((va_cpy ((b_this.2.2 5)) ((b_this.2.2 0)) x3.toNatClampNeg x4.toNatClampNeg x5.toNatClampNeg)), xJ cy a5 40 ((b_this.2.2 1)), xJ cy a6 40 ((b_this.2.2 2)), xJ cy a7 40 ((b_this.2.2 3)), xJ cy a8 40 ((b_this.2.2 4)), xJ cy a9 40 ((b_this.2.2 5)), xJ cy a10 40 ((b_this.2.2 6)), xJ cy a11 40 ((b_this.2.2 7))]) C hw hl.1 zm_X1_49 9 4 rfl rfl q76 ⟨Nat.le_of_ble_eq_true rfl, Nat.le_of_ble_eq_true rfl⟩ rfl dX1_moveStretch_40 (fun H locs hw => ?_)
          have hf := Option.some.inj hf
          subst hf
          exact zk_retv (pc := 43) (ww := [xSh a0 a1 a2 a3, xI cy a1 8 b_this.1, xI cy a2 8 b_this.2.1, xRJ cy a3 8 (fun j => [some a4, some a5, some a6, some a7, some a8, some a9, some a10, some a11].getD j none), xJ cy a4 40 ((va_cpy ((b_this.2.2 5)) ((b_this.2.2 0)) x3.toNatClampNeg x4.toNatClampNeg x5.toNatClampNeg)), xJ cy a5 40 ((b_this.2.2 1)), xJ cy a6 40 ((b_this.2.2 2)), xJ cy a7 40 ((b_this.2.2 3)), xJ cy a8 40 ((b_this.2.2 4)), xJ cy a9 40 ((b_this.2.2 5)), xJ cy a10 40 ((b_this.2.2 6)), xJ cy a11 40 ((b_this.2.2 7))]) C hw hr hQ dX1_moveStretch_43
        · rw [e74] at hf
          refine zk_aaldJ (pc := 35) (a' := a5) 1 e74 C hw 3 rfl q73 rfl dX1_moveStretch_35 ?_
          refine lv_iload (pc := 36) hx hb dX1_moveStretch_36 (lv_at hl 4 rfl) ?_
          refine lv_iload (pc := 38) hx hb dX1_moveStretch_38 (lv_at hl 5 rfl) ?_
          obtain ⟨q77, hf⟩ := ck hf
          refine zk_copyJ (pc := 40) (w' := [xSh a0 a1 a2 a3, xI cy a1 8 b_this.1, xI cy a2 8 b_this.2.1, xRJ cy a3 8 (fun j => [some a4, some a5, some a6, some a7, some a8, some a9, some a10, some a11].getD j none), xJ cy a4 40 ((b_this.2.2 0)), xJ cy a5 40 ((va_cpy ((b_this.2.2 5)) ((b_this.2.2 1)) x3.toNatClampNeg x4.toNatClampNeg x5.toNatClampNeg)), xJ cy a6 40 ((b_this.2.2 2)), xJ cy a7 40 ((b_this.2.2 3)), xJ cy a8 40 ((b_this.2.2 4)), xJ cy a9 40 ((b_this.2.2 5)), xJ cy a10 40 ((b_this.2.2 6)), xJ cy a11 40 ((b_this.2.2 7))]) C hw hl.1 zm_X1_49 9 5 rfl rfl q77 ⟨Nat.le_of_ble_eq_true rfl, Nat.le_of_ble_eq_true rfl⟩ rfl dX1_moveStretch_40 (fun H locs hw => ?_)
          have hf := Option.some.inj hf
          subst hf
          exact zk_retv (pc := 43) (ww := [xSh a0 a1 a2 a3, xI cy a1 8 b_this.1, xI cy a2 8 b_this.2.1, xRJ cy a3 8 (fun j => [some a4, some a5, some a6, some a7, some a8, some a9, some a10, some a11].getD j none), xJ cy a4 40 ((b_this.2.2 0)), xJ cy a5 40 ((va_cpy ((b_this.2.2 5)) ((b_this.2.2 1)) x3.toNatClampNeg x4.toNatClampNeg x5.toNatClampNeg)), xJ cy a6 40 ((b_this.2.2 2)), xJ cy a7 40 ((b_this.2.2 3)), xJ cy a8 40 ((b_this.2.2 4)), xJ cy a9 40 ((b_this.2.2 5)), xJ cy a10 40 ((b_this.2.2 6)), xJ cy a11 40 ((b_this.2.2 7))]) C hw hr hQ dX1_moveStretch_43
        · rw [e74] at hf
          refine zk_aaldJ (pc := 35) (a' := a6) 2 e74 C hw 3 rfl q73 rfl dX1_moveStretch_35 ?_
          refine lv_iload (pc := 36) hx hb dX1_moveStretch_36 (lv_at hl 4 rfl) ?_
          refine lv_iload (pc := 38) hx hb dX1_moveStretch_38 (lv_at hl 5 rfl) ?_
          obtain ⟨q78, hf⟩ := ck hf
          refine zk_copyJ (pc := 40) (w' := [xSh a0 a1 a2 a3, xI cy a1 8 b_this.1, xI cy a2 8 b_this.2.1, xRJ cy a3 8 (fun j => [some a4, some a5, some a6, some a7, some a8, some a9, some a10, some a11].getD j none), xJ cy a4 40 ((b_this.2.2 0)), xJ cy a5 40 ((b_this.2.2 1)), xJ cy a6 40 ((va_cpy ((b_this.2.2 5)) ((b_this.2.2 2)) x3.toNatClampNeg x4.toNatClampNeg x5.toNatClampNeg)), xJ cy a7 40 ((b_this.2.2 3)), xJ cy a8 40 ((b_this.2.2 4)), xJ cy a9 40 ((b_this.2.2 5)), xJ cy a10 40 ((b_this.2.2 6)), xJ cy a11 40 ((b_this.2.2 7))]) C hw hl.1 zm_X1_49 9 6 rfl rfl q78 ⟨Nat.le_of_ble_eq_true rfl, Nat.le_of_ble_eq_true rfl⟩ rfl dX1_moveStretch_40 (fun H locs hw => ?_)
          have hf := Option.some.inj hf
          subst hf
          exact zk_retv (pc := 43) (ww := [xSh a0 a1 a2 a3, xI cy a1 8 b_this.1, xI cy a2 8 b_this.2.1, xRJ cy a3 8 (fun j => [some a4, some a5, some a6, some a7, some a8, some a9, some a10, some a11].getD j none), xJ cy a4 40 ((b_this.2.2 0)), xJ cy a5 40 ((b_this.2.2 1)), xJ cy a6 40 ((va_cpy ((b_this.2.2 5)) ((b_this.2.2 2)) x3.toNatClampNeg x4.toNatClampNeg x5.toNatClampNeg)), xJ cy a7 40 ((b_this.2.2 3)), xJ cy a8 40 ((b_this.2.2 4)), xJ cy a9 40 ((b_this.2.2 5)), xJ cy a10 40 ((b_this.2.2 6)), xJ cy a11 40 ((b_this.2.2 7))]) C hw hr hQ dX1_moveStretch_43
        · rw [e74] at hf
          refine zk_aaldJ (pc := 35) (a' := a7) 3 e74 C hw 3 rfl q73 rfl dX1_moveStretch_35 ?_
          refine lv_iload (pc := 36) hx hb dX1_moveStretch_36 (lv_at hl 4 rfl) ?_
          refine lv_iload (pc := 38) hx hb dX1_moveStretch_38 (lv_at hl 5 rfl) ?_
          obtain ⟨q79, hf⟩ := ck hf
          refine zk_copyJ (pc := 40) (w' := [xSh a0 a1 a2 a3, xI cy a1 8 b_this.1, xI cy a2 8 b_this.2.1, xRJ cy a3 8 (fun j => [some a4, some a5, some a6, some a7, some a8, some a9, some a10, some a11].getD j none), xJ cy a4 40 ((b_this.2.2 0)), xJ cy a5 40 ((b_this.2.2 1)), xJ cy a6 40 ((b_this.2.2 2)), xJ cy a7 40 ((va_cpy ((b_this.2.2 5)) ((b_this.2.2 3)) x3.toNatClampNeg x4.toNatClampNeg x5.toNatClampNeg)), xJ cy a8 40 ((b_this.2.2 4)), xJ cy a9 40 ((b_this.2.2 5)), xJ cy a10 40 ((b_this.2.2 6)), xJ cy a11 40 ((b_this.2.2 7))]) C hw hl.1 zm_X1_49 9 7 rfl rfl q79 ⟨Nat.le_of_ble_eq_true rfl, Nat.le_of_ble_eq_true rfl⟩ rfl dX1_moveStretch_40 (fun H locs hw => ?_)
          have hf := Option.some.inj hf
          subst hf
          exact zk_retv (pc := 43) (ww := [xSh a0 a1 a2 a3, xI cy a1 8 b_this.1, xI cy a2 8 b_this.2.1, xRJ cy a3 8 (fun j => [some a4, some a5, some a6, some a7, some a8, some a9, some a10, some a11].getD j none), xJ cy a4 40 ((b_this.2.2 0)), xJ cy a5 40 ((b_this.2.2 1)), xJ cy a6 40 ((b_this.2.2 2)), xJ cy a7 40 ((va_cpy ((b_this.2.2 5)) ((b_this.2.2 3)) x3.toNatClampNeg x4.toNatClampNeg x5.toNatClampNeg)), xJ cy a8 40 ((b_this.2.2 4)), xJ cy a9 40 ((b_this.2.2 5)), xJ cy a10 40 ((b_this.2.2 6)), xJ cy a11 40 ((b_this.2.2 7))]) C hw hr hQ dX1_moveStretch_43
        · rw [e74] at hf
          refine zk_aaldJ (pc := 35) (a' := a8) 4 e74 C hw 3 rfl q73 rfl dX1_moveStretch_35 ?_
          refine lv_iload (pc := 36) hx hb dX1_moveStretch_36 (lv_at hl 4 rfl) ?_
          refine lv_iload (pc := 38) hx hb dX1_moveStretch_38 (lv_at hl 5 rfl) ?_
          obtain ⟨q80, hf⟩ := ck hf
          refine zk_copyJ (pc := 40) (w' := [xSh a0 a1 a2 a3, xI cy a1 8 b_this.1, xI cy a2 8 b_this.2.1, xRJ cy a3 8 (fun j => [some a4, some a5, some a6, some a7, some a8, some a9, some a10, some a11].getD j none), xJ cy a4 40 ((b_this.2.2 0)), xJ cy a5 40 ((b_this.2.2 1)), xJ cy a6 40 ((b_this.2.2 2)), xJ cy a7 40 ((b_this.2.2 3)), xJ cy a8 40 ((va_cpy ((b_this.2.2 5)) ((b_this.2.2 4)) x3.toNatClampNeg x4.toNatClampNeg x5.toNatClampNeg)), xJ cy a9 40 ((b_this.2.2 5)), xJ cy a10 40 ((b_this.2.2 6)), xJ cy a11 40 ((b_this.2.2 7))]) C hw hl.1 zm_X1_49 9 8 rfl rfl q80 ⟨Nat.le_of_ble_eq_true rfl, Nat.le_of_ble_eq_true rfl⟩ rfl dX1_moveStretch_40 (fun H locs hw => ?_)
          have hf := Option.some.inj hf
          subst hf
          exact zk_retv (pc := 43) (ww := [xSh a0 a1 a2 a3, xI cy a1 8 b_this.1, xI cy a2 8 b_this.2.1, xRJ cy a3 8 (fun j => [some a4, some a5, some a6, some a7, some a8, some a9, some a10, some a11].getD j none), xJ cy a4 40 ((b_this.2.2 0)), xJ cy a5 40 ((b_this.2.2 1)), xJ cy a6 40 ((b_this.2.2 2)), xJ cy a7 40 ((b_this.2.2 3)), xJ cy a8 40 ((va_cpy ((b_this.2.2 5)) ((b_this.2.2 4)) x3.toNatClampNeg x4.toNatClampNeg x5.toNatClampNeg)), xJ cy a9 40 ((b_this.2.2 5)), xJ cy a10 40 ((b_this.2.2 6)), xJ cy a11 40 ((b_this.2.2 7))]) C hw hr hQ dX1_moveStretch_43
        · rw [e74] at hf
          refine zk_aaldJ (pc := 35) (a' := a9) 5 e74 C hw 3 rfl q73 rfl dX1_moveStretch_35 ?_
          refine lv_iload (pc := 36) hx hb dX1_moveStretch_36 (lv_at hl 4 rfl) ?_
          refine lv_iload (pc := 38) hx hb dX1_moveStretch_38 (lv_at hl 5 rfl) ?_
          obtain ⟨q81, hf⟩ := ck hf
          refine zk_copyJ (pc := 40) (w' := [xSh a0 a1 a2 a3, xI cy a1 8 b_this.1, xI cy a2 8 b_this.2.1, xRJ cy a3 8 (fun j => [some a4, some a5, some a6, some a7, some a8, some a9, some a10, some a11].getD j none), xJ cy a4 40 ((b_this.2.2 0)), xJ cy a5 40 ((b_this.2.2 1)), xJ cy a6 40 ((b_this.2.2 2)), xJ cy a7 40 ((b_this.2.2 3)), xJ cy a8 40 ((b_this.2.2 4)), xJ cy a9 40 ((va_cpy ((b_this.2.2 5)) ((b_this.2.2 5)) x3.toNatClampNeg x4.toNatClampNeg x5.toNatClampNeg)), xJ cy a10 40 ((b_this.2.2 6)), xJ cy a11 40 ((b_this.2.2 7))]) C hw hl.1 zm_X1_49 9 9 rfl rfl q81 ⟨Nat.le_of_ble_eq_true rfl, Nat.le_of_ble_eq_true rfl⟩ rfl dX1_moveStretch_40 (fun H locs hw => ?_)
          have hf := Option.some.inj hf
          subst hf
          exact zk_retv (pc := 43) (ww := [xSh a0 a1 a2 a3, xI cy a1 8 b_this.1, xI cy a2 8 b_this.2.1, xRJ cy a3 8 (fun j => [some a4, some a5, some a6, some a7, some a8, some a9, some a10, some a11].getD j none), xJ cy a4 40 ((b_this.2.2 0)), xJ cy a5 40 ((b_this.2.2 1)), xJ cy a6 40 ((b_this.2.2 2)), xJ cy a7 40 ((b_this.2.2 3)), xJ cy a8 40 ((b_this.2.2 4)), xJ cy a9 40 ((va_cpy ((b_this.2.2 5)) ((b_this.2.2 5)) x3.toNatClampNeg x4.toNatClampNeg x5.toNatClampNeg)), xJ cy a10 40 ((b_this.2.2 6)), xJ cy a11 40 ((b_this.2.2 7))]) C hw hr hQ dX1_moveStretch_43
        · rw [e74] at hf
          refine zk_aaldJ (pc := 35) (a' := a10) 6 e74 C hw 3 rfl q73 rfl dX1_moveStretch_35 ?_
          refine lv_iload (pc := 36) hx hb dX1_moveStretch_36 (lv_at hl 4 rfl) ?_
          refine lv_iload (pc := 38) hx hb dX1_moveStretch_38 (lv_at hl 5 rfl) ?_
          obtain ⟨q82, hf⟩ := ck hf
          refine zk_copyJ (pc := 40) (w' := [xSh a0 a1 a2 a3, xI cy a1 8 b_this.1, xI cy a2 8 b_this.2.1, xRJ cy a3 8 (fun j => [some a4, some a5, some a6, some a7, some a8, some a9, some a10, some a11].getD j none), xJ cy a4 40 ((b_this.2.2 0)), xJ cy a5 40 ((b_this.2.2 1)), xJ cy a6 40 ((b_this.2.2 2)), xJ cy a7 40 ((b_this.2.2 3)), xJ cy a8 40 ((b_this.2.2 4)), xJ cy a9 40 ((b_this.2.2 5)), xJ cy a10 40 ((va_cpy ((b_this.2.2 5)) ((b_this.2.2 6)) x3.toNatClampNeg x4.toNatClampNeg x5.toNatClampNeg)), xJ cy a11 40 ((b_this.2.2 7))]) C hw hl.1 zm_X1_49 9 10 rfl rfl q82 ⟨Nat.le_of_ble_eq_true rfl, Nat.le_of_ble_eq_true rfl⟩ rfl dX1_moveStretch_40 (fun H locs hw => ?_)
          have hf := Option.some.inj hf
          subst hf
          exact zk_retv (pc := 43) (ww := [xSh a0 a1 a2 a3, xI cy a1 8 b_this.1, xI cy a2 8 b_this.2.1, xRJ cy a3 8 (fun j => [some a4, some a5, some a6, some a7, some a8, some a9, some a10, some a11].getD j none), xJ cy a4 40 ((b_this.2.2 0)), xJ cy a5 40 ((b_this.2.2 1)), xJ cy a6 40 ((b_this.2.2 2)), xJ cy a7 40 ((b_this.2.2 3)), xJ cy a8 40 ((b_this.2.2 4)), xJ cy a9 40 ((b_this.2.2 5)), xJ cy a10 40 ((va_cpy ((b_this.2.2 5)) ((b_this.2.2 6)) x3.toNatClampNeg x4.toNatClampNeg x5.toNatClampNeg)), xJ cy a11 40 ((b_this.2.2 7))]) C hw hr hQ dX1_moveStretch_43
        · rw [e74] at hf
          refine zk_aaldJ (pc := 35) (a' := a11) 7 e74 C hw 3 rfl q73 rfl dX1_moveStretch_35 ?_
          refine lv_iload (pc := 36) hx hb dX1_moveStretch_36 (lv_at hl 4 rfl) ?_
          refine lv_iload (pc := 38) hx hb dX1_moveStretch_38 (lv_at hl 5 rfl) ?_
          obtain ⟨q83, hf⟩ := ck hf
          refine zk_copyJ (pc := 40) (w' := [xSh a0 a1 a2 a3, xI cy a1 8 b_this.1, xI cy a2 8 b_this.2.1, xRJ cy a3 8 (fun j => [some a4, some a5, some a6, some a7, some a8, some a9, some a10, some a11].getD j none), xJ cy a4 40 ((b_this.2.2 0)), xJ cy a5 40 ((b_this.2.2 1)), xJ cy a6 40 ((b_this.2.2 2)), xJ cy a7 40 ((b_this.2.2 3)), xJ cy a8 40 ((b_this.2.2 4)), xJ cy a9 40 ((b_this.2.2 5)), xJ cy a10 40 ((b_this.2.2 6)), xJ cy a11 40 ((va_cpy ((b_this.2.2 5)) ((b_this.2.2 7)) x3.toNatClampNeg x4.toNatClampNeg x5.toNatClampNeg))]) C hw hl.1 zm_X1_49 9 11 rfl rfl q83 ⟨Nat.le_of_ble_eq_true rfl, Nat.le_of_ble_eq_true rfl⟩ rfl dX1_moveStretch_40 (fun H locs hw => ?_)
          have hf := Option.some.inj hf
          subst hf
          exact zk_retv (pc := 43) (ww := [xSh a0 a1 a2 a3, xI cy a1 8 b_this.1, xI cy a2 8 b_this.2.1, xRJ cy a3 8 (fun j => [some a4, some a5, some a6, some a7, some a8, some a9, some a10, some a11].getD j none), xJ cy a4 40 ((b_this.2.2 0)), xJ cy a5 40 ((b_this.2.2 1)), xJ cy a6 40 ((b_this.2.2 2)), xJ cy a7 40 ((b_this.2.2 3)), xJ cy a8 40 ((b_this.2.2 4)), xJ cy a9 40 ((b_this.2.2 5)), xJ cy a10 40 ((b_this.2.2 6)), xJ cy a11 40 ((va_cpy ((b_this.2.2 5)) ((b_this.2.2 7)) x3.toNatClampNeg x4.toNatClampNeg x5.toNatClampNeg))]) C hw hr hQ dX1_moveStretch_43
      · rw [e6] at hf
        refine zk_aaldJ (pc := 28) (a' := a10) 6 e6 C hw 3 rfl q5 rfl dX1_moveStretch_28 ?_
        refine lv_iload_n (pc := 29) hx hb dX1_moveStretch_29 rfl (lv_at hl 3 rfl) ?_
        refine lv_aload_n (pc := 30) hx hb dX1_moveStretch_30 rfl (lv_at hl 0 rfl) ?_
        refine zk_gt (pc := 31) C hw zl_X1_20 0 rfl rfl dX1_moveStretch_31 ?_
        refine lv_iload_n (pc := 34) hx hb dX1_moveStretch_34 rfl (lv_at hl 2 rfl) ?_
        obtain ⟨q84, hf⟩ := ck hf
        rcases ix8 q84 with e85 | e85 | e85 | e85 | e85 | e85 | e85 | e85
        · rw [e85] at hf
          refine zk_aaldJ (pc := 35) (a' := a4) 0 e85 C hw 3 rfl q84 rfl dX1_moveStretch_35 ?_
          refine lv_iload (pc := 36) hx hb dX1_moveStretch_36 (lv_at hl 4 rfl) ?_
          refine lv_iload (pc := 38) hx hb dX1_moveStretch_38 (lv_at hl 5 rfl) ?_
          obtain ⟨q87, hf⟩ := ck hf
          refine zk_copyJ (pc := 40) (w' := [xSh a0 a1 a2 a3, xI cy a1 8 b_this.1, xI cy a2 8 b_this.2.1, xRJ cy a3 8 (fun j => [some a4, some a5, some a6, some a7, some a8, some a9, some a10, some a11].getD j none), xJ cy a4 40 ((va_cpy ((b_this.2.2 6)) ((b_this.2.2 0)) x3.toNatClampNeg x4.toNatClampNeg x5.toNatClampNeg)), xJ cy a5 40 ((b_this.2.2 1)), xJ cy a6 40 ((b_this.2.2 2)), xJ cy a7 40 ((b_this.2.2 3)), xJ cy a8 40 ((b_this.2.2 4)), xJ cy a9 40 ((b_this.2.2 5)), xJ cy a10 40 ((b_this.2.2 6)), xJ cy a11 40 ((b_this.2.2 7))]) C hw hl.1 zm_X1_49 10 4 rfl rfl q87 ⟨Nat.le_of_ble_eq_true rfl, Nat.le_of_ble_eq_true rfl⟩ rfl dX1_moveStretch_40 (fun H locs hw => ?_)
          have hf := Option.some.inj hf
          subst hf
          exact zk_retv (pc := 43) (ww := [xSh a0 a1 a2 a3, xI cy a1 8 b_this.1, xI cy a2 8 b_this.2.1, xRJ cy a3 8 (fun j => [some a4, some a5, some a6, some a7, some a8, some a9, some a10, some a11].getD j none), xJ cy a4 40 ((va_cpy ((b_this.2.2 6)) ((b_this.2.2 0)) x3.toNatClampNeg x4.toNatClampNeg x5.toNatClampNeg)), xJ cy a5 40 ((b_this.2.2 1)), xJ cy a6 40 ((b_this.2.2 2)), xJ cy a7 40 ((b_this.2.2 3)), xJ cy a8 40 ((b_this.2.2 4)), xJ cy a9 40 ((b_this.2.2 5)), xJ cy a10 40 ((b_this.2.2 6)), xJ cy a11 40 ((b_this.2.2 7))]) C hw hr hQ dX1_moveStretch_43
        · rw [e85] at hf
          refine zk_aaldJ (pc := 35) (a' := a5) 1 e85 C hw 3 rfl q84 rfl dX1_moveStretch_35 ?_
          refine lv_iload (pc := 36) hx hb dX1_moveStretch_36 (lv_at hl 4 rfl) ?_
          refine lv_iload (pc := 38) hx hb dX1_moveStretch_38 (lv_at hl 5 rfl) ?_
          obtain ⟨q88, hf⟩ := ck hf
          refine zk_copyJ (pc := 40) (w' := [xSh a0 a1 a2 a3, xI cy a1 8 b_this.1, xI cy a2 8 b_this.2.1, xRJ cy a3 8 (fun j => [some a4, some a5, some a6, some a7, some a8, some a9, some a10, some a11].getD j none), xJ cy a4 40 ((b_this.2.2 0)), xJ cy a5 40 ((va_cpy ((b_this.2.2 6)) ((b_this.2.2 1)) x3.toNatClampNeg x4.toNatClampNeg x5.toNatClampNeg)), xJ cy a6 40 ((b_this.2.2 2)), xJ cy a7 40 ((b_this.2.2 3)), xJ cy a8 40 ((b_this.2.2 4)), xJ cy a9 40 ((b_this.2.2 5)), xJ cy a10 40 ((b_this.2.2 6)), xJ cy a11 40 ((b_this.2.2 7))]) C hw hl.1 zm_X1_49 10 5 rfl rfl q88 ⟨Nat.le_of_ble_eq_true rfl, Nat.le_of_ble_eq_true rfl⟩ rfl dX1_moveStretch_40 (fun H locs hw => ?_)
          have hf := Option.some.inj hf
          subst hf
          exact zk_retv (pc := 43) (ww := [xSh a0 a1 a2 a3, xI cy a1 8 b_this.1, xI cy a2 8 b_this.2.1, xRJ cy a3 8 (fun j => [some a4, some a5, some a6, some a7, some a8, some a9, some a10, some a11].getD j none), xJ cy a4 40 ((b_this.2.2 0)), xJ cy a5 40 ((va_cpy ((b_this.2.2 6)) ((b_this.2.2 1)) x3.toNatClampNeg x4.toNatClampNeg x5.toNatClampNeg)), xJ cy a6 40 ((b_this.2.2 2)), xJ cy a7 40 ((b_this.2.2 3)), xJ cy a8 40 ((b_this.2.2 4)), xJ cy a9 40 ((b_this.2.2 5)), xJ cy a10 40 ((b_this.2.2 6)), xJ cy a11 40 ((b_this.2.2 7))]) C hw hr hQ dX1_moveStretch_43
        · rw [e85] at hf
          refine zk_aaldJ (pc := 35) (a' := a6) 2 e85 C hw 3 rfl q84 rfl dX1_moveStretch_35 ?_
          refine lv_iload (pc := 36) hx hb dX1_moveStretch_36 (lv_at hl 4 rfl) ?_
          refine lv_iload (pc := 38) hx hb dX1_moveStretch_38 (lv_at hl 5 rfl) ?_
          obtain ⟨q89, hf⟩ := ck hf
          refine zk_copyJ (pc := 40) (w' := [xSh a0 a1 a2 a3, xI cy a1 8 b_this.1, xI cy a2 8 b_this.2.1, xRJ cy a3 8 (fun j => [some a4, some a5, some a6, some a7, some a8, some a9, some a10, some a11].getD j none), xJ cy a4 40 ((b_this.2.2 0)), xJ cy a5 40 ((b_this.2.2 1)), xJ cy a6 40 ((va_cpy ((b_this.2.2 6)) ((b_this.2.2 2)) x3.toNatClampNeg x4.toNatClampNeg x5.toNatClampNeg)), xJ cy a7 40 ((b_this.2.2 3)), xJ cy a8 40 ((b_this.2.2 4)), xJ cy a9 40 ((b_this.2.2 5)), xJ cy a10 40 ((b_this.2.2 6)), xJ cy a11 40 ((b_this.2.2 7))]) C hw hl.1 zm_X1_49 10 6 rfl rfl q89 ⟨Nat.le_of_ble_eq_true rfl, Nat.le_of_ble_eq_true rfl⟩ rfl dX1_moveStretch_40 (fun H locs hw => ?_)
          have hf := Option.some.inj hf
          subst hf
          exact zk_retv (pc := 43) (ww := [xSh a0 a1 a2 a3, xI cy a1 8 b_this.1, xI cy a2 8 b_this.2.1, xRJ cy a3 8 (fun j => [some a4, some a5, some a6, some a7, some a8, some a9, some a10, some a11].getD j none), xJ cy a4 40 ((b_this.2.2 0)), xJ cy a5 40 ((b_this.2.2 1)), xJ cy a6 40 ((va_cpy ((b_this.2.2 6)) ((b_this.2.2 2)) x3.toNatClampNeg x4.toNatClampNeg x5.toNatClampNeg)), xJ cy a7 40 ((b_this.2.2 3)), xJ cy a8 40 ((b_this.2.2 4)), xJ cy a9 40 ((b_this.2.2 5)), xJ cy a10 40 ((b_this.2.2 6)), xJ cy a11 40 ((b_this.2.2 7))]) C hw hr hQ dX1_moveStretch_43
        · rw [e85] at hf
          refine zk_aaldJ (pc := 35) (a' := a7) 3 e85 C hw 3 rfl q84 rfl dX1_moveStretch_35 ?_
          refine lv_iload (pc := 36) hx hb dX1_moveStretch_36 (lv_at hl 4 rfl) ?_
          refine lv_iload (pc := 38) hx hb dX1_moveStretch_38 (lv_at hl 5 rfl) ?_
          obtain ⟨q90, hf⟩ := ck hf
          refine zk_copyJ (pc := 40) (w' := [xSh a0 a1 a2 a3, xI cy a1 8 b_this.1, xI cy a2 8 b_this.2.1, xRJ cy a3 8 (fun j => [some a4, some a5, some a6, some a7, some a8, some a9, some a10, some a11].getD j none), xJ cy a4 40 ((b_this.2.2 0)), xJ cy a5 40 ((b_this.2.2 1)), xJ cy a6 40 ((b_this.2.2 2)), xJ cy a7 40 ((va_cpy ((b_this.2.2 6)) ((b_this.2.2 3)) x3.toNatClampNeg x4.toNatClampNeg x5.toNatClampNeg)), xJ cy a8 40 ((b_this.2.2 4)), xJ cy a9 40 ((b_this.2.2 5)), xJ cy a10 40 ((b_this.2.2 6)), xJ cy a11 40 ((b_this.2.2 7))]) C hw hl.1 zm_X1_49 10 7 rfl rfl q90 ⟨Nat.le_of_ble_eq_true rfl, Nat.le_of_ble_eq_true rfl⟩ rfl dX1_moveStretch_40 (fun H locs hw => ?_)
          have hf := Option.some.inj hf
          subst hf
          exact zk_retv (pc := 43) (ww := [xSh a0 a1 a2 a3, xI cy a1 8 b_this.1, xI cy a2 8 b_this.2.1, xRJ cy a3 8 (fun j => [some a4, some a5, some a6, some a7, some a8, some a9, some a10, some a11].getD j none), xJ cy a4 40 ((b_this.2.2 0)), xJ cy a5 40 ((b_this.2.2 1)), xJ cy a6 40 ((b_this.2.2 2)), xJ cy a7 40 ((va_cpy ((b_this.2.2 6)) ((b_this.2.2 3)) x3.toNatClampNeg x4.toNatClampNeg x5.toNatClampNeg)), xJ cy a8 40 ((b_this.2.2 4)), xJ cy a9 40 ((b_this.2.2 5)), xJ cy a10 40 ((b_this.2.2 6)), xJ cy a11 40 ((b_this.2.2 7))]) C hw hr hQ dX1_moveStretch_43
        · rw [e85] at hf
          refine zk_aaldJ (pc := 35) (a' := a8) 4 e85 C hw 3 rfl q84 rfl dX1_moveStretch_35 ?_
          refine lv_iload (pc := 36) hx hb dX1_moveStretch_36 (lv_at hl 4 rfl) ?_
          refine lv_iload (pc := 38) hx hb dX1_moveStretch_38 (lv_at hl 5 rfl) ?_
          obtain ⟨q91, hf⟩ := ck hf
          refine zk_copyJ (pc := 40) (w' := [xSh a0 a1 a2 a3, xI cy a1 8 b_this.1, xI cy a2 8 b_this.2.1, xRJ cy a3 8 (fun j => [some a4, some a5, some a6, some a7, some a8, some a9, some a10, some a11].getD j none), xJ cy a4 40 ((b_this.2.2 0)), xJ cy a5 40 ((b_this.2.2 1)), xJ cy a6 40 ((b_this.2.2 2)), xJ cy a7 40 ((b_this.2.2 3)), xJ cy a8 40 ((va_cpy ((b_this.2.2 6)) ((b_this.2.2 4)) x3.toNatClampNeg x4.toNatClampNeg x5.toNatClampNeg)), xJ cy a9 40 ((b_this.2.2 5)), xJ cy a10 40 ((b_this.2.2 6)), xJ cy a11 40 ((b_this.2.2 7))]) C hw hl.1 zm_X1_49 10 8 rfl rfl q91 ⟨Nat.le_of_ble_eq_true rfl, Nat.le_of_ble_eq_true rfl⟩ rfl dX1_moveStretch_40 (fun H locs hw => ?_)
          have hf := Option.some.inj hf
          subst hf
          exact zk_retv (pc := 43) (ww := [xSh a0 a1 a2 a3, xI cy a1 8 b_this.1, xI cy a2 8 b_this.2.1, xRJ cy a3 8 (fun j => [some a4, some a5, some a6, some a7, some a8, some a9, some a10, some a11].getD j none), xJ cy a4 40 ((b_this.2.2 0)), xJ cy a5 40 ((b_this.2.2 1)), xJ cy a6 40 ((b_this.2.2 2)), xJ cy a7 40 ((b_this.2.2 3)), xJ cy a8 40 ((va_cpy ((b_this.2.2 6)) ((b_this.2.2 4)) x3.toNatClampNeg x4.toNatClampNeg x5.toNatClampNeg)), xJ cy a9 40 ((b_this.2.2 5)), xJ cy a10 40 ((b_this.2.2 6)), xJ cy a11 40 ((b_this.2.2 7))]) C hw hr hQ dX1_moveStretch_43
        · rw [e85] at hf
          refine zk_aaldJ (pc := 35) (a' := a9) 5 e85 C hw 3 rfl q84 rfl dX1_moveStretch_35 ?_
          refine lv_iload (pc := 36) hx hb dX1_moveStretch_36 (lv_at hl 4 rfl) ?_
          refine lv_iload (pc := 38) hx hb dX1_moveStretch_38 (lv_at hl 5 rfl) ?_
          obtain ⟨q92, hf⟩ := ck hf
          refine zk_copyJ (pc := 40) (w' := [xSh a0 a1 a2 a3, xI cy a1 8 b_this.1, xI cy a2 8 b_this.2.1, xRJ cy a3 8 (fun j => [some a4, some a5, some a6, some a7, some a8, some a9, some a10, some a11].getD j none), xJ cy a4 40 ((b_this.2.2 0)), xJ cy a5 40 ((b_this.2.2 1)), xJ cy a6 40 ((b_this.2.2 2)), xJ cy a7 40 ((b_this.2.2 3)), xJ cy a8 40 ((b_this.2.2 4)), xJ cy a9 40 ((va_cpy ((b_this.2.2 6)) ((b_this.2.2 5)) x3.toNatClampNeg x4.toNatClampNeg x5.toNatClampNeg)), xJ cy a10 40 ((b_this.2.2 6)), xJ cy a11 40 ((b_this.2.2 7))]) C hw hl.1 zm_X1_49 10 9 rfl rfl q92 ⟨Nat.le_of_ble_eq_true rfl, Nat.le_of_ble_eq_true rfl⟩ rfl dX1_moveStretch_40 (fun H locs hw => ?_)
          have hf := Option.some.inj hf
          subst hf
          exact zk_retv (pc := 43) (ww := [xSh a0 a1 a2 a3, xI cy a1 8 b_this.1, xI cy a2 8 b_this.2.1, xRJ cy a3 8 (fun j => [some a4, some a5, some a6, some a7, some a8, some a9, some a10, some a11].getD j none), xJ cy a4 40 ((b_this.2.2 0)), xJ cy a5 40 ((b_this.2.2 1)), xJ cy a6 40 ((b_this.2.2 2)), xJ cy a7 40 ((b_this.2.2 3)), xJ cy a8 40 ((b_this.2.2 4)), xJ cy a9 40 ((va_cpy ((b_this.2.2 6)) ((b_this.2.2 5)) x3.toNatClampNeg x4.toNatClampNeg x5.toNatClampNeg)), xJ cy a10 40 ((b_this.2.2 6)), xJ cy a11 40 ((b_this.2.2 7))]) C hw hr hQ dX1_moveStretch_43
        · rw [e85] at hf
          refine zk_aaldJ (pc := 35) (a' := a10) 6 e85 C hw 3 rfl q84 rfl dX1_moveStretch_35 ?_
          refine lv_iload (pc := 36) hx hb dX1_moveStretch_36 (lv_at hl 4 rfl) ?_
          refine lv_iload (pc := 38) hx hb dX1_moveStretch_38 (lv_at hl 5 rfl) ?_
          obtain ⟨q93, hf⟩ := ck hf
          refine zk_copyJ (pc := 40) (w' := [xSh a0 a1 a2 a3, xI cy a1 8 b_this.1, xI cy a2 8 b_this.2.1, xRJ cy a3 8 (fun j => [some a4, some a5, some a6, some a7, some a8, some a9, some a10, some a11].getD j none), xJ cy a4 40 ((b_this.2.2 0)), xJ cy a5 40 ((b_this.2.2 1)), xJ cy a6 40 ((b_this.2.2 2)), xJ cy a7 40 ((b_this.2.2 3)), xJ cy a8 40 ((b_this.2.2 4)), xJ cy a9 40 ((b_this.2.2 5)), xJ cy a10 40 ((va_cpy ((b_this.2.2 6)) ((b_this.2.2 6)) x3.toNatClampNeg x4.toNatClampNeg x5.toNatClampNeg)), xJ cy a11 40 ((b_this.2.2 7))]) C hw hl.1 zm_X1_49 10 10 rfl rfl q93 ⟨Nat.le_of_ble_eq_true rfl, Nat.le_of_ble_eq_true rfl⟩ rfl dX1_moveStretch_40 (fun H locs hw => ?_)
          have hf := Option.some.inj hf
          subst hf
          exact zk_retv (pc := 43) (ww := [xSh a0 a1 a2 a3, xI cy a1 8 b_this.1, xI cy a2 8 b_this.2.1, xRJ cy a3 8 (fun j => [some a4, some a5, some a6, some a7, some a8, some a9, some a10, some a11].getD j none), xJ cy a4 40 ((b_this.2.2 0)), xJ cy a5 40 ((b_this.2.2 1)), xJ cy a6 40 ((b_this.2.2 2)), xJ cy a7 40 ((b_this.2.2 3)), xJ cy a8 40 ((b_this.2.2 4)), xJ cy a9 40 ((b_this.2.2 5)), xJ cy a10 40 ((va_cpy ((b_this.2.2 6)) ((b_this.2.2 6)) x3.toNatClampNeg x4.toNatClampNeg x5.toNatClampNeg)), xJ cy a11 40 ((b_this.2.2 7))]) C hw hr hQ dX1_moveStretch_43
        · rw [e85] at hf
          refine zk_aaldJ (pc := 35) (a' := a11) 7 e85 C hw 3 rfl q84 rfl dX1_moveStretch_35 ?_
          refine lv_iload (pc := 36) hx hb dX1_moveStretch_36 (lv_at hl 4 rfl) ?_
          refine lv_iload (pc := 38) hx hb dX1_moveStretch_38 (lv_at hl 5 rfl) ?_
          obtain ⟨q94, hf⟩ := ck hf
          refine zk_copyJ (pc := 40) (w' := [xSh a0 a1 a2 a3, xI cy a1 8 b_this.1, xI cy a2 8 b_this.2.1, xRJ cy a3 8 (fun j => [some a4, some a5, some a6, some a7, some a8, some a9, some a10, some a11].getD j none), xJ cy a4 40 ((b_this.2.2 0)), xJ cy a5 40 ((b_this.2.2 1)), xJ cy a6 40 ((b_this.2.2 2)), xJ cy a7 40 ((b_this.2.2 3)), xJ cy a8 40 ((b_this.2.2 4)), xJ cy a9 40 ((b_this.2.2 5)), xJ cy a10 40 ((b_this.2.2 6)), xJ cy a11 40 ((va_cpy ((b_this.2.2 6)) ((b_this.2.2 7)) x3.toNatClampNeg x4.toNatClampNeg x5.toNatClampNeg))]) C hw hl.1 zm_X1_49 10 11 rfl rfl q94 ⟨Nat.le_of_ble_eq_true rfl, Nat.le_of_ble_eq_true rfl⟩ rfl dX1_moveStretch_40 (fun H locs hw => ?_)
          have hf := Option.some.inj hf
          subst hf
          exact zk_retv (pc := 43) (ww := [xSh a0 a1 a2 a3, xI cy a1 8 b_this.1, xI cy a2 8 b_this.2.1, xRJ cy a3 8 (fun j => [some a4, some a5, some a6, some a7, some a8, some a9, some a10, some a11].getD j none), xJ cy a4 40 ((b_this.2.2 0)), xJ cy a5 40 ((b_this.2.2 1)), xJ cy a6 40 ((b_this.2.2 2)), xJ cy a7 40 ((b_this.2.2 3)), xJ cy a8 40 ((b_this.2.2 4)), xJ cy a9 40 ((b_this.2.2 5)), xJ cy a10 40 ((b_this.2.2 6)), xJ cy a11 40 ((va_cpy ((b_this.2.2 6)) ((b_this.2.2 7)) x3.toNatClampNeg x4.toNatClampNeg x5.toNatClampNeg))]) C hw hr hQ dX1_moveStretch_43
      · rw [e6] at hf
        refine zk_aaldJ (pc := 28) (a' := a11) 7 e6 C hw 3 rfl q5 rfl dX1_moveStretch_28 ?_
        refine lv_iload_n (pc := 29) hx hb dX1_moveStretch_29 rfl (lv_at hl 3 rfl) ?_
        refine lv_aload_n (pc := 30) hx hb dX1_moveStretch_30 rfl (lv_at hl 0 rfl) ?_
        refine zk_gt (pc := 31) C hw zl_X1_20 0 rfl rfl dX1_moveStretch_31 ?_
        refine lv_iload_n (pc := 34) hx hb dX1_moveStretch_34 rfl (lv_at hl 2 rfl) ?_
        obtain ⟨q95, hf⟩ := ck hf
        rcases ix8 q95 with e96 | e96 | e96 | e96 | e96 | e96 | e96 | e96
        · rw [e96] at hf
          refine zk_aaldJ (pc := 35) (a' := a4) 0 e96 C hw 3 rfl q95 rfl dX1_moveStretch_35 ?_
          refine lv_iload (pc := 36) hx hb dX1_moveStretch_36 (lv_at hl 4 rfl) ?_
          refine lv_iload (pc := 38) hx hb dX1_moveStretch_38 (lv_at hl 5 rfl) ?_
          obtain ⟨q98, hf⟩ := ck hf
          refine zk_copyJ (pc := 40) (w' := [xSh a0 a1 a2 a3, xI cy a1 8 b_this.1, xI cy a2 8 b_this.2.1, xRJ cy a3 8 (fun j => [some a4, some a5, some a6, some a7, some a8, some a9, some a10, some a11].getD j none), xJ cy a4 40 ((va_cpy ((b_this.2.2 7)) ((b_this.2.2 0)) x3.toNatClampNeg x4.toNatClampNeg x5.toNatClampNeg)), xJ cy a5 40 ((b_this.2.2 1)), xJ cy a6 40 ((b_this.2.2 2)), xJ cy a7 40 ((b_this.2.2 3)), xJ cy a8 40 ((b_this.2.2 4)), xJ cy a9 40 ((b_this.2.2 5)), xJ cy a10 40 ((b_this.2.2 6)), xJ cy a11 40 ((b_this.2.2 7))]) C hw hl.1 zm_X1_49 11 4 rfl rfl q98 ⟨Nat.le_of_ble_eq_true rfl, Nat.le_of_ble_eq_true rfl⟩ rfl dX1_moveStretch_40 (fun H locs hw => ?_)
          have hf := Option.some.inj hf
          subst hf
          exact zk_retv (pc := 43) (ww := [xSh a0 a1 a2 a3, xI cy a1 8 b_this.1, xI cy a2 8 b_this.2.1, xRJ cy a3 8 (fun j => [some a4, some a5, some a6, some a7, some a8, some a9, some a10, some a11].getD j none), xJ cy a4 40 ((va_cpy ((b_this.2.2 7)) ((b_this.2.2 0)) x3.toNatClampNeg x4.toNatClampNeg x5.toNatClampNeg)), xJ cy a5 40 ((b_this.2.2 1)), xJ cy a6 40 ((b_this.2.2 2)), xJ cy a7 40 ((b_this.2.2 3)), xJ cy a8 40 ((b_this.2.2 4)), xJ cy a9 40 ((b_this.2.2 5)), xJ cy a10 40 ((b_this.2.2 6)), xJ cy a11 40 ((b_this.2.2 7))]) C hw hr hQ dX1_moveStretch_43
        · rw [e96] at hf
          refine zk_aaldJ (pc := 35) (a' := a5) 1 e96 C hw 3 rfl q95 rfl dX1_moveStretch_35 ?_
          refine lv_iload (pc := 36) hx hb dX1_moveStretch_36 (lv_at hl 4 rfl) ?_
          refine lv_iload (pc := 38) hx hb dX1_moveStretch_38 (lv_at hl 5 rfl) ?_
          obtain ⟨q99, hf⟩ := ck hf
          refine zk_copyJ (pc := 40) (w' := [xSh a0 a1 a2 a3, xI cy a1 8 b_this.1, xI cy a2 8 b_this.2.1, xRJ cy a3 8 (fun j => [some a4, some a5, some a6, some a7, some a8, some a9, some a10, some a11].getD j none), xJ cy a4 40 ((b_this.2.2 0)), xJ cy a5 40 ((va_cpy ((b_this.2.2 7)) ((b_this.2.2 1)) x3.toNatClampNeg x4.toNatClampNeg x5.toNatClampNeg)), xJ cy a6 40 ((b_this.2.2 2)), xJ cy a7 40 ((b_this.2.2 3)), xJ cy a8 40 ((b_this.2.2 4)), xJ cy a9 40 ((b_this.2.2 5)), xJ cy a10 40 ((b_this.2.2 6)), xJ cy a11 40 ((b_this.2.2 7))]) C hw hl.1 zm_X1_49 11 5 rfl rfl q99 ⟨Nat.le_of_ble_eq_true rfl, Nat.le_of_ble_eq_true rfl⟩ rfl dX1_moveStretch_40 (fun H locs hw => ?_)
          have hf := Option.some.inj hf
          subst hf
          exact zk_retv (pc := 43) (ww := [xSh a0 a1 a2 a3, xI cy a1 8 b_this.1, xI cy a2 8 b_this.2.1, xRJ cy a3 8 (fun j => [some a4, some a5, some a6, some a7, some a8, some a9, some a10, some a11].getD j none), xJ cy a4 40 ((b_this.2.2 0)), xJ cy a5 40 ((va_cpy ((b_this.2.2 7)) ((b_this.2.2 1)) x3.toNatClampNeg x4.toNatClampNeg x5.toNatClampNeg)), xJ cy a6 40 ((b_this.2.2 2)), xJ cy a7 40 ((b_this.2.2 3)), xJ cy a8 40 ((b_this.2.2 4)), xJ cy a9 40 ((b_this.2.2 5)), xJ cy a10 40 ((b_this.2.2 6)), xJ cy a11 40 ((b_this.2.2 7))]) C hw hr hQ dX1_moveStretch_43
        · rw [e96] at hf
          refine zk_aaldJ (pc := 35) (a' := a6) 2 e96 C hw 3 rfl q95 rfl dX1_moveStretch_35 ?_
          refine lv_iload (pc := 36) hx hb dX1_moveStretch_36 (lv_at hl 4 rfl) ?_
          refine lv_iload (pc := 38) hx hb dX1_moveStretch_38 (lv_at hl 5 rfl) ?_
          obtain ⟨q100, hf⟩ := ck hf
          refine zk_copyJ (pc := 40) (w' := [xSh a0 a1 a2 a3, xI cy a1 8 b_this.1, xI cy a2 8 b_this.2.1, xRJ cy a3 8 (fun j => [some a4, some a5, some a6, some a7, some a8, some a9, some a10, some a11].getD j none), xJ cy a4 40 ((b_this.2.2 0)), xJ cy a5 40 ((b_this.2.2 1)), xJ cy a6 40 ((va_cpy ((b_this.2.2 7)) ((b_this.2.2 2)) x3.toNatClampNeg x4.toNatClampNeg x5.toNatClampNeg)), xJ cy a7 40 ((b_this.2.2 3)), xJ cy a8 40 ((b_this.2.2 4)), xJ cy a9 40 ((b_this.2.2 5)), xJ cy a10 40 ((b_this.2.2 6)), xJ cy a11 40 ((b_this.2.2 7))]) C hw hl.1 zm_X1_49 11 6 rfl rfl q100 ⟨Nat.le_of_ble_eq_true rfl, Nat.le_of_ble_eq_true rfl⟩ rfl dX1_moveStretch_40 (fun H locs hw => ?_)
          have hf := Option.some.inj hf
          subst hf
          exact zk_retv (pc := 43) (ww := [xSh a0 a1 a2 a3, xI cy a1 8 b_this.1, xI cy a2 8 b_this.2.1, xRJ cy a3 8 (fun j => [some a4, some a5, some a6, some a7, some a8, some a9, some a10, some a11].getD j none), xJ cy a4 40 ((b_this.2.2 0)), xJ cy a5 40 ((b_this.2.2 1)), xJ cy a6 40 ((va_cpy ((b_this.2.2 7)) ((b_this.2.2 2)) x3.toNatClampNeg x4.toNatClampNeg x5.toNatClampNeg)), xJ cy a7 40 ((b_this.2.2 3)), xJ cy a8 40 ((b_this.2.2 4)), xJ cy a9 40 ((b_this.2.2 5)), xJ cy a10 40 ((b_this.2.2 6)), xJ cy a11 40 ((b_this.2.2 7))]) C hw hr hQ dX1_moveStretch_43
        · rw [e96] at hf
          refine zk_aaldJ (pc := 35) (a' := a7) 3 e96 C hw 3 rfl q95 rfl dX1_moveStretch_35 ?_
          refine lv_iload (pc := 36) hx hb dX1_moveStretch_36 (lv_at hl 4 rfl) ?_
          refine lv_iload (pc := 38) hx hb dX1_moveStretch_38 (lv_at hl 5 rfl) ?_
          obtain ⟨q101, hf⟩ := ck hf
          refine zk_copyJ (pc := 40) (w' := [xSh a0 a1 a2 a3, xI cy a1 8 b_this.1, xI cy a2 8 b_this.2.1, xRJ cy a3 8 (fun j => [some a4, some a5, some a6, some a7, some a8, some a9, some a10, some a11].getD j none), xJ cy a4 40 ((b_this.2.2 0)), xJ cy a5 40 ((b_this.2.2 1)), xJ cy a6 40 ((b_this.2.2 2)), xJ cy a7 40 ((va_cpy ((b_this.2.2 7)) ((b_this.2.2 3)) x3.toNatClampNeg x4.toNatClampNeg x5.toNatClampNeg)), xJ cy a8 40 ((b_this.2.2 4)), xJ cy a9 40 ((b_this.2.2 5)), xJ cy a10 40 ((b_this.2.2 6)), xJ cy a11 40 ((b_this.2.2 7))]) C hw hl.1 zm_X1_49 11 7 rfl rfl q101 ⟨Nat.le_of_ble_eq_true rfl, Nat.le_of_ble_eq_true rfl⟩ rfl dX1_moveStretch_40 (fun H locs hw => ?_)
          have hf := Option.some.inj hf
          subst hf
          exact zk_retv (pc := 43) (ww := [xSh a0 a1 a2 a3, xI cy a1 8 b_this.1, xI cy a2 8 b_this.2.1, xRJ cy a3 8 (fun j => [some a4, some a5, some a6, some a7, some a8, some a9, some a10, some a11].getD j none), xJ cy a4 40 ((b_this.2.2 0)), xJ cy a5 40 ((b_this.2.2 1)), xJ cy a6 40 ((b_this.2.2 2)), xJ cy a7 40 ((va_cpy ((b_this.2.2 7)) ((b_this.2.2 3)) x3.toNatClampNeg x4.toNatClampNeg x5.toNatClampNeg)), xJ cy a8 40 ((b_this.2.2 4)), xJ cy a9 40 ((b_this.2.2 5)), xJ cy a10 40 ((b_this.2.2 6)), xJ cy a11 40 ((b_this.2.2 7))]) C hw hr hQ dX1_moveStretch_43
        · rw [e96] at hf
          refine zk_aaldJ (pc := 35) (a' := a8) 4 e96 C hw 3 rfl q95 rfl dX1_moveStretch_35 ?_
          refine lv_iload (pc := 36) hx hb dX1_moveStretch_36 (lv_at hl 4 rfl) ?_
          refine lv_iload (pc := 38) hx hb dX1_moveStretch_38 (lv_at hl 5 rfl) ?_
          obtain ⟨q102, hf⟩ := ck hf
          refine zk_copyJ (pc := 40) (w' := [xSh a0 a1 a2 a3, xI cy a1 8 b_this.1, xI cy a2 8 b_this.2.1, xRJ cy a3 8 (fun j => [some a4, some a5, some a6, some a7, some a8, some a9, some a10, some a11].getD j none), xJ cy a4 40 ((b_this.2.2 0)), xJ cy a5 40 ((b_this.2.2 1)), xJ cy a6 40 ((b_this.2.2 2)), xJ cy a7 40 ((b_this.2.2 3)), xJ cy a8 40 ((va_cpy ((b_this.2.2 7)) ((b_this.2.2 4)) x3.toNatClampNeg x4.toNatClampNeg x5.toNatClampNeg)), xJ cy a9 40 ((b_this.2.2 5)), xJ cy a10 40 ((b_this.2.2 6)), xJ cy a11 40 ((b_this.2.2 7))]) C hw hl.1 zm_X1_49 11 8 rfl rfl q102 ⟨Nat.le_of_ble_eq_true rfl, Nat.le_of_ble_eq_true rfl⟩ rfl dX1_moveStretch_40 (fun H locs hw => ?_)
          have hf := Option.some.inj hf
          subst hf
          exact zk_retv (pc := 43) (ww := [xSh a0 a1 a2 a3, xI cy a1 8 b_this.1, xI cy a2 8 b_this.2.1, xRJ cy a3 8 (fun j => [some a4, some a5, some a6, some a7, some a8, some a9, some a10, some a11].getD j none), xJ cy a4 40 ((b_this.2.2 0)), xJ cy a5 40 ((b_this.2.2 1)), xJ cy a6 40 ((b_this.2.2 2)), xJ cy a7 40 ((b_this.2.2 3)), xJ cy a8 40 ((va_cpy ((b_this.2.2 7)) ((b_this.2.2 4)) x3.toNatClampNeg x4.toNatClampNeg x5.toNatClampNeg)), xJ cy a9 40 ((b_this.2.2 5)), xJ cy a10 40 ((b_this.2.2 6)), xJ cy a11 40 ((b_this.2.2 7))]) C hw hr hQ dX1_moveStretch_43
        · rw [e96] at hf
          refine zk_aaldJ (pc := 35) (a' := a9) 5 e96 C hw 3 rfl q95 rfl dX1_moveStretch_35 ?_
          refine lv_iload (pc := 36) hx hb dX1_moveStretch_36 (lv_at hl 4 rfl) ?_
          refine lv_iload (pc := 38) hx hb dX1_moveStretch_38 (lv_at hl 5 rfl) ?_
          obtain ⟨q103, hf⟩ := ck hf
          refine zk_copyJ (pc := 40) (w' := [xSh a0 a1 a2 a3, xI cy a1 8 b_this.1, xI cy a2 8 b_this.2.1, xRJ cy a3 8 (fun j => [some a4, some a5, some a6, some a7, some a8, some a9, some a10, some a11].getD j none), xJ cy a4 40 ((b_this.2.2 0)), xJ cy a5 40 ((b_this.2.2 1)), xJ cy a6 40 ((b_this.2.2 2)), xJ cy a7 40 ((b_this.2.2 3)), xJ cy a8 40 ((b_this.2.2 4)), xJ cy a9 40 ((va_cpy ((b_this.2.2 7)) ((b_this.2.2 5)) x3.toNatClampNeg x4.toNatClampNeg x5.toNatClampNeg)), xJ cy a10 40 ((b_this.2.2 6)), xJ cy a11 40 ((b_this.2.2 7))]) C hw hl.1 zm_X1_49 11 9 rfl rfl q103 ⟨Nat.le_of_ble_eq_true rfl, Nat.le_of_ble_eq_true rfl⟩ rfl dX1_moveStretch_40 (fun H locs hw => ?_)
          have hf := Option.some.inj hf
          subst hf
          exact zk_retv (pc := 43) (ww := [xSh a0 a1 a2 a3, xI cy a1 8 b_this.1, xI cy a2 8 b_this.2.1, xRJ cy a3 8 (fun j => [some a4, some a5, some a6, some a7, some a8, some a9, some a10, some a11].getD j none), xJ cy a4 40 ((b_this.2.2 0)), xJ cy a5 40 ((b_this.2.2 1)), xJ cy a6 40 ((b_this.2.2 2)), xJ cy a7 40 ((b_this.2.2 3)), xJ cy a8 40 ((b_this.2.2 4)), xJ cy a9 40 ((va_cpy ((b_this.2.2 7)) ((b_this.2.2 5)) x3.toNatClampNeg x4.toNatClampNeg x5.toNatClampNeg)), xJ cy a10 40 ((b_this.2.2 6)), xJ cy a11 40 ((b_this.2.2 7))]) C hw hr hQ dX1_moveStretch_43
        · rw [e96] at hf
          refine zk_aaldJ (pc := 35) (a' := a10) 6 e96 C hw 3 rfl q95 rfl dX1_moveStretch_35 ?_
          refine lv_iload (pc := 36) hx hb dX1_moveStretch_36 (lv_at hl 4 rfl) ?_
          refine lv_iload (pc := 38) hx hb dX1_moveStretch_38 (lv_at hl 5 rfl) ?_
          obtain ⟨q104, hf⟩ := ck hf
          refine zk_copyJ (pc := 40) (w' := [xSh a0 a1 a2 a3, xI cy a1 8 b_this.1, xI cy a2 8 b_this.2.1, xRJ cy a3 8 (fun j => [some a4, some a5, some a6, some a7, some a8, some a9, some a10, some a11].getD j none), xJ cy a4 40 ((b_this.2.2 0)), xJ cy a5 40 ((b_this.2.2 1)), xJ cy a6 40 ((b_this.2.2 2)), xJ cy a7 40 ((b_this.2.2 3)), xJ cy a8 40 ((b_this.2.2 4)), xJ cy a9 40 ((b_this.2.2 5)), xJ cy a10 40 ((va_cpy ((b_this.2.2 7)) ((b_this.2.2 6)) x3.toNatClampNeg x4.toNatClampNeg x5.toNatClampNeg)), xJ cy a11 40 ((b_this.2.2 7))]) C hw hl.1 zm_X1_49 11 10 rfl rfl q104 ⟨Nat.le_of_ble_eq_true rfl, Nat.le_of_ble_eq_true rfl⟩ rfl dX1_moveStretch_40 (fun H locs hw => ?_)
          have hf := Option.some.inj hf
          subst hf
          exact zk_retv (pc := 43) (ww := [xSh a0 a1 a2 a3, xI cy a1 8 b_this.1, xI cy a2 8 b_this.2.1, xRJ cy a3 8 (fun j => [some a4, some a5, some a6, some a7, some a8, some a9, some a10, some a11].getD j none), xJ cy a4 40 ((b_this.2.2 0)), xJ cy a5 40 ((b_this.2.2 1)), xJ cy a6 40 ((b_this.2.2 2)), xJ cy a7 40 ((b_this.2.2 3)), xJ cy a8 40 ((b_this.2.2 4)), xJ cy a9 40 ((b_this.2.2 5)), xJ cy a10 40 ((va_cpy ((b_this.2.2 7)) ((b_this.2.2 6)) x3.toNatClampNeg x4.toNatClampNeg x5.toNatClampNeg)), xJ cy a11 40 ((b_this.2.2 7))]) C hw hr hQ dX1_moveStretch_43
        · rw [e96] at hf
          refine zk_aaldJ (pc := 35) (a' := a11) 7 e96 C hw 3 rfl q95 rfl dX1_moveStretch_35 ?_
          refine lv_iload (pc := 36) hx hb dX1_moveStretch_36 (lv_at hl 4 rfl) ?_
          refine lv_iload (pc := 38) hx hb dX1_moveStretch_38 (lv_at hl 5 rfl) ?_
          obtain ⟨q105, hf⟩ := ck hf
          refine zk_copyJ (pc := 40) (w' := [xSh a0 a1 a2 a3, xI cy a1 8 b_this.1, xI cy a2 8 b_this.2.1, xRJ cy a3 8 (fun j => [some a4, some a5, some a6, some a7, some a8, some a9, some a10, some a11].getD j none), xJ cy a4 40 ((b_this.2.2 0)), xJ cy a5 40 ((b_this.2.2 1)), xJ cy a6 40 ((b_this.2.2 2)), xJ cy a7 40 ((b_this.2.2 3)), xJ cy a8 40 ((b_this.2.2 4)), xJ cy a9 40 ((b_this.2.2 5)), xJ cy a10 40 ((b_this.2.2 6)), xJ cy a11 40 ((va_cpy ((b_this.2.2 7)) ((b_this.2.2 7)) x3.toNatClampNeg x4.toNatClampNeg x5.toNatClampNeg))]) C hw hl.1 zm_X1_49 11 11 rfl rfl q105 ⟨Nat.le_of_ble_eq_true rfl, Nat.le_of_ble_eq_true rfl⟩ rfl dX1_moveStretch_40 (fun H locs hw => ?_)
          have hf := Option.some.inj hf
          subst hf
          exact zk_retv (pc := 43) (ww := [xSh a0 a1 a2 a3, xI cy a1 8 b_this.1, xI cy a2 8 b_this.2.1, xRJ cy a3 8 (fun j => [some a4, some a5, some a6, some a7, some a8, some a9, some a10, some a11].getD j none), xJ cy a4 40 ((b_this.2.2 0)), xJ cy a5 40 ((b_this.2.2 1)), xJ cy a6 40 ((b_this.2.2 2)), xJ cy a7 40 ((b_this.2.2 3)), xJ cy a8 40 ((b_this.2.2 4)), xJ cy a9 40 ((b_this.2.2 5)), xJ cy a10 40 ((b_this.2.2 6)), xJ cy a11 40 ((va_cpy ((b_this.2.2 7)) ((b_this.2.2 7)) x3.toNatClampNeg x4.toNatClampNeg x5.toNatClampNeg))]) C hw hr hQ dX1_moveStretch_43
def zf_X7_copy_14 (b_shelves : TSh) (b_refusals : Nat → Int32) : Option (Int32 × TSh × (Nat → Int32)) := (Option.bind (zf_X7_refused (((-2 : Int32))) b_refusals) (fun u23 => some (u23.1, b_shelves, u23.2)))
def zf_X7_copy_55 (b_shelves : TSh) (b_refusals : Nat → Int32) : Option (Int32 × TSh × (Nat → Int32)) := (Option.bind (zf_X7_refused (((-3 : Int32))) b_refusals) (fun u22 => some (u22.1, b_shelves, u22.2)))
def zf_X7_copy_84 (b_shelves : TSh) (b_refusals : Nat → Int32) : Option (Int32 × TSh × (Nat → Int32)) := (Option.bind (zf_X7_refused (((-4 : Int32))) b_refusals) (fun u21 => some (u21.1, b_shelves, u21.2)))
def zf_X7_copy_120 (b_shelves : TSh) (b_refusals : Nat → Int32) : Option (Int32 × TSh × (Nat → Int32)) := (Option.bind (zf_X7_refused (((-2 : Int32))) b_refusals) (fun u20 => some (u20.1, b_shelves, u20.2)))
def zf_X7_copy (x1 : Int32) (x2 : Int32) (x3 : Int32) (x4 : Int32) (x5 : Int32) (b_shelves : TSh) (b_refusals : Nat → Int32) : Option (Int32 × TSh × (Nat → Int32)) := (Option.bind (zf_X7_isShelf x1) (fun u1 => (if u1 then (Option.bind (zf_X7_isShelf x2) (fun u3 => (if u3 then (Option.bind (zf_X1_holdsKeeper x1 b_shelves) (fun u5 => (if u5 then zf_X7_copy_55 b_shelves b_refusals else (Option.bind (zf_X1_holdsKeeper x2 b_shelves) (fun u7 => (if u7 then zf_X7_copy_55 b_shelves b_refusals else (Option.bind (zf_X1_areOfTwoSorts x1 x2 b_shelves) (fun u9 => (if u9 then zf_X7_copy_55 b_shelves b_refusals else (Option.bind (zf_X1_holdsRow x1 b_shelves) (fun u11 => (if u11 then (Option.bind (zf_X1_holdsRow x2 b_shelves) (fun u13 => (if u13 then (Option.bind (zf_X1_hasStretch x1 x3 x5 b_shelves) (fun u15 => (if u15 then (Option.bind (zf_X1_hasStretch x2 x4 x5 b_shelves) (fun u17 => (if u17 then (Option.bind (zf_X1_moveStretch x1 x2 x3 x4 x5 b_shelves) (fun u19 => some (x5, u19, b_refusals))) else zf_X7_copy_120 b_shelves b_refusals))) else zf_X7_copy_120 b_shelves b_refusals))) else zf_X7_copy_84 b_shelves b_refusals))) else zf_X7_copy_84 b_shelves b_refusals)))))))))))) else zf_X7_copy_14 b_shelves b_refusals))) else zf_X7_copy_14 b_shelves b_refusals)))
abbrev zr_X7_copy : Room := { frames := 4, cells := 0, slots := 0, locals := 91 }
set_option maxHeartbeats 4000000 in
set_option maxRecDepth 100000 in
theorem c_X7_copy (l : Launch) (G : va_G) (cy : Nat → ClassId) (tt : Nat → Nat) (L : Nat → Nat) (b_seedNow : Int32) (b_keptSeed : Int32) (b_isKept : Bool) (x1 : Int32) (x2 : Int32) (x3 : Int32) (x4 : Int32) (x5 : Int32) (b_shelves : TSh) (b_refusals : Nat → Int32) (res : Int32 × TSh × (Nat → Int32)) (hf : zf_X7_copy x1 x2 x3 x4 x5 b_shelves b_refusals = some res) : zCT l yX7_copy cX7_copy 6 (some .int) zr_X7_copy G cy tt [.ref ((L 0)), .int x1, .int x2, .int x3, .int x4, .int x5] [xU L b_seedNow b_keptSeed b_isKept, xSh ((L 20)) ((L 21)) ((L 22)) ((L 23)), xI cy ((L 21)) 8 b_shelves.1, xI cy ((L 22)) 8 b_shelves.2.1, xRJ cy ((L 23)) 8 (fun j => [some ((L 24)), some ((L 25)), some ((L 26)), some ((L 27)), some ((L 28)), some ((L 29)), some ((L 30)), some ((L 31))].getD j none), xJ cy ((L 24)) 40 ((b_shelves.2.2 0)), xJ cy ((L 25)) 40 ((b_shelves.2.2 1)), xJ cy ((L 26)) 40 ((b_shelves.2.2 2)), xJ cy ((L 27)) 40 ((b_shelves.2.2 3)), xJ cy ((L 28)) 40 ((b_shelves.2.2 4)), xJ cy ((L 29)) 40 ((b_shelves.2.2 5)), xJ cy ((L 30)) 40 ((b_shelves.2.2 6)), xJ cy ((L 31)) 40 ((b_shelves.2.2 7)), xI cy ((L 48)) 5 b_refusals] (some (.int res.1)) [xU L b_seedNow b_keptSeed b_isKept, xSh ((L 20)) ((L 21)) ((L 22)) ((L 23)), xI cy ((L 21)) 8 res.2.1.1, xI cy ((L 22)) 8 res.2.1.2.1, xRJ cy ((L 23)) 8 (fun j => [some ((L 24)), some ((L 25)), some ((L 26)), some ((L 27)), some ((L 28)), some ((L 29)), some ((L 30)), some ((L 31))].getD j none), xJ cy ((L 24)) 40 ((res.2.1.2.2 0)), xJ cy ((L 25)) 40 ((res.2.1.2.2 1)), xJ cy ((L 26)) 40 ((res.2.1.2.2 2)), xJ cy ((L 27)) 40 ((res.2.1.2.2 3)), xJ cy ((L 28)) 40 ((res.2.1.2.2 4)), xJ cy ((L 29)) 40 ((res.2.1.2.2 5)), xJ cy ((L 30)) 40 ((res.2.1.2.2 6)), xJ cy ((L 31)) 40 ((res.2.1.2.2 7)), xI cy ((L 48)) 5 res.2.2] := by
  refine zk_start zn_X7 (Nat.le_of_ble_eq_true rfl) ?_
  intro p e s m args below meth c A ls Q C hr hQ hw hl
  have C : zCx p m c s args meth cX7_copy 6 RX7 G cy tt A := C
  have hx := C.1.1
  have hb := C.1.2.1
  have hl : lv_has ls 6 [(0, .ref ((L 0))), (1, .int x1), (2, .int x2), (3, .int x3), (4, .int x4), (5, .int x5)] := hl
  have J14 : ∀ (b_shelves : TSh) (b_refusals : Nat → Int32) (H : Heap) (locs : List Loc) (ls : Array Slot), zf_X7_copy_14 b_shelves b_refusals = some res → zWd G A s.heap H locs [xU L b_seedNow b_keptSeed b_isKept, xSh ((L 20)) ((L 21)) ((L 22)) ((L 23)), xI cy ((L 21)) 8 b_shelves.1, xI cy ((L 22)) 8 b_shelves.2.1, xRJ cy ((L 23)) 8 (fun j => [some ((L 24)), some ((L 25)), some ((L 26)), some ((L 27)), some ((L 28)), some ((L 29)), some ((L 30)), some ((L 31))].getD j none), xJ cy ((L 24)) 40 ((b_shelves.2.2 0)), xJ cy ((L 25)) 40 ((b_shelves.2.2 1)), xJ cy ((L 26)) 40 ((b_shelves.2.2 2)), xJ cy ((L 27)) 40 ((b_shelves.2.2 3)), xJ cy ((L 28)) 40 ((b_shelves.2.2 4)), xJ cy ((L 29)) 40 ((b_shelves.2.2 5)), xJ cy ((L 30)) 40 ((b_shelves.2.2 6)), xJ cy ((L 31)) 40 ((b_shelves.2.2 7)), xI cy ((L 48)) 5 b_refusals] → lv_has ls 6 [(0, .ref ((L 0)))] → W p l e zr_X7_copy s m args below meth c H locs 0 0 Q (F0 m 14 ls []) := by
    intro b_shelves b_refusals H locs ls hf hw hl
    rw [zf_X7_copy_14] at hf
    refine lv_aload_n (pc := 14) hx hb dX7_copy_14 rfl (lv_at hl 0 rfl) ?_
    refine lv_bipush (pc := 15) (v := -2) hx hb dX7_copy_15 (by decide) ?_
    obtain ⟨u23, u23e, hf⟩ := bd hf
    refine zk_cV (pc := 17) (ci := 7) (q0 := 0) (rest := []) (st1 := [.int u23.1]) (w' := [xU L b_seedNow b_keptSeed b_isKept, xSh ((L 20)) ((L 21)) ((L 22)) ((L 23)), xI cy ((L 21)) 8 b_shelves.1, xI cy ((L 22)) 8 b_shelves.2.1, xRJ cy ((L 23)) 8 (fun j => [some ((L 24)), some ((L 25)), some ((L 26)), some ((L 27)), some ((L 28)), some ((L 29)), some ((L 30)), some ((L 31))].getD j none), xJ cy ((L 24)) 40 ((b_shelves.2.2 0)), xJ cy ((L 25)) 40 ((b_shelves.2.2 1)), xJ cy ((L 26)) 40 ((b_shelves.2.2 2)), xJ cy ((L 27)) 40 ((b_shelves.2.2 3)), xJ cy ((L 28)) 40 ((b_shelves.2.2 4)), xJ cy ((L 29)) 40 ((b_shelves.2.2 5)), xJ cy ((L 30)) 40 ((b_shelves.2.2 6)), xJ cy ((L 31)) 40 ((b_shelves.2.2 7)), xI cy ((L 48)) 5 u23.2]) (mk := [none, none, none, none, none, none, none, none, none, none, none, none, none, some (xI cy ((L 48)) 5 u23.2)]) C hw (c_X7_refused l G cy tt L b_seedNow b_keptSeed b_isKept (((-2 : Int32))) b_refusals _ u23e) zy_X7_refused zm_X7_103 rfl rfl rfl [0, 13] rfl rfl rfl rfl rfl rfl rfl rfl hl.1 ⟨rfl, rfl⟩ ⟨Nat.le_of_ble_eq_true rfl, Nat.le_of_ble_eq_true rfl⟩ rfl (Nat.le_of_ble_eq_true rfl) ⟨Nat.zero_le _, Nat.zero_le _⟩ dX7_copy_17 (fun H locs hw => ?_)
    have hf := Option.some.inj hf
    subst hf
    exact zk_reti (pc := 20) (ww := [xU L b_seedNow b_keptSeed b_isKept, xSh ((L 20)) ((L 21)) ((L 22)) ((L 23)), xI cy ((L 21)) 8 b_shelves.1, xI cy ((L 22)) 8 b_shelves.2.1, xRJ cy ((L 23)) 8 (fun j => [some ((L 24)), some ((L 25)), some ((L 26)), some ((L 27)), some ((L 28)), some ((L 29)), some ((L 30)), some ((L 31))].getD j none), xJ cy ((L 24)) 40 ((b_shelves.2.2 0)), xJ cy ((L 25)) 40 ((b_shelves.2.2 1)), xJ cy ((L 26)) 40 ((b_shelves.2.2 2)), xJ cy ((L 27)) 40 ((b_shelves.2.2 3)), xJ cy ((L 28)) 40 ((b_shelves.2.2 4)), xJ cy ((L 29)) 40 ((b_shelves.2.2 5)), xJ cy ((L 30)) 40 ((b_shelves.2.2 6)), xJ cy ((L 31)) 40 ((b_shelves.2.2 7)), xI cy ((L 48)) 5 u23.2]) C hw hr hQ dX7_copy_20
  have J55 : ∀ (b_shelves : TSh) (b_refusals : Nat → Int32) (H : Heap) (locs : List Loc) (ls : Array Slot), zf_X7_copy_55 b_shelves b_refusals = some res → zWd G A s.heap H locs [xU L b_seedNow b_keptSeed b_isKept, xSh ((L 20)) ((L 21)) ((L 22)) ((L 23)), xI cy ((L 21)) 8 b_shelves.1, xI cy ((L 22)) 8 b_shelves.2.1, xRJ cy ((L 23)) 8 (fun j => [some ((L 24)), some ((L 25)), some ((L 26)), some ((L 27)), some ((L 28)), some ((L 29)), some ((L 30)), some ((L 31))].getD j none), xJ cy ((L 24)) 40 ((b_shelves.2.2 0)), xJ cy ((L 25)) 40 ((b_shelves.2.2 1)), xJ cy ((L 26)) 40 ((b_shelves.2.2 2)), xJ cy ((L 27)) 40 ((b_shelves.2.2 3)), xJ cy ((L 28)) 40 ((b_shelves.2.2 4)), xJ cy ((L 29)) 40 ((b_shelves.2.2 5)), xJ cy ((L 30)) 40 ((b_shelves.2.2 6)), xJ cy ((L 31)) 40 ((b_shelves.2.2 7)), xI cy ((L 48)) 5 b_refusals] → lv_has ls 6 [(0, .ref ((L 0)))] → W p l e zr_X7_copy s m args below meth c H locs 0 0 Q (F0 m 55 ls []) := by
    intro b_shelves b_refusals H locs ls hf hw hl
    rw [zf_X7_copy_55] at hf
    refine lv_aload_n (pc := 55) hx hb dX7_copy_55 rfl (lv_at hl 0 rfl) ?_
    refine lv_bipush (pc := 56) (v := -3) hx hb dX7_copy_56 (by decide) ?_
    obtain ⟨u22, u22e, hf⟩ := bd hf
    refine zk_cV (pc := 58) (ci := 7) (q0 := 0) (rest := []) (st1 := [.int u22.1]) (w' := [xU L b_seedNow b_keptSeed b_isKept, xSh ((L 20)) ((L 21)) ((L 22)) ((L 23)), xI cy ((L 21)) 8 b_shelves.1, xI cy ((L 22)) 8 b_shelves.2.1, xRJ cy ((L 23)) 8 (fun j => [some ((L 24)), some ((L 25)), some ((L 26)), some ((L 27)), some ((L 28)), some ((L 29)), some ((L 30)), some ((L 31))].getD j none), xJ cy ((L 24)) 40 ((b_shelves.2.2 0)), xJ cy ((L 25)) 40 ((b_shelves.2.2 1)), xJ cy ((L 26)) 40 ((b_shelves.2.2 2)), xJ cy ((L 27)) 40 ((b_shelves.2.2 3)), xJ cy ((L 28)) 40 ((b_shelves.2.2 4)), xJ cy ((L 29)) 40 ((b_shelves.2.2 5)), xJ cy ((L 30)) 40 ((b_shelves.2.2 6)), xJ cy ((L 31)) 40 ((b_shelves.2.2 7)), xI cy ((L 48)) 5 u22.2]) (mk := [none, none, none, none, none, none, none, none, none, none, none, none, none, some (xI cy ((L 48)) 5 u22.2)]) C hw (c_X7_refused l G cy tt L b_seedNow b_keptSeed b_isKept (((-3 : Int32))) b_refusals _ u22e) zy_X7_refused zm_X7_103 rfl rfl rfl [0, 13] rfl rfl rfl rfl rfl rfl rfl rfl hl.1 ⟨rfl, rfl⟩ ⟨Nat.le_of_ble_eq_true rfl, Nat.le_of_ble_eq_true rfl⟩ rfl (Nat.le_of_ble_eq_true rfl) ⟨Nat.zero_le _, Nat.zero_le _⟩ dX7_copy_58 (fun H locs hw => ?_)
    have hf := Option.some.inj hf
    subst hf
    exact zk_reti (pc := 61) (ww := [xU L b_seedNow b_keptSeed b_isKept, xSh ((L 20)) ((L 21)) ((L 22)) ((L 23)), xI cy ((L 21)) 8 b_shelves.1, xI cy ((L 22)) 8 b_shelves.2.1, xRJ cy ((L 23)) 8 (fun j => [some ((L 24)), some ((L 25)), some ((L 26)), some ((L 27)), some ((L 28)), some ((L 29)), some ((L 30)), some ((L 31))].getD j none), xJ cy ((L 24)) 40 ((b_shelves.2.2 0)), xJ cy ((L 25)) 40 ((b_shelves.2.2 1)), xJ cy ((L 26)) 40 ((b_shelves.2.2 2)), xJ cy ((L 27)) 40 ((b_shelves.2.2 3)), xJ cy ((L 28)) 40 ((b_shelves.2.2 4)), xJ cy ((L 29)) 40 ((b_shelves.2.2 5)), xJ cy ((L 30)) 40 ((b_shelves.2.2 6)), xJ cy ((L 31)) 40 ((b_shelves.2.2 7)), xI cy ((L 48)) 5 u22.2]) C hw hr hQ dX7_copy_61
  have J84 : ∀ (b_shelves : TSh) (b_refusals : Nat → Int32) (H : Heap) (locs : List Loc) (ls : Array Slot), zf_X7_copy_84 b_shelves b_refusals = some res → zWd G A s.heap H locs [xU L b_seedNow b_keptSeed b_isKept, xSh ((L 20)) ((L 21)) ((L 22)) ((L 23)), xI cy ((L 21)) 8 b_shelves.1, xI cy ((L 22)) 8 b_shelves.2.1, xRJ cy ((L 23)) 8 (fun j => [some ((L 24)), some ((L 25)), some ((L 26)), some ((L 27)), some ((L 28)), some ((L 29)), some ((L 30)), some ((L 31))].getD j none), xJ cy ((L 24)) 40 ((b_shelves.2.2 0)), xJ cy ((L 25)) 40 ((b_shelves.2.2 1)), xJ cy ((L 26)) 40 ((b_shelves.2.2 2)), xJ cy ((L 27)) 40 ((b_shelves.2.2 3)), xJ cy ((L 28)) 40 ((b_shelves.2.2 4)), xJ cy ((L 29)) 40 ((b_shelves.2.2 5)), xJ cy ((L 30)) 40 ((b_shelves.2.2 6)), xJ cy ((L 31)) 40 ((b_shelves.2.2 7)), xI cy ((L 48)) 5 b_refusals] → lv_has ls 6 [(0, .ref ((L 0)))] → W p l e zr_X7_copy s m args below meth c H locs 0 0 Q (F0 m 84 ls []) := by
    intro b_shelves b_refusals H locs ls hf hw hl
    rw [zf_X7_copy_84] at hf
    refine lv_aload_n (pc := 84) hx hb dX7_copy_84 rfl (lv_at hl 0 rfl) ?_
    refine lv_bipush (pc := 85) (v := -4) hx hb dX7_copy_85 (by decide) ?_
    obtain ⟨u21, u21e, hf⟩ := bd hf
    refine zk_cV (pc := 87) (ci := 7) (q0 := 0) (rest := []) (st1 := [.int u21.1]) (w' := [xU L b_seedNow b_keptSeed b_isKept, xSh ((L 20)) ((L 21)) ((L 22)) ((L 23)), xI cy ((L 21)) 8 b_shelves.1, xI cy ((L 22)) 8 b_shelves.2.1, xRJ cy ((L 23)) 8 (fun j => [some ((L 24)), some ((L 25)), some ((L 26)), some ((L 27)), some ((L 28)), some ((L 29)), some ((L 30)), some ((L 31))].getD j none), xJ cy ((L 24)) 40 ((b_shelves.2.2 0)), xJ cy ((L 25)) 40 ((b_shelves.2.2 1)), xJ cy ((L 26)) 40 ((b_shelves.2.2 2)), xJ cy ((L 27)) 40 ((b_shelves.2.2 3)), xJ cy ((L 28)) 40 ((b_shelves.2.2 4)), xJ cy ((L 29)) 40 ((b_shelves.2.2 5)), xJ cy ((L 30)) 40 ((b_shelves.2.2 6)), xJ cy ((L 31)) 40 ((b_shelves.2.2 7)), xI cy ((L 48)) 5 u21.2]) (mk := [none, none, none, none, none, none, none, none, none, none, none, none, none, some (xI cy ((L 48)) 5 u21.2)]) C hw (c_X7_refused l G cy tt L b_seedNow b_keptSeed b_isKept (((-4 : Int32))) b_refusals _ u21e) zy_X7_refused zm_X7_103 rfl rfl rfl [0, 13] rfl rfl rfl rfl rfl rfl rfl rfl hl.1 ⟨rfl, rfl⟩ ⟨Nat.le_of_ble_eq_true rfl, Nat.le_of_ble_eq_true rfl⟩ rfl (Nat.le_of_ble_eq_true rfl) ⟨Nat.zero_le _, Nat.zero_le _⟩ dX7_copy_87 (fun H locs hw => ?_)
    have hf := Option.some.inj hf
    subst hf
    exact zk_reti (pc := 90) (ww := [xU L b_seedNow b_keptSeed b_isKept, xSh ((L 20)) ((L 21)) ((L 22)) ((L 23)), xI cy ((L 21)) 8 b_shelves.1, xI cy ((L 22)) 8 b_shelves.2.1, xRJ cy ((L 23)) 8 (fun j => [some ((L 24)), some ((L 25)), some ((L 26)), some ((L 27)), some ((L 28)), some ((L 29)), some ((L 30)), some ((L 31))].getD j none), xJ cy ((L 24)) 40 ((b_shelves.2.2 0)), xJ cy ((L 25)) 40 ((b_shelves.2.2 1)), xJ cy ((L 26)) 40 ((b_shelves.2.2 2)), xJ cy ((L 27)) 40 ((b_shelves.2.2 3)), xJ cy ((L 28)) 40 ((b_shelves.2.2 4)), xJ cy ((L 29)) 40 ((b_shelves.2.2 5)), xJ cy ((L 30)) 40 ((b_shelves.2.2 6)), xJ cy ((L 31)) 40 ((b_shelves.2.2 7)), xI cy ((L 48)) 5 u21.2]) C hw hr hQ dX7_copy_90
  have J120 : ∀ (b_shelves : TSh) (b_refusals : Nat → Int32) (H : Heap) (locs : List Loc) (ls : Array Slot), zf_X7_copy_120 b_shelves b_refusals = some res → zWd G A s.heap H locs [xU L b_seedNow b_keptSeed b_isKept, xSh ((L 20)) ((L 21)) ((L 22)) ((L 23)), xI cy ((L 21)) 8 b_shelves.1, xI cy ((L 22)) 8 b_shelves.2.1, xRJ cy ((L 23)) 8 (fun j => [some ((L 24)), some ((L 25)), some ((L 26)), some ((L 27)), some ((L 28)), some ((L 29)), some ((L 30)), some ((L 31))].getD j none), xJ cy ((L 24)) 40 ((b_shelves.2.2 0)), xJ cy ((L 25)) 40 ((b_shelves.2.2 1)), xJ cy ((L 26)) 40 ((b_shelves.2.2 2)), xJ cy ((L 27)) 40 ((b_shelves.2.2 3)), xJ cy ((L 28)) 40 ((b_shelves.2.2 4)), xJ cy ((L 29)) 40 ((b_shelves.2.2 5)), xJ cy ((L 30)) 40 ((b_shelves.2.2 6)), xJ cy ((L 31)) 40 ((b_shelves.2.2 7)), xI cy ((L 48)) 5 b_refusals] → lv_has ls 6 [(0, .ref ((L 0)))] → W p l e zr_X7_copy s m args below meth c H locs 0 0 Q (F0 m 120 ls []) := by
    intro b_shelves b_refusals H locs ls hf hw hl
    rw [zf_X7_copy_120] at hf
    refine lv_aload_n (pc := 120) hx hb dX7_copy_120 rfl (lv_at hl 0 rfl) ?_
    refine lv_bipush (pc := 121) (v := -2) hx hb dX7_copy_121 (by decide) ?_
    obtain ⟨u20, u20e, hf⟩ := bd hf
    refine zk_cV (pc := 123) (ci := 7) (q0 := 0) (rest := []) (st1 := [.int u20.1]) (w' := [xU L b_seedNow b_keptSeed b_isKept, xSh ((L 20)) ((L 21)) ((L 22)) ((L 23)), xI cy ((L 21)) 8 b_shelves.1, xI cy ((L 22)) 8 b_shelves.2.1, xRJ cy ((L 23)) 8 (fun j => [some ((L 24)), some ((L 25)), some ((L 26)), some ((L 27)), some ((L 28)), some ((L 29)), some ((L 30)), some ((L 31))].getD j none), xJ cy ((L 24)) 40 ((b_shelves.2.2 0)), xJ cy ((L 25)) 40 ((b_shelves.2.2 1)), xJ cy ((L 26)) 40 ((b_shelves.2.2 2)), xJ cy ((L 27)) 40 ((b_shelves.2.2 3)), xJ cy ((L 28)) 40 ((b_shelves.2.2 4)), xJ cy ((L 29)) 40 ((b_shelves.2.2 5)), xJ cy ((L 30)) 40 ((b_shelves.2.2 6)), xJ cy ((L 31)) 40 ((b_shelves.2.2 7)), xI cy ((L 48)) 5 u20.2]) (mk := [none, none, none, none, none, none, none, none, none, none, none, none, none, some (xI cy ((L 48)) 5 u20.2)]) C hw (c_X7_refused l G cy tt L b_seedNow b_keptSeed b_isKept (((-2 : Int32))) b_refusals _ u20e) zy_X7_refused zm_X7_103 rfl rfl rfl [0, 13] rfl rfl rfl rfl rfl rfl rfl rfl hl.1 ⟨rfl, rfl⟩ ⟨Nat.le_of_ble_eq_true rfl, Nat.le_of_ble_eq_true rfl⟩ rfl (Nat.le_of_ble_eq_true rfl) ⟨Nat.zero_le _, Nat.zero_le _⟩ dX7_copy_123 (fun H locs hw => ?_)
    have hf := Option.some.inj hf
    subst hf
    exact zk_reti (pc := 126) (ww := [xU L b_seedNow b_keptSeed b_isKept, xSh ((L 20)) ((L 21)) ((L 22)) ((L 23)), xI cy ((L 21)) 8 b_shelves.1, xI cy ((L 22)) 8 b_shelves.2.1, xRJ cy ((L 23)) 8 (fun j => [some ((L 24)), some ((L 25)), some ((L 26)), some ((L 27)), some ((L 28)), some ((L 29)), some ((L 30)), some ((L 31))].getD j none), xJ cy ((L 24)) 40 ((b_shelves.2.2 0)), xJ cy ((L 25)) 40 ((b_shelves.2.2 1)), xJ cy ((L 26)) 40 ((b_shelves.2.2 2)), xJ cy ((L 27)) 40 ((b_shelves.2.2 3)), xJ cy ((L 28)) 40 ((b_shelves.2.2 4)), xJ cy ((L 29)) 40 ((b_shelves.2.2 5)), xJ cy ((L 30)) 40 ((b_shelves.2.2 6)), xJ cy ((L 31)) 40 ((b_shelves.2.2 7)), xI cy ((L 48)) 5 u20.2]) C hw hr hQ dX7_copy_126
  rw [zf_X7_copy] at hf
  refine lv_iload_n (pc := 0) hx hb dX7_copy_0 rfl (lv_at hl 1 rfl) ?_
  obtain ⟨u1, u1e, hf⟩ := bd hf
  refine zk_cS (pc := 1) (rest := []) (st1 := [.int (bI u1)]) (w' := [xU L b_seedNow b_keptSeed b_isKept, xSh ((L 20)) ((L 21)) ((L 22)) ((L 23)), xI cy ((L 21)) 8 b_shelves.1, xI cy ((L 22)) 8 b_shelves.2.1, xRJ cy ((L 23)) 8 (fun j => [some ((L 24)), some ((L 25)), some ((L 26)), some ((L 27)), some ((L 28)), some ((L 29)), some ((L 30)), some ((L 31))].getD j none), xJ cy ((L 24)) 40 ((b_shelves.2.2 0)), xJ cy ((L 25)) 40 ((b_shelves.2.2 1)), xJ cy ((L 26)) 40 ((b_shelves.2.2 2)), xJ cy ((L 27)) 40 ((b_shelves.2.2 3)), xJ cy ((L 28)) 40 ((b_shelves.2.2 4)), xJ cy ((L 29)) 40 ((b_shelves.2.2 5)), xJ cy ((L 30)) 40 ((b_shelves.2.2 6)), xJ cy ((L 31)) 40 ((b_shelves.2.2 7)), xI cy ((L 48)) 5 b_refusals]) (mk := [none, none, none, none, none, none, none, none, none, none, none, none, none, none]) C hw (c_X7_isShelf l G cy tt x1 _ u1e) zy_X7_isShelf zm_X7_95 [] rfl rfl rfl rfl rfl rfl rfl rfl hl.1 ⟨rfl, rfl⟩ ⟨Nat.le_of_ble_eq_true rfl, Nat.le_of_ble_eq_true rfl⟩ rfl (Nat.le_of_ble_eq_true rfl) ⟨Nat.zero_le _, Nat.zero_le _⟩ dX7_copy_1 (fun H locs hw => ?_)
  refine zk_ifz (pc := 4) (tgt := 14) hx hb dX7_copy_4 (by decide) (fun q2 => ?_) (fun q2 => ?_)
  · replace hf := if_f q2 hf
    exact J14 b_shelves b_refusals _ _ _ hf hw (lv_sub hl [0] rfl)
  · replace hf := if_t q2 hf
    refine lv_iload_n (pc := 7) hx hb dX7_copy_7 rfl (lv_at hl 2 rfl) ?_
    obtain ⟨u3, u3e, hf⟩ := bd hf
    refine zk_cS (pc := 8) (rest := []) (st1 := [.int (bI u3)]) (w' := [xU L b_seedNow b_keptSeed b_isKept, xSh ((L 20)) ((L 21)) ((L 22)) ((L 23)), xI cy ((L 21)) 8 b_shelves.1, xI cy ((L 22)) 8 b_shelves.2.1, xRJ cy ((L 23)) 8 (fun j => [some ((L 24)), some ((L 25)), some ((L 26)), some ((L 27)), some ((L 28)), some ((L 29)), some ((L 30)), some ((L 31))].getD j none), xJ cy ((L 24)) 40 ((b_shelves.2.2 0)), xJ cy ((L 25)) 40 ((b_shelves.2.2 1)), xJ cy ((L 26)) 40 ((b_shelves.2.2 2)), xJ cy ((L 27)) 40 ((b_shelves.2.2 3)), xJ cy ((L 28)) 40 ((b_shelves.2.2 4)), xJ cy ((L 29)) 40 ((b_shelves.2.2 5)), xJ cy ((L 30)) 40 ((b_shelves.2.2 6)), xJ cy ((L 31)) 40 ((b_shelves.2.2 7)), xI cy ((L 48)) 5 b_refusals]) (mk := [none, none, none, none, none, none, none, none, none, none, none, none, none, none]) C hw (c_X7_isShelf l G cy tt x2 _ u3e) zy_X7_isShelf zm_X7_95 [] rfl rfl rfl rfl rfl rfl rfl rfl hl.1 ⟨rfl, rfl⟩ ⟨Nat.le_of_ble_eq_true rfl, Nat.le_of_ble_eq_true rfl⟩ rfl (Nat.le_of_ble_eq_true rfl) ⟨Nat.zero_le _, Nat.zero_le _⟩ dX7_copy_8 (fun H locs hw => ?_)
    refine zk_ifnz (pc := 11) (tgt := 21) hx hb dX7_copy_11 (by decide) (fun q4 => ?_) (fun q4 => ?_)
    · replace hf := if_t q4 hf
      refine lv_aload_n (pc := 21) hx hb dX7_copy_21 rfl (lv_at hl 0 rfl) ?_
      refine zk_gt (pc := 22) C hw zl_X7_41 0 rfl rfl dX7_copy_22 ?_
      refine lv_iload_n (pc := 25) hx hb dX7_copy_25 rfl (lv_at hl 1 rfl) ?_
      obtain ⟨u5, u5e, hf⟩ := bd hf
      refine zk_cV (pc := 26) (ci := 1) (q0 := 1) (rest := []) (st1 := [.int (bI u5)]) (w' := [xU L b_seedNow b_keptSeed b_isKept, xSh ((L 20)) ((L 21)) ((L 22)) ((L 23)), xI cy ((L 21)) 8 b_shelves.1, xI cy ((L 22)) 8 b_shelves.2.1, xRJ cy ((L 23)) 8 (fun j => [some ((L 24)), some ((L 25)), some ((L 26)), some ((L 27)), some ((L 28)), some ((L 29)), some ((L 30)), some ((L 31))].getD j none), xJ cy ((L 24)) 40 ((b_shelves.2.2 0)), xJ cy ((L 25)) 40 ((b_shelves.2.2 1)), xJ cy ((L 26)) 40 ((b_shelves.2.2 2)), xJ cy ((L 27)) 40 ((b_shelves.2.2 3)), xJ cy ((L 28)) 40 ((b_shelves.2.2 4)), xJ cy ((L 29)) 40 ((b_shelves.2.2 5)), xJ cy ((L 30)) 40 ((b_shelves.2.2 6)), xJ cy ((L 31)) 40 ((b_shelves.2.2 7)), xI cy ((L 48)) 5 b_refusals]) (mk := [none, none, none, none, none, none, none, none, none, none, none, none, none, none]) C hw (c_X1_holdsKeeper l G cy tt ((L 20)) ((L 21)) ((L 22)) ((L 23)) ((L 24)) ((L 25)) ((L 26)) ((L 27)) ((L 28)) ((L 29)) ((L 30)) ((L 31)) x1 b_shelves _ u5e) zy_X1_holdsKeeper zm_X7_123 rfl rfl rfl [1, 2, 3, 4, 5, 6, 7, 8, 9, 10, 11, 12] rfl rfl rfl rfl rfl rfl rfl rfl hl.1 ⟨rfl, rfl⟩ ⟨Nat.le_of_ble_eq_true rfl, Nat.le_of_ble_eq_true rfl⟩ rfl (Nat.le_of_ble_eq_true rfl) ⟨Nat.zero_le _, Nat.zero_le _⟩ dX7_copy_26 (fun H locs hw => ?_)
      refine zk_ifnz (pc := 29) (tgt := 55) hx hb dX7_copy_29 (by decide) (fun q6 => ?_) (fun q6 => ?_)
      · replace hf := if_t q6 hf
        exact J55 b_shelves b_refusals _ _ _ hf hw (lv_sub hl [0] rfl)
      · replace hf := if_f q6 hf
        refine lv_aload_n (pc := 32) hx hb dX7_copy_32 rfl (lv_at hl 0 rfl) ?_
        refine zk_gt (pc := 33) C hw zl_X7_41 0 rfl rfl dX7_copy_33 ?_
        refine lv_iload_n (pc := 36) hx hb dX7_copy_36 rfl (lv_at hl 2 rfl) ?_
        obtain ⟨u7, u7e, hf⟩ := bd hf
        refine zk_cV (pc := 37) (ci := 1) (q0 := 1) (rest := []) (st1 := [.int (bI u7)]) (w' := [xU L b_seedNow b_keptSeed b_isKept, xSh ((L 20)) ((L 21)) ((L 22)) ((L 23)), xI cy ((L 21)) 8 b_shelves.1, xI cy ((L 22)) 8 b_shelves.2.1, xRJ cy ((L 23)) 8 (fun j => [some ((L 24)), some ((L 25)), some ((L 26)), some ((L 27)), some ((L 28)), some ((L 29)), some ((L 30)), some ((L 31))].getD j none), xJ cy ((L 24)) 40 ((b_shelves.2.2 0)), xJ cy ((L 25)) 40 ((b_shelves.2.2 1)), xJ cy ((L 26)) 40 ((b_shelves.2.2 2)), xJ cy ((L 27)) 40 ((b_shelves.2.2 3)), xJ cy ((L 28)) 40 ((b_shelves.2.2 4)), xJ cy ((L 29)) 40 ((b_shelves.2.2 5)), xJ cy ((L 30)) 40 ((b_shelves.2.2 6)), xJ cy ((L 31)) 40 ((b_shelves.2.2 7)), xI cy ((L 48)) 5 b_refusals]) (mk := [none, none, none, none, none, none, none, none, none, none, none, none, none, none]) C hw (c_X1_holdsKeeper l G cy tt ((L 20)) ((L 21)) ((L 22)) ((L 23)) ((L 24)) ((L 25)) ((L 26)) ((L 27)) ((L 28)) ((L 29)) ((L 30)) ((L 31)) x2 b_shelves _ u7e) zy_X1_holdsKeeper zm_X7_123 rfl rfl rfl [1, 2, 3, 4, 5, 6, 7, 8, 9, 10, 11, 12] rfl rfl rfl rfl rfl rfl rfl rfl hl.1 ⟨rfl, rfl⟩ ⟨Nat.le_of_ble_eq_true rfl, Nat.le_of_ble_eq_true rfl⟩ rfl (Nat.le_of_ble_eq_true rfl) ⟨Nat.zero_le _, Nat.zero_le _⟩ dX7_copy_37 (fun H locs hw => ?_)
        refine zk_ifnz (pc := 40) (tgt := 55) hx hb dX7_copy_40 (by decide) (fun q8 => ?_) (fun q8 => ?_)
        · replace hf := if_t q8 hf
          exact J55 b_shelves b_refusals _ _ _ hf hw (lv_sub hl [0] rfl)
        · replace hf := if_f q8 hf
          refine lv_aload_n (pc := 43) hx hb dX7_copy_43 rfl (lv_at hl 0 rfl) ?_
          refine zk_gt (pc := 44) C hw zl_X7_41 0 rfl rfl dX7_copy_44 ?_
          refine lv_iload_n (pc := 47) hx hb dX7_copy_47 rfl (lv_at hl 1 rfl) ?_
          refine lv_iload_n (pc := 48) hx hb dX7_copy_48 rfl (lv_at hl 2 rfl) ?_
          obtain ⟨u9, u9e, hf⟩ := bd hf
          refine zk_cV (pc := 49) (ci := 1) (q0 := 1) (rest := []) (st1 := [.int (bI u9)]) (w' := [xU L b_seedNow b_keptSeed b_isKept, xSh ((L 20)) ((L 21)) ((L 22)) ((L 23)), xI cy ((L 21)) 8 b_shelves.1, xI cy ((L 22)) 8 b_shelves.2.1, xRJ cy ((L 23)) 8 (fun j => [some ((L 24)), some ((L 25)), some ((L 26)), some ((L 27)), some ((L 28)), some ((L 29)), some ((L 30)), some ((L 31))].getD j none), xJ cy ((L 24)) 40 ((b_shelves.2.2 0)), xJ cy ((L 25)) 40 ((b_shelves.2.2 1)), xJ cy ((L 26)) 40 ((b_shelves.2.2 2)), xJ cy ((L 27)) 40 ((b_shelves.2.2 3)), xJ cy ((L 28)) 40 ((b_shelves.2.2 4)), xJ cy ((L 29)) 40 ((b_shelves.2.2 5)), xJ cy ((L 30)) 40 ((b_shelves.2.2 6)), xJ cy ((L 31)) 40 ((b_shelves.2.2 7)), xI cy ((L 48)) 5 b_refusals]) (mk := [none, none, none, none, none, none, none, none, none, none, none, none, none, none]) C hw (c_X1_areOfTwoSorts l G cy tt ((L 20)) ((L 21)) ((L 22)) ((L 23)) ((L 24)) ((L 25)) ((L 26)) ((L 27)) ((L 28)) ((L 29)) ((L 30)) ((L 31)) x1 x2 b_shelves _ u9e) zy_X1_areOfTwoSorts zm_X7_126 rfl rfl rfl [1, 2, 3, 4, 5, 6, 7, 8, 9, 10, 11, 12] rfl rfl rfl rfl rfl rfl rfl rfl hl.1 ⟨rfl, rfl⟩ ⟨Nat.le_of_ble_eq_true rfl, Nat.le_of_ble_eq_true rfl⟩ rfl (Nat.le_of_ble_eq_true rfl) ⟨Nat.zero_le _, Nat.zero_le _⟩ dX7_copy_49 (fun H locs hw => ?_)
          refine zk_ifz (pc := 52) (tgt := 62) hx hb dX7_copy_52 (by decide) (fun q10 => ?_) (fun q10 => ?_)
          · replace hf := if_f q10 hf
            refine lv_aload_n (pc := 62) hx hb dX7_copy_62 rfl (lv_at hl 0 rfl) ?_
            refine zk_gt (pc := 63) C hw zl_X7_41 0 rfl rfl dX7_copy_63 ?_
            refine lv_iload_n (pc := 66) hx hb dX7_copy_66 rfl (lv_at hl 1 rfl) ?_
            obtain ⟨u11, u11e, hf⟩ := bd hf
            refine zk_cV (pc := 67) (ci := 1) (q0 := 1) (rest := []) (st1 := [.int (bI u11)]) (w' := [xU L b_seedNow b_keptSeed b_isKept, xSh ((L 20)) ((L 21)) ((L 22)) ((L 23)), xI cy ((L 21)) 8 b_shelves.1, xI cy ((L 22)) 8 b_shelves.2.1, xRJ cy ((L 23)) 8 (fun j => [some ((L 24)), some ((L 25)), some ((L 26)), some ((L 27)), some ((L 28)), some ((L 29)), some ((L 30)), some ((L 31))].getD j none), xJ cy ((L 24)) 40 ((b_shelves.2.2 0)), xJ cy ((L 25)) 40 ((b_shelves.2.2 1)), xJ cy ((L 26)) 40 ((b_shelves.2.2 2)), xJ cy ((L 27)) 40 ((b_shelves.2.2 3)), xJ cy ((L 28)) 40 ((b_shelves.2.2 4)), xJ cy ((L 29)) 40 ((b_shelves.2.2 5)), xJ cy ((L 30)) 40 ((b_shelves.2.2 6)), xJ cy ((L 31)) 40 ((b_shelves.2.2 7)), xI cy ((L 48)) 5 b_refusals]) (mk := [none, none, none, none, none, none, none, none, none, none, none, none, none, none]) C hw (c_X1_holdsRow l G cy tt ((L 20)) ((L 21)) ((L 22)) ((L 23)) ((L 24)) ((L 25)) ((L 26)) ((L 27)) ((L 28)) ((L 29)) ((L 30)) ((L 31)) x1 b_shelves _ u11e) zy_X1_holdsRow zm_X7_129 rfl rfl rfl [1, 2, 3, 4, 5, 6, 7, 8, 9, 10, 11, 12] rfl rfl rfl rfl rfl rfl rfl rfl hl.1 ⟨rfl, rfl⟩ ⟨Nat.le_of_ble_eq_true rfl, Nat.le_of_ble_eq_true rfl⟩ rfl (Nat.le_of_ble_eq_true rfl) ⟨Nat.zero_le _, Nat.zero_le _⟩ dX7_copy_67 (fun H locs hw => ?_)
            refine zk_ifz (pc := 70) (tgt := 84) hx hb dX7_copy_70 (by decide) (fun q12 => ?_) (fun q12 => ?_)
            · replace hf := if_f q12 hf
              exact J84 b_shelves b_refusals _ _ _ hf hw (lv_sub hl [0] rfl)
            · replace hf := if_t q12 hf
              refine lv_aload_n (pc := 73) hx hb dX7_copy_73 rfl (lv_at hl 0 rfl) ?_
              refine zk_gt (pc := 74) C hw zl_X7_41 0 rfl rfl dX7_copy_74 ?_
              refine lv_iload_n (pc := 77) hx hb dX7_copy_77 rfl (lv_at hl 2 rfl) ?_
              obtain ⟨u13, u13e, hf⟩ := bd hf
              refine zk_cV (pc := 78) (ci := 1) (q0 := 1) (rest := []) (st1 := [.int (bI u13)]) (w' := [xU L b_seedNow b_keptSeed b_isKept, xSh ((L 20)) ((L 21)) ((L 22)) ((L 23)), xI cy ((L 21)) 8 b_shelves.1, xI cy ((L 22)) 8 b_shelves.2.1, xRJ cy ((L 23)) 8 (fun j => [some ((L 24)), some ((L 25)), some ((L 26)), some ((L 27)), some ((L 28)), some ((L 29)), some ((L 30)), some ((L 31))].getD j none), xJ cy ((L 24)) 40 ((b_shelves.2.2 0)), xJ cy ((L 25)) 40 ((b_shelves.2.2 1)), xJ cy ((L 26)) 40 ((b_shelves.2.2 2)), xJ cy ((L 27)) 40 ((b_shelves.2.2 3)), xJ cy ((L 28)) 40 ((b_shelves.2.2 4)), xJ cy ((L 29)) 40 ((b_shelves.2.2 5)), xJ cy ((L 30)) 40 ((b_shelves.2.2 6)), xJ cy ((L 31)) 40 ((b_shelves.2.2 7)), xI cy ((L 48)) 5 b_refusals]) (mk := [none, none, none, none, none, none, none, none, none, none, none, none, none, none]) C hw (c_X1_holdsRow l G cy tt ((L 20)) ((L 21)) ((L 22)) ((L 23)) ((L 24)) ((L 25)) ((L 26)) ((L 27)) ((L 28)) ((L 29)) ((L 30)) ((L 31)) x2 b_shelves _ u13e) zy_X1_holdsRow zm_X7_129 rfl rfl rfl [1, 2, 3, 4, 5, 6, 7, 8, 9, 10, 11, 12] rfl rfl rfl rfl rfl rfl rfl rfl hl.1 ⟨rfl, rfl⟩ ⟨Nat.le_of_ble_eq_true rfl, Nat.le_of_ble_eq_true rfl⟩ rfl (Nat.le_of_ble_eq_true rfl) ⟨Nat.zero_le _, Nat.zero_le _⟩ dX7_copy_78 (fun H locs hw => ?_)
              refine zk_ifnz (pc := 81) (tgt := 91) hx hb dX7_copy_81 (by decide) (fun q14 => ?_) (fun q14 => ?_)
              · replace hf := if_t q14 hf
                refine lv_aload_n (pc := 91) hx hb dX7_copy_91 rfl (lv_at hl 0 rfl) ?_
                refine zk_gt (pc := 92) C hw zl_X7_41 0 rfl rfl dX7_copy_92 ?_
                refine lv_iload_n (pc := 95) hx hb dX7_copy_95 rfl (lv_at hl 1 rfl) ?_
                refine lv_iload_n (pc := 96) hx hb dX7_copy_96 rfl (lv_at hl 3 rfl) ?_
                refine lv_iload (pc := 97) hx hb dX7_copy_97 (lv_at hl 5 rfl) ?_
                obtain ⟨u15, u15e, hf⟩ := bd hf
                refine zk_cV (pc := 99) (ci := 1) (q0 := 1) (rest := []) (st1 := [.int (bI u15)]) (w' := [xU L b_seedNow b_keptSeed b_isKept, xSh ((L 20)) ((L 21)) ((L 22)) ((L 23)), xI cy ((L 21)) 8 b_shelves.1, xI cy ((L 22)) 8 b_shelves.2.1, xRJ cy ((L 23)) 8 (fun j => [some ((L 24)), some ((L 25)), some ((L 26)), some ((L 27)), some ((L 28)), some ((L 29)), some ((L 30)), some ((L 31))].getD j none), xJ cy ((L 24)) 40 ((b_shelves.2.2 0)), xJ cy ((L 25)) 40 ((b_shelves.2.2 1)), xJ cy ((L 26)) 40 ((b_shelves.2.2 2)), xJ cy ((L 27)) 40 ((b_shelves.2.2 3)), xJ cy ((L 28)) 40 ((b_shelves.2.2 4)), xJ cy ((L 29)) 40 ((b_shelves.2.2 5)), xJ cy ((L 30)) 40 ((b_shelves.2.2 6)), xJ cy ((L 31)) 40 ((b_shelves.2.2 7)), xI cy ((L 48)) 5 b_refusals]) (mk := [none, none, none, none, none, none, none, none, none, none, none, none, none, none]) C hw (c_X1_hasStretch l G cy tt ((L 20)) ((L 21)) ((L 22)) ((L 23)) ((L 24)) ((L 25)) ((L 26)) ((L 27)) ((L 28)) ((L 29)) ((L 30)) ((L 31)) x1 x3 x5 b_shelves _ u15e) zy_X1_hasStretch zm_X7_132 rfl rfl rfl [1, 2, 3, 4, 5, 6, 7, 8, 9, 10, 11, 12] rfl rfl rfl rfl rfl rfl rfl rfl hl.1 ⟨rfl, rfl⟩ ⟨Nat.le_of_ble_eq_true rfl, Nat.le_of_ble_eq_true rfl⟩ rfl (Nat.le_of_ble_eq_true rfl) ⟨Nat.zero_le _, Nat.zero_le _⟩ dX7_copy_99 (fun H locs hw => ?_)
                refine zk_ifz (pc := 102) (tgt := 120) hx hb dX7_copy_102 (by decide) (fun q16 => ?_) (fun q16 => ?_)
                · replace hf := if_f q16 hf
                  exact J120 b_shelves b_refusals _ _ _ hf hw (lv_sub hl [0] rfl)
                · replace hf := if_t q16 hf
                  refine lv_aload_n (pc := 105) hx hb dX7_copy_105 rfl (lv_at hl 0 rfl) ?_
                  refine zk_gt (pc := 106) C hw zl_X7_41 0 rfl rfl dX7_copy_106 ?_
                  refine lv_iload_n (pc := 109) hx hb dX7_copy_109 rfl (lv_at hl 2 rfl) ?_
                  refine lv_iload (pc := 110) hx hb dX7_copy_110 (lv_at hl 4 rfl) ?_
                  refine lv_iload (pc := 112) hx hb dX7_copy_112 (lv_at hl 5 rfl) ?_
                  obtain ⟨u17, u17e, hf⟩ := bd hf
                  refine zk_cV (pc := 114) (ci := 1) (q0 := 1) (rest := []) (st1 := [.int (bI u17)]) (w' := [xU L b_seedNow b_keptSeed b_isKept, xSh ((L 20)) ((L 21)) ((L 22)) ((L 23)), xI cy ((L 21)) 8 b_shelves.1, xI cy ((L 22)) 8 b_shelves.2.1, xRJ cy ((L 23)) 8 (fun j => [some ((L 24)), some ((L 25)), some ((L 26)), some ((L 27)), some ((L 28)), some ((L 29)), some ((L 30)), some ((L 31))].getD j none), xJ cy ((L 24)) 40 ((b_shelves.2.2 0)), xJ cy ((L 25)) 40 ((b_shelves.2.2 1)), xJ cy ((L 26)) 40 ((b_shelves.2.2 2)), xJ cy ((L 27)) 40 ((b_shelves.2.2 3)), xJ cy ((L 28)) 40 ((b_shelves.2.2 4)), xJ cy ((L 29)) 40 ((b_shelves.2.2 5)), xJ cy ((L 30)) 40 ((b_shelves.2.2 6)), xJ cy ((L 31)) 40 ((b_shelves.2.2 7)), xI cy ((L 48)) 5 b_refusals]) (mk := [none, none, none, none, none, none, none, none, none, none, none, none, none, none]) C hw (c_X1_hasStretch l G cy tt ((L 20)) ((L 21)) ((L 22)) ((L 23)) ((L 24)) ((L 25)) ((L 26)) ((L 27)) ((L 28)) ((L 29)) ((L 30)) ((L 31)) x2 x4 x5 b_shelves _ u17e) zy_X1_hasStretch zm_X7_132 rfl rfl rfl [1, 2, 3, 4, 5, 6, 7, 8, 9, 10, 11, 12] rfl rfl rfl rfl rfl rfl rfl rfl hl.1 ⟨rfl, rfl⟩ ⟨Nat.le_of_ble_eq_true rfl, Nat.le_of_ble_eq_true rfl⟩ rfl (Nat.le_of_ble_eq_true rfl) ⟨Nat.zero_le _, Nat.zero_le _⟩ dX7_copy_114 (fun H locs hw => ?_)
                  refine zk_ifnz (pc := 117) (tgt := 127) hx hb dX7_copy_117 (by decide) (fun q18 => ?_) (fun q18 => ?_)
                  · replace hf := if_t q18 hf
                    refine lv_aload_n (pc := 127) hx hb dX7_copy_127 rfl (lv_at hl 0 rfl) ?_
                    refine zk_gt (pc := 128) C hw zl_X7_41 0 rfl rfl dX7_copy_128 ?_
                    refine lv_iload_n (pc := 131) hx hb dX7_copy_131 rfl (lv_at hl 1 rfl) ?_
                    refine lv_iload_n (pc := 132) hx hb dX7_copy_132 rfl (lv_at hl 2 rfl) ?_
                    refine lv_iload_n (pc := 133) hx hb dX7_copy_133 rfl (lv_at hl 3 rfl) ?_
                    refine lv_iload (pc := 134) hx hb dX7_copy_134 (lv_at hl 4 rfl) ?_
                    refine lv_iload (pc := 136) hx hb dX7_copy_136 (lv_at hl 5 rfl) ?_
                    obtain ⟨u19, u19e, hf⟩ := bd hf
                    refine zk_cV (pc := 138) (ci := 1) (q0 := 1) (rest := []) (st1 := []) (w' := [xU L b_seedNow b_keptSeed b_isKept, xSh ((L 20)) ((L 21)) ((L 22)) ((L 23)), xI cy ((L 21)) 8 u19.1, xI cy ((L 22)) 8 u19.2.1, xRJ cy ((L 23)) 8 (fun j => [some ((L 24)), some ((L 25)), some ((L 26)), some ((L 27)), some ((L 28)), some ((L 29)), some ((L 30)), some ((L 31))].getD j none), xJ cy ((L 24)) 40 ((u19.2.2 0)), xJ cy ((L 25)) 40 ((u19.2.2 1)), xJ cy ((L 26)) 40 ((u19.2.2 2)), xJ cy ((L 27)) 40 ((u19.2.2 3)), xJ cy ((L 28)) 40 ((u19.2.2 4)), xJ cy ((L 29)) 40 ((u19.2.2 5)), xJ cy ((L 30)) 40 ((u19.2.2 6)), xJ cy ((L 31)) 40 ((u19.2.2 7)), xI cy ((L 48)) 5 b_refusals]) (mk := [none, none, some (xI cy ((L 21)) 8 u19.1), some (xI cy ((L 22)) 8 u19.2.1), none, some (xJ cy ((L 24)) 40 ((u19.2.2 0))), some (xJ cy ((L 25)) 40 ((u19.2.2 1))), some (xJ cy ((L 26)) 40 ((u19.2.2 2))), some (xJ cy ((L 27)) 40 ((u19.2.2 3))), some (xJ cy ((L 28)) 40 ((u19.2.2 4))), some (xJ cy ((L 29)) 40 ((u19.2.2 5))), some (xJ cy ((L 30)) 40 ((u19.2.2 6))), some (xJ cy ((L 31)) 40 ((u19.2.2 7))), none]) C hw (c_X1_moveStretch l G cy tt ((L 20)) ((L 21)) ((L 22)) ((L 23)) ((L 24)) ((L 25)) ((L 26)) ((L 27)) ((L 28)) ((L 29)) ((L 30)) ((L 31)) x1 x2 x3 x4 x5 b_shelves _ u19e) zy_X1_moveStretch zm_X7_135 rfl rfl rfl [1, 2, 3, 4, 5, 6, 7, 8, 9, 10, 11, 12] rfl rfl rfl rfl rfl rfl rfl rfl hl.1 ⟨rfl, rfl⟩ ⟨Nat.le_of_ble_eq_true rfl, Nat.le_of_ble_eq_true rfl⟩ rfl (Nat.le_of_ble_eq_true rfl) ⟨Nat.zero_le _, Nat.zero_le _⟩ dX7_copy_138 (fun H locs hw => ?_)
                    refine lv_iload (pc := 141) hx hb dX7_copy_141 (lv_at hl 5 rfl) ?_
                    have hf := Option.some.inj hf
                    subst hf
                    exact zk_reti (pc := 143) (ww := [xU L b_seedNow b_keptSeed b_isKept, xSh ((L 20)) ((L 21)) ((L 22)) ((L 23)), xI cy ((L 21)) 8 u19.1, xI cy ((L 22)) 8 u19.2.1, xRJ cy ((L 23)) 8 (fun j => [some ((L 24)), some ((L 25)), some ((L 26)), some ((L 27)), some ((L 28)), some ((L 29)), some ((L 30)), some ((L 31))].getD j none), xJ cy ((L 24)) 40 ((u19.2.2 0)), xJ cy ((L 25)) 40 ((u19.2.2 1)), xJ cy ((L 26)) 40 ((u19.2.2 2)), xJ cy ((L 27)) 40 ((u19.2.2 3)), xJ cy ((L 28)) 40 ((u19.2.2 4)), xJ cy ((L 29)) 40 ((u19.2.2 5)), xJ cy ((L 30)) 40 ((u19.2.2 6)), xJ cy ((L 31)) 40 ((u19.2.2 7)), xI cy ((L 48)) 5 b_refusals]) C hw hr hQ dX7_copy_143
                  · replace hf := if_f q18 hf
                    exact J120 b_shelves b_refusals _ _ _ hf hw (lv_sub hl [0] rfl)
              · replace hf := if_f q14 hf
                exact J84 b_shelves b_refusals _ _ _ hf hw (lv_sub hl [0] rfl)
          · replace hf := if_t q10 hf
            exact J55 b_shelves b_refusals _ _ _ hf hw (lv_sub hl [0] rfl)
    · replace hf := if_f q4 hf
      exact J14 b_shelves b_refusals _ _ _ hf hw (lv_sub hl [0] rfl)
def zf_X1_elementAt (x1 : Int32) (x2 : Int32) (b_this : TSh) : Option (Int64) := (Option.bind (zf_X1_hasElement x1 x2 b_this) (fun u1 => (if u1 then (if ix x1 8 then (if ix x2 40 then some ((((b_this.2.2 x1.toNatClampNeg)) x2.toNatClampNeg)) else none) else none) else some ((0 : Int64)))))
abbrev zr_X1_elementAt : Room := { frames := 3, cells := 0, slots := 0, locals := 65 }
set_option maxHeartbeats 4000000 in
set_option maxRecDepth 100000 in
theorem c_X1_elementAt (l : Launch) (G : va_G) (cy : Nat → ClassId) (tt : Nat → Nat) (a0 a1 a2 a3 a4 a5 a6 a7 a8 a9 a10 a11 : Nat) (x1 : Int32) (x2 : Int32) (b_this : TSh) (res : Int64) (hf : zf_X1_elementAt x1 x2 b_this = some res) : zCT l yX1_elementAt cX1_elementAt 3 (some .long) zr_X1_elementAt G cy tt [.ref a0, .int x1, .int x2] [xSh a0 a1 a2 a3, xI cy a1 8 b_this.1, xI cy a2 8 b_this.2.1, xRJ cy a3 8 (fun j => [some a4, some a5, some a6, some a7, some a8, some a9, some a10, some a11].getD j none), xJ cy a4 40 ((b_this.2.2 0)), xJ cy a5 40 ((b_this.2.2 1)), xJ cy a6 40 ((b_this.2.2 2)), xJ cy a7 40 ((b_this.2.2 3)), xJ cy a8 40 ((b_this.2.2 4)), xJ cy a9 40 ((b_this.2.2 5)), xJ cy a10 40 ((b_this.2.2 6)), xJ cy a11 40 ((b_this.2.2 7))] (some (.long res)) [xSh a0 a1 a2 a3, xI cy a1 8 b_this.1, xI cy a2 8 b_this.2.1, xRJ cy a3 8 (fun j => [some a4, some a5, some a6, some a7, some a8, some a9, some a10, some a11].getD j none), xJ cy a4 40 ((b_this.2.2 0)), xJ cy a5 40 ((b_this.2.2 1)), xJ cy a6 40 ((b_this.2.2 2)), xJ cy a7 40 ((b_this.2.2 3)), xJ cy a8 40 ((b_this.2.2 4)), xJ cy a9 40 ((b_this.2.2 5)), xJ cy a10 40 ((b_this.2.2 6)), xJ cy a11 40 ((b_this.2.2 7))] := by
  refine zk_start zn_X1 (Nat.le_of_ble_eq_true rfl) ?_
  intro p e s m args below meth c A ls Q C hr hQ hw hl
  have C : zCx p m c s args meth cX1_elementAt 3 RX1 G cy tt A := C
  have hx := C.1.1
  have hb := C.1.2.1
  have hl : lv_has ls 3 [(0, .ref a0), (1, .int x1), (2, .int x2)] := hl
  rw [zf_X1_elementAt] at hf
  refine lv_aload_n (pc := 0) hx hb dX1_elementAt_0 rfl (lv_at hl 0 rfl) ?_
  refine lv_iload_n (pc := 1) hx hb dX1_elementAt_1 rfl (lv_at hl 1 rfl) ?_
  refine lv_iload_n (pc := 2) hx hb dX1_elementAt_2 rfl (lv_at hl 2 rfl) ?_
  obtain ⟨u1, u1e, hf⟩ := bd hf
  refine zk_cV (pc := 3) (ci := 1) (q0 := 0) (rest := []) (st1 := [.int (bI u1)]) (w' := [xSh a0 a1 a2 a3, xI cy a1 8 b_this.1, xI cy a2 8 b_this.2.1, xRJ cy a3 8 (fun j => [some a4, some a5, some a6, some a7, some a8, some a9, some a10, some a11].getD j none), xJ cy a4 40 ((b_this.2.2 0)), xJ cy a5 40 ((b_this.2.2 1)), xJ cy a6 40 ((b_this.2.2 2)), xJ cy a7 40 ((b_this.2.2 3)), xJ cy a8 40 ((b_this.2.2 4)), xJ cy a9 40 ((b_this.2.2 5)), xJ cy a10 40 ((b_this.2.2 6)), xJ cy a11 40 ((b_this.2.2 7))]) (mk := [none, none, none, none, none, none, none, none, none, none, none, none]) C hw (c_X1_hasElement l G cy tt a0 a1 a2 a3 a4 a5 a6 a7 a8 a9 a10 a11 x1 x2 b_this _ u1e) zy_X1_hasElement zm_X1_38 rfl rfl rfl [0, 1, 2, 3, 4, 5, 6, 7, 8, 9, 10, 11] rfl rfl rfl rfl rfl rfl rfl rfl hl.1 ⟨rfl, rfl⟩ ⟨Nat.le_of_ble_eq_true rfl, Nat.le_of_ble_eq_true rfl⟩ rfl (Nat.le_of_ble_eq_true rfl) ⟨Nat.zero_le _, Nat.zero_le _⟩ dX1_elementAt_3 (fun H locs hw => ?_)
  refine zk_ifz (pc := 6) (tgt := 20) hx hb dX1_elementAt_6 (by decide) (fun q2 => ?_) (fun q2 => ?_)
  · replace hf := if_f q2 hf
    refine lv_lconst (pc := 20) (v := 0) hx hb dX1_elementAt_20 (by decide) ?_
    have hf := Option.some.inj hf
    subst hf
    exact zk_retl (pc := 21) (ww := [xSh a0 a1 a2 a3, xI cy a1 8 b_this.1, xI cy a2 8 b_this.2.1, xRJ cy a3 8 (fun j => [some a4, some a5, some a6, some a7, some a8, some a9, some a10, some a11].getD j none), xJ cy a4 40 ((b_this.2.2 0)), xJ cy a5 40 ((b_this.2.2 1)), xJ cy a6 40 ((b_this.2.2 2)), xJ cy a7 40 ((b_this.2.2 3)), xJ cy a8 40 ((b_this.2.2 4)), xJ cy a9 40 ((b_this.2.2 5)), xJ cy a10 40 ((b_this.2.2 6)), xJ cy a11 40 ((b_this.2.2 7))]) C hw hr hQ dX1_elementAt_21
  · replace hf := if_t q2 hf
    refine lv_aload_n (pc := 9) hx hb dX1_elementAt_9 rfl (lv_at hl 0 rfl) ?_
    refine zk_gt (pc := 10) C hw zl_X1_20 0 rfl rfl dX1_elementAt_10 ?_
    refine lv_iload_n (pc := 13) hx hb dX1_elementAt_13 rfl (lv_at hl 1 rfl) ?_
    obtain ⟨q3, hf⟩ := ck hf
    rcases ix8 q3 with e4 | e4 | e4 | e4 | e4 | e4 | e4 | e4
    · rw [e4] at hf
      refine zk_aaldJ (pc := 14) (a' := a4) 0 e4 C hw 3 rfl q3 rfl dX1_elementAt_14 ?_
      refine lv_iload_n (pc := 15) hx hb dX1_elementAt_15 rfl (lv_at hl 2 rfl) ?_
      obtain ⟨q6, hf⟩ := ck hf
      refine zk_lald (pc := 16) C hw 4 rfl q6 dX1_elementAt_16 ?_
      refine lv_goto (pc := 17) (tgt := 21) hx hb dX1_elementAt_17 (by decide) ?_
      have hf := Option.some.inj hf
      subst hf
      exact zk_retl (pc := 21) (ww := [xSh a0 a1 a2 a3, xI cy a1 8 b_this.1, xI cy a2 8 b_this.2.1, xRJ cy a3 8 (fun j => [some a4, some a5, some a6, some a7, some a8, some a9, some a10, some a11].getD j none), xJ cy a4 40 ((b_this.2.2 0)), xJ cy a5 40 ((b_this.2.2 1)), xJ cy a6 40 ((b_this.2.2 2)), xJ cy a7 40 ((b_this.2.2 3)), xJ cy a8 40 ((b_this.2.2 4)), xJ cy a9 40 ((b_this.2.2 5)), xJ cy a10 40 ((b_this.2.2 6)), xJ cy a11 40 ((b_this.2.2 7))]) C hw hr hQ dX1_elementAt_21
    · rw [e4] at hf
      refine zk_aaldJ (pc := 14) (a' := a5) 1 e4 C hw 3 rfl q3 rfl dX1_elementAt_14 ?_
      refine lv_iload_n (pc := 15) hx hb dX1_elementAt_15 rfl (lv_at hl 2 rfl) ?_
      obtain ⟨q7, hf⟩ := ck hf
      refine zk_lald (pc := 16) C hw 5 rfl q7 dX1_elementAt_16 ?_
      refine lv_goto (pc := 17) (tgt := 21) hx hb dX1_elementAt_17 (by decide) ?_
      have hf := Option.some.inj hf
      subst hf
      exact zk_retl (pc := 21) (ww := [xSh a0 a1 a2 a3, xI cy a1 8 b_this.1, xI cy a2 8 b_this.2.1, xRJ cy a3 8 (fun j => [some a4, some a5, some a6, some a7, some a8, some a9, some a10, some a11].getD j none), xJ cy a4 40 ((b_this.2.2 0)), xJ cy a5 40 ((b_this.2.2 1)), xJ cy a6 40 ((b_this.2.2 2)), xJ cy a7 40 ((b_this.2.2 3)), xJ cy a8 40 ((b_this.2.2 4)), xJ cy a9 40 ((b_this.2.2 5)), xJ cy a10 40 ((b_this.2.2 6)), xJ cy a11 40 ((b_this.2.2 7))]) C hw hr hQ dX1_elementAt_21
    · rw [e4] at hf
      refine zk_aaldJ (pc := 14) (a' := a6) 2 e4 C hw 3 rfl q3 rfl dX1_elementAt_14 ?_
      refine lv_iload_n (pc := 15) hx hb dX1_elementAt_15 rfl (lv_at hl 2 rfl) ?_
      obtain ⟨q8, hf⟩ := ck hf
      refine zk_lald (pc := 16) C hw 6 rfl q8 dX1_elementAt_16 ?_
      refine lv_goto (pc := 17) (tgt := 21) hx hb dX1_elementAt_17 (by decide) ?_
      have hf := Option.some.inj hf
      subst hf
      exact zk_retl (pc := 21) (ww := [xSh a0 a1 a2 a3, xI cy a1 8 b_this.1, xI cy a2 8 b_this.2.1, xRJ cy a3 8 (fun j => [some a4, some a5, some a6, some a7, some a8, some a9, some a10, some a11].getD j none), xJ cy a4 40 ((b_this.2.2 0)), xJ cy a5 40 ((b_this.2.2 1)), xJ cy a6 40 ((b_this.2.2 2)), xJ cy a7 40 ((b_this.2.2 3)), xJ cy a8 40 ((b_this.2.2 4)), xJ cy a9 40 ((b_this.2.2 5)), xJ cy a10 40 ((b_this.2.2 6)), xJ cy a11 40 ((b_this.2.2 7))]) C hw hr hQ dX1_elementAt_21
    · rw [e4] at hf
      refine zk_aaldJ (pc := 14) (a' := a7) 3 e4 C hw 3 rfl q3 rfl dX1_elementAt_14 ?_
      refine lv_iload_n (pc := 15) hx hb dX1_elementAt_15 rfl (lv_at hl 2 rfl) ?_
      obtain ⟨q9, hf⟩ := ck hf
      refine zk_lald (pc := 16) C hw 7 rfl q9 dX1_elementAt_16 ?_
      refine lv_goto (pc := 17) (tgt := 21) hx hb dX1_elementAt_17 (by decide) ?_
      have hf := Option.some.inj hf
      subst hf
      exact zk_retl (pc := 21) (ww := [xSh a0 a1 a2 a3, xI cy a1 8 b_this.1, xI cy a2 8 b_this.2.1, xRJ cy a3 8 (fun j => [some a4, some a5, some a6, some a7, some a8, some a9, some a10, some a11].getD j none), xJ cy a4 40 ((b_this.2.2 0)), xJ cy a5 40 ((b_this.2.2 1)), xJ cy a6 40 ((b_this.2.2 2)), xJ cy a7 40 ((b_this.2.2 3)), xJ cy a8 40 ((b_this.2.2 4)), xJ cy a9 40 ((b_this.2.2 5)), xJ cy a10 40 ((b_this.2.2 6)), xJ cy a11 40 ((b_this.2.2 7))]) C hw hr hQ dX1_elementAt_21
    · rw [e4] at hf
      refine zk_aaldJ (pc := 14) (a' := a8) 4 e4 C hw 3 rfl q3 rfl dX1_elementAt_14 ?_
      refine lv_iload_n (pc := 15) hx hb dX1_elementAt_15 rfl (lv_at hl 2 rfl) ?_
      obtain ⟨q10, hf⟩ := ck hf
      refine zk_lald (pc := 16) C hw 8 rfl q10 dX1_elementAt_16 ?_
      refine lv_goto (pc := 17) (tgt := 21) hx hb dX1_elementAt_17 (by decide) ?_
      have hf := Option.some.inj hf
      subst hf
      exact zk_retl (pc := 21) (ww := [xSh a0 a1 a2 a3, xI cy a1 8 b_this.1, xI cy a2 8 b_this.2.1, xRJ cy a3 8 (fun j => [some a4, some a5, some a6, some a7, some a8, some a9, some a10, some a11].getD j none), xJ cy a4 40 ((b_this.2.2 0)), xJ cy a5 40 ((b_this.2.2 1)), xJ cy a6 40 ((b_this.2.2 2)), xJ cy a7 40 ((b_this.2.2 3)), xJ cy a8 40 ((b_this.2.2 4)), xJ cy a9 40 ((b_this.2.2 5)), xJ cy a10 40 ((b_this.2.2 6)), xJ cy a11 40 ((b_this.2.2 7))]) C hw hr hQ dX1_elementAt_21
    · rw [e4] at hf
      refine zk_aaldJ (pc := 14) (a' := a9) 5 e4 C hw 3 rfl q3 rfl dX1_elementAt_14 ?_
      refine lv_iload_n (pc := 15) hx hb dX1_elementAt_15 rfl (lv_at hl 2 rfl) ?_
      obtain ⟨q11, hf⟩ := ck hf
      refine zk_lald (pc := 16) C hw 9 rfl q11 dX1_elementAt_16 ?_
      refine lv_goto (pc := 17) (tgt := 21) hx hb dX1_elementAt_17 (by decide) ?_
      have hf := Option.some.inj hf
      subst hf
      exact zk_retl (pc := 21) (ww := [xSh a0 a1 a2 a3, xI cy a1 8 b_this.1, xI cy a2 8 b_this.2.1, xRJ cy a3 8 (fun j => [some a4, some a5, some a6, some a7, some a8, some a9, some a10, some a11].getD j none), xJ cy a4 40 ((b_this.2.2 0)), xJ cy a5 40 ((b_this.2.2 1)), xJ cy a6 40 ((b_this.2.2 2)), xJ cy a7 40 ((b_this.2.2 3)), xJ cy a8 40 ((b_this.2.2 4)), xJ cy a9 40 ((b_this.2.2 5)), xJ cy a10 40 ((b_this.2.2 6)), xJ cy a11 40 ((b_this.2.2 7))]) C hw hr hQ dX1_elementAt_21
    · rw [e4] at hf
      refine zk_aaldJ (pc := 14) (a' := a10) 6 e4 C hw 3 rfl q3 rfl dX1_elementAt_14 ?_
      refine lv_iload_n (pc := 15) hx hb dX1_elementAt_15 rfl (lv_at hl 2 rfl) ?_
      obtain ⟨q12, hf⟩ := ck hf
      refine zk_lald (pc := 16) C hw 10 rfl q12 dX1_elementAt_16 ?_
      refine lv_goto (pc := 17) (tgt := 21) hx hb dX1_elementAt_17 (by decide) ?_
      have hf := Option.some.inj hf
      subst hf
      exact zk_retl (pc := 21) (ww := [xSh a0 a1 a2 a3, xI cy a1 8 b_this.1, xI cy a2 8 b_this.2.1, xRJ cy a3 8 (fun j => [some a4, some a5, some a6, some a7, some a8, some a9, some a10, some a11].getD j none), xJ cy a4 40 ((b_this.2.2 0)), xJ cy a5 40 ((b_this.2.2 1)), xJ cy a6 40 ((b_this.2.2 2)), xJ cy a7 40 ((b_this.2.2 3)), xJ cy a8 40 ((b_this.2.2 4)), xJ cy a9 40 ((b_this.2.2 5)), xJ cy a10 40 ((b_this.2.2 6)), xJ cy a11 40 ((b_this.2.2 7))]) C hw hr hQ dX1_elementAt_21
    · rw [e4] at hf
      refine zk_aaldJ (pc := 14) (a' := a11) 7 e4 C hw 3 rfl q3 rfl dX1_elementAt_14 ?_
      refine lv_iload_n (pc := 15) hx hb dX1_elementAt_15 rfl (lv_at hl 2 rfl) ?_
      obtain ⟨q13, hf⟩ := ck hf
      refine zk_lald (pc := 16) C hw 11 rfl q13 dX1_elementAt_16 ?_
      refine lv_goto (pc := 17) (tgt := 21) hx hb dX1_elementAt_17 (by decide) ?_
      have hf := Option.some.inj hf
      subst hf
      exact zk_retl (pc := 21) (ww := [xSh a0 a1 a2 a3, xI cy a1 8 b_this.1, xI cy a2 8 b_this.2.1, xRJ cy a3 8 (fun j => [some a4, some a5, some a6, some a7, some a8, some a9, some a10, some a11].getD j none), xJ cy a4 40 ((b_this.2.2 0)), xJ cy a5 40 ((b_this.2.2 1)), xJ cy a6 40 ((b_this.2.2 2)), xJ cy a7 40 ((b_this.2.2 3)), xJ cy a8 40 ((b_this.2.2 4)), xJ cy a9 40 ((b_this.2.2 5)), xJ cy a10 40 ((b_this.2.2 6)), xJ cy a11 40 ((b_this.2.2 7))]) C hw hr hQ dX1_elementAt_21
def zf_X7_element (x1 : Int32) (x2 : Int32) (b_shelves : TSh) : Option (Int64) := (Option.bind (zf_X1_elementAt x1 x2 b_shelves) (fun u1 => some (u1)))
abbrev zr_X7_element : Room := { frames := 4, cells := 0, slots := 0, locals := 87 }
set_option maxHeartbeats 4000000 in
set_option maxRecDepth 100000 in
theorem c_X7_element (l : Launch) (G : va_G) (cy : Nat → ClassId) (tt : Nat → Nat) (L : Nat → Nat) (b_seedNow : Int32) (b_keptSeed : Int32) (b_isKept : Bool) (x1 : Int32) (x2 : Int32) (b_shelves : TSh) (res : Int64) (hf : zf_X7_element x1 x2 b_shelves = some res) : zCT l yX7_element cX7_element 3 (some .long) zr_X7_element G cy tt [.ref ((L 0)), .int x1, .int x2] [xU L b_seedNow b_keptSeed b_isKept, xSh ((L 20)) ((L 21)) ((L 22)) ((L 23)), xI cy ((L 21)) 8 b_shelves.1, xI cy ((L 22)) 8 b_shelves.2.1, xRJ cy ((L 23)) 8 (fun j => [some ((L 24)), some ((L 25)), some ((L 26)), some ((L 27)), some ((L 28)), some ((L 29)), some ((L 30)), some ((L 31))].getD j none), xJ cy ((L 24)) 40 ((b_shelves.2.2 0)), xJ cy ((L 25)) 40 ((b_shelves.2.2 1)), xJ cy ((L 26)) 40 ((b_shelves.2.2 2)), xJ cy ((L 27)) 40 ((b_shelves.2.2 3)), xJ cy ((L 28)) 40 ((b_shelves.2.2 4)), xJ cy ((L 29)) 40 ((b_shelves.2.2 5)), xJ cy ((L 30)) 40 ((b_shelves.2.2 6)), xJ cy ((L 31)) 40 ((b_shelves.2.2 7))] (some (.long res)) [xU L b_seedNow b_keptSeed b_isKept, xSh ((L 20)) ((L 21)) ((L 22)) ((L 23)), xI cy ((L 21)) 8 b_shelves.1, xI cy ((L 22)) 8 b_shelves.2.1, xRJ cy ((L 23)) 8 (fun j => [some ((L 24)), some ((L 25)), some ((L 26)), some ((L 27)), some ((L 28)), some ((L 29)), some ((L 30)), some ((L 31))].getD j none), xJ cy ((L 24)) 40 ((b_shelves.2.2 0)), xJ cy ((L 25)) 40 ((b_shelves.2.2 1)), xJ cy ((L 26)) 40 ((b_shelves.2.2 2)), xJ cy ((L 27)) 40 ((b_shelves.2.2 3)), xJ cy ((L 28)) 40 ((b_shelves.2.2 4)), xJ cy ((L 29)) 40 ((b_shelves.2.2 5)), xJ cy ((L 30)) 40 ((b_shelves.2.2 6)), xJ cy ((L 31)) 40 ((b_shelves.2.2 7))] := by
  refine zk_start zn_X7 (Nat.le_of_ble_eq_true rfl) ?_
  intro p e s m args below meth c A ls Q C hr hQ hw hl
  have C : zCx p m c s args meth cX7_element 3 RX7 G cy tt A := C
  have hx := C.1.1
  have hb := C.1.2.1
  have hl : lv_has ls 3 [(0, .ref ((L 0))), (1, .int x1), (2, .int x2)] := hl
  rw [zf_X7_element] at hf
  refine lv_aload_n (pc := 0) hx hb dX7_element_0 rfl (lv_at hl 0 rfl) ?_
  refine zk_gt (pc := 1) C hw zl_X7_41 0 rfl rfl dX7_element_1 ?_
  refine lv_iload_n (pc := 4) hx hb dX7_element_4 rfl (lv_at hl 1 rfl) ?_
  refine lv_iload_n (pc := 5) hx hb dX7_element_5 rfl (lv_at hl 2 rfl) ?_
  obtain ⟨u1, u1e, hf⟩ := bd hf
  refine zk_cV (pc := 6) (ci := 1) (q0 := 1) (rest := []) (st1 := [.long u1]) (w' := [xU L b_seedNow b_keptSeed b_isKept, xSh ((L 20)) ((L 21)) ((L 22)) ((L 23)), xI cy ((L 21)) 8 b_shelves.1, xI cy ((L 22)) 8 b_shelves.2.1, xRJ cy ((L 23)) 8 (fun j => [some ((L 24)), some ((L 25)), some ((L 26)), some ((L 27)), some ((L 28)), some ((L 29)), some ((L 30)), some ((L 31))].getD j none), xJ cy ((L 24)) 40 ((b_shelves.2.2 0)), xJ cy ((L 25)) 40 ((b_shelves.2.2 1)), xJ cy ((L 26)) 40 ((b_shelves.2.2 2)), xJ cy ((L 27)) 40 ((b_shelves.2.2 3)), xJ cy ((L 28)) 40 ((b_shelves.2.2 4)), xJ cy ((L 29)) 40 ((b_shelves.2.2 5)), xJ cy ((L 30)) 40 ((b_shelves.2.2 6)), xJ cy ((L 31)) 40 ((b_shelves.2.2 7))]) (mk := [none, none, none, none, none, none, none, none, none, none, none, none, none]) C hw (c_X1_elementAt l G cy tt ((L 20)) ((L 21)) ((L 22)) ((L 23)) ((L 24)) ((L 25)) ((L 26)) ((L 27)) ((L 28)) ((L 29)) ((L 30)) ((L 31)) x1 x2 b_shelves _ u1e) zy_X1_elementAt zm_X7_139 rfl rfl rfl [1, 2, 3, 4, 5, 6, 7, 8, 9, 10, 11, 12] rfl rfl rfl rfl rfl rfl rfl rfl hl.1 ⟨rfl, rfl⟩ ⟨Nat.le_of_ble_eq_true rfl, Nat.le_of_ble_eq_true rfl⟩ rfl (Nat.le_of_ble_eq_true rfl) ⟨Nat.zero_le _, Nat.zero_le _⟩ dX7_element_6 (fun H locs hw => ?_)
  have hf := Option.some.inj hf
  subst hf
  exact zk_retl (pc := 9) (ww := [xU L b_seedNow b_keptSeed b_isKept, xSh ((L 20)) ((L 21)) ((L 22)) ((L 23)), xI cy ((L 21)) 8 b_shelves.1, xI cy ((L 22)) 8 b_shelves.2.1, xRJ cy ((L 23)) 8 (fun j => [some ((L 24)), some ((L 25)), some ((L 26)), some ((L 27)), some ((L 28)), some ((L 29)), some ((L 30)), some ((L 31))].getD j none), xJ cy ((L 24)) 40 ((b_shelves.2.2 0)), xJ cy ((L 25)) 40 ((b_shelves.2.2 1)), xJ cy ((L 26)) 40 ((b_shelves.2.2 2)), xJ cy ((L 27)) 40 ((b_shelves.2.2 3)), xJ cy ((L 28)) 40 ((b_shelves.2.2 4)), xJ cy ((L 29)) 40 ((b_shelves.2.2 5)), xJ cy ((L 30)) 40 ((b_shelves.2.2 6)), xJ cy ((L 31)) 40 ((b_shelves.2.2 7))]) C hw hr hQ dX7_element_9
def zf_X7_holds (x1 : Int32) (b_shelves : TSh) : Option (Int32) := (Option.bind (zf_X1_contentOf x1 b_shelves) (fun u1 => some (u1)))
abbrev zr_X7_holds : Room := { frames := 1, cells := 0, slots := 0, locals := 21 }
set_option maxHeartbeats 4000000 in
set_option maxRecDepth 100000 in
theorem c_X7_holds (l : Launch) (G : va_G) (cy : Nat → ClassId) (tt : Nat → Nat) (L : Nat → Nat) (b_seedNow : Int32) (b_keptSeed : Int32) (b_isKept : Bool) (x1 : Int32) (b_shelves : TSh) (res : Int32) (hf : zf_X7_holds x1 b_shelves = some res) : zCT l yX7_holds cX7_holds 2 (some .int) zr_X7_holds G cy tt [.ref ((L 0)), .int x1] [xU L b_seedNow b_keptSeed b_isKept, xSh ((L 20)) ((L 21)) ((L 22)) ((L 23)), xI cy ((L 21)) 8 b_shelves.1, xI cy ((L 22)) 8 b_shelves.2.1, xRJ cy ((L 23)) 8 (fun j => [some ((L 24)), some ((L 25)), some ((L 26)), some ((L 27)), some ((L 28)), some ((L 29)), some ((L 30)), some ((L 31))].getD j none), xJ cy ((L 24)) 40 ((b_shelves.2.2 0)), xJ cy ((L 25)) 40 ((b_shelves.2.2 1)), xJ cy ((L 26)) 40 ((b_shelves.2.2 2)), xJ cy ((L 27)) 40 ((b_shelves.2.2 3)), xJ cy ((L 28)) 40 ((b_shelves.2.2 4)), xJ cy ((L 29)) 40 ((b_shelves.2.2 5)), xJ cy ((L 30)) 40 ((b_shelves.2.2 6)), xJ cy ((L 31)) 40 ((b_shelves.2.2 7))] (some (.int res)) [xU L b_seedNow b_keptSeed b_isKept, xSh ((L 20)) ((L 21)) ((L 22)) ((L 23)), xI cy ((L 21)) 8 b_shelves.1, xI cy ((L 22)) 8 b_shelves.2.1, xRJ cy ((L 23)) 8 (fun j => [some ((L 24)), some ((L 25)), some ((L 26)), some ((L 27)), some ((L 28)), some ((L 29)), some ((L 30)), some ((L 31))].getD j none), xJ cy ((L 24)) 40 ((b_shelves.2.2 0)), xJ cy ((L 25)) 40 ((b_shelves.2.2 1)), xJ cy ((L 26)) 40 ((b_shelves.2.2 2)), xJ cy ((L 27)) 40 ((b_shelves.2.2 3)), xJ cy ((L 28)) 40 ((b_shelves.2.2 4)), xJ cy ((L 29)) 40 ((b_shelves.2.2 5)), xJ cy ((L 30)) 40 ((b_shelves.2.2 6)), xJ cy ((L 31)) 40 ((b_shelves.2.2 7))] := by
  refine zk_start zn_X7 (Nat.le_of_ble_eq_true rfl) ?_
  intro p e s m args below meth c A ls Q C hr hQ hw hl
  have C : zCx p m c s args meth cX7_holds 2 RX7 G cy tt A := C
  have hx := C.1.1
  have hb := C.1.2.1
  have hl : lv_has ls 2 [(0, .ref ((L 0))), (1, .int x1)] := hl
  rw [zf_X7_holds] at hf
  refine lv_aload_n (pc := 0) hx hb dX7_holds_0 rfl (lv_at hl 0 rfl) ?_
  refine zk_gt (pc := 1) C hw zl_X7_41 0 rfl rfl dX7_holds_1 ?_
  refine lv_iload_n (pc := 4) hx hb dX7_holds_4 rfl (lv_at hl 1 rfl) ?_
  obtain ⟨u1, u1e, hf⟩ := bd hf
  refine zk_cV (pc := 5) (ci := 1) (q0 := 1) (rest := []) (st1 := [.int u1]) (w' := [xU L b_seedNow b_keptSeed b_isKept, xSh ((L 20)) ((L 21)) ((L 22)) ((L 23)), xI cy ((L 21)) 8 b_shelves.1, xI cy ((L 22)) 8 b_shelves.2.1, xRJ cy ((L 23)) 8 (fun j => [some ((L 24)), some ((L 25)), some ((L 26)), some ((L 27)), some ((L 28)), some ((L 29)), some ((L 30)), some ((L 31))].getD j none), xJ cy ((L 24)) 40 ((b_shelves.2.2 0)), xJ cy ((L 25)) 40 ((b_shelves.2.2 1)), xJ cy ((L 26)) 40 ((b_shelves.2.2 2)), xJ cy ((L 27)) 40 ((b_shelves.2.2 3)), xJ cy ((L 28)) 40 ((b_shelves.2.2 4)), xJ cy ((L 29)) 40 ((b_shelves.2.2 5)), xJ cy ((L 30)) 40 ((b_shelves.2.2 6)), xJ cy ((L 31)) 40 ((b_shelves.2.2 7))]) (mk := [none, none, none, none, none, none, none, none, none, none, none, none, none]) C hw (c_X1_contentOf l G cy tt ((L 20)) ((L 21)) ((L 22)) ((L 23)) ((L 24)) ((L 25)) ((L 26)) ((L 27)) ((L 28)) ((L 29)) ((L 30)) ((L 31)) x1 b_shelves _ u1e) zy_X1_contentOf zm_X7_143 rfl rfl rfl [1, 2, 3, 4, 5, 6, 7, 8, 9, 10, 11, 12] rfl rfl rfl rfl rfl rfl rfl rfl hl.1 ⟨rfl, rfl⟩ ⟨Nat.le_of_ble_eq_true rfl, Nat.le_of_ble_eq_true rfl⟩ rfl (Nat.le_of_ble_eq_true rfl) ⟨Nat.zero_le _, Nat.zero_le _⟩ dX7_holds_5 (fun H locs hw => ?_)
  have hf := Option.some.inj hf
  subst hf
  exact zk_reti (pc := 8) (ww := [xU L b_seedNow b_keptSeed b_isKept, xSh ((L 20)) ((L 21)) ((L 22)) ((L 23)), xI cy ((L 21)) 8 b_shelves.1, xI cy ((L 22)) 8 b_shelves.2.1, xRJ cy ((L 23)) 8 (fun j => [some ((L 24)), some ((L 25)), some ((L 26)), some ((L 27)), some ((L 28)), some ((L 29)), some ((L 30)), some ((L 31))].getD j none), xJ cy ((L 24)) 40 ((b_shelves.2.2 0)), xJ cy ((L 25)) 40 ((b_shelves.2.2 1)), xJ cy ((L 26)) 40 ((b_shelves.2.2 2)), xJ cy ((L 27)) 40 ((b_shelves.2.2 3)), xJ cy ((L 28)) 40 ((b_shelves.2.2 4)), xJ cy ((L 29)) 40 ((b_shelves.2.2 5)), xJ cy ((L 30)) 40 ((b_shelves.2.2 6)), xJ cy ((L 31)) 40 ((b_shelves.2.2 7))]) C hw hr hQ dX7_holds_8
def zf_X2_has (x1 : Int32) (b_this : TSt) : Option (Bool) := (if x1 < 0 then some (false) else (if b_this.1 ≤ x1 then some (false) else (if (8 : Int32) ≤ x1 then some (false) else some (true))))
abbrev zr_X2_has : Room := { frames := 0, cells := 0, slots := 0, locals := 0 }
set_option maxHeartbeats 4000000 in
set_option maxRecDepth 100000 in
theorem c_X2_has (l : Launch) (G : va_G) (cy : Nat → ClassId) (tt : Nat → Nat) (a0 a1 a2 a3 a4 : Nat) (x1 : Int32) (b_this : TSt) (res : Bool) (hf : zf_X2_has x1 b_this = some res) : zCT l yX2_has cX2_has 2 (some .boolean) zr_X2_has G cy tt [.ref a0, .int x1] [xSt a0 a1 a2 a3 a4 b_this.1, xI cy a1 8 b_this.2.1, xI cy a2 8 b_this.2.2.1, xI cy a3 8 b_this.2.2.2.1, xI cy a4 8 b_this.2.2.2.2] (some (.int (bI res))) [xSt a0 a1 a2 a3 a4 b_this.1, xI cy a1 8 b_this.2.1, xI cy a2 8 b_this.2.2.1, xI cy a3 8 b_this.2.2.2.1, xI cy a4 8 b_this.2.2.2.2] := by
  refine zk_start zn_X2 (Nat.le_of_ble_eq_true rfl) ?_
  intro p e s m args below meth c A ls Q C hr hQ hw hl
  have C : zCx p m c s args meth cX2_has 2 RX2 G cy tt A := C
  have hx := C.1.1
  have hb := C.1.2.1
  have hl : lv_has ls 2 [(0, .ref a0), (1, .int x1)] := hl
  rw [zf_X2_has] at hf
  refine lv_iload_n (pc := 0) hx hb dX2_has_0 rfl (lv_at hl 1 rfl) ?_
  refine lv_if_lt (pc := 1) (tgt := 22) hx hb dX2_has_1 (by decide) (fun q1 => ?_) (fun q1 => ?_)
  · replace hf := if_t q1 hf
    refine lv_iconst (pc := 22) (v := 0) hx hb dX2_has_22 (by decide) ?_
    have hf := Option.some.inj hf
    subst hf
    exact zk_retz (pc := 23) (b := false) (ww := [xSt a0 a1 a2 a3 a4 b_this.1, xI cy a1 8 b_this.2.1, xI cy a2 8 b_this.2.2.1, xI cy a3 8 b_this.2.2.2.1, xI cy a4 8 b_this.2.2.2.2]) C hw hr hQ dX2_has_23
  · replace hf := if_f q1 hf
    refine lv_iload_n (pc := 4) hx hb dX2_has_4 rfl (lv_at hl 1 rfl) ?_
    refine lv_aload_n (pc := 5) hx hb dX2_has_5 rfl (lv_at hl 0 rfl) ?_
    refine zk_gt (pc := 6) C hw zl_X2_9 0 rfl rfl dX2_has_6 ?_
    refine lv_icmp_ge (pc := 9) (tgt := 22) hx hb dX2_has_9 (by decide) (fun q2 => ?_) (fun q2 => ?_)
    · replace hf := if_t q2 hf
      refine lv_iconst (pc := 22) (v := 0) hx hb dX2_has_22 (by decide) ?_
      have hf := Option.some.inj hf
      subst hf
      exact zk_retz (pc := 23) (b := false) (ww := [xSt a0 a1 a2 a3 a4 b_this.1, xI cy a1 8 b_this.2.1, xI cy a2 8 b_this.2.2.1, xI cy a3 8 b_this.2.2.2.1, xI cy a4 8 b_this.2.2.2.2]) C hw hr hQ dX2_has_23
    · replace hf := if_f q2 hf
      refine lv_iload_n (pc := 12) hx hb dX2_has_12 rfl (lv_at hl 1 rfl) ?_
      refine lv_bipush (pc := 13) (v := 8) hx hb dX2_has_13 (by decide) ?_
      refine lv_icmp_ge (pc := 15) (tgt := 22) hx hb dX2_has_15 (by decide) (fun q3 => ?_) (fun q3 => ?_)
      · replace hf := if_t q3 hf
        refine lv_iconst (pc := 22) (v := 0) hx hb dX2_has_22 (by decide) ?_
        have hf := Option.some.inj hf
        subst hf
        exact zk_retz (pc := 23) (b := false) (ww := [xSt a0 a1 a2 a3 a4 b_this.1, xI cy a1 8 b_this.2.1, xI cy a2 8 b_this.2.2.1, xI cy a3 8 b_this.2.2.2.1, xI cy a4 8 b_this.2.2.2.2]) C hw hr hQ dX2_has_23
      · replace hf := if_f q3 hf
        refine lv_iconst (pc := 18) (v := 1) hx hb dX2_has_18 (by decide) ?_
        refine lv_goto (pc := 19) (tgt := 23) hx hb dX2_has_19 (by decide) ?_
        have hf := Option.some.inj hf
        subst hf
        exact zk_retz (pc := 23) (b := true) (ww := [xSt a0 a1 a2 a3 a4 b_this.1, xI cy a1 8 b_this.2.1, xI cy a2 8 b_this.2.2.1, xI cy a3 8 b_this.2.2.2.1, xI cy a4 8 b_this.2.2.2.2]) C hw hr hQ dX2_has_23
def zf_X1_placeKeeper_25 (t0 : Int32) (t1 : Int32) (b_this : TSh) : Option (TSh) := (if ix t1 8 then some (((upd b_this.1 t1.toNatClampNeg t0), b_this.2.1, b_this.2.2)) else none)
def zf_X1_placeKeeper (x1 : Int32) (x2 : Int32) (b_this : TSh) : Option (TSh) := (Option.bind (zf_X7_isShelf x1) (fun u1 => (if u1 then (if x2 = (-1 : Int32) then zf_X1_placeKeeper_25 ((-1 : Int32)) x1 b_this else zf_X1_placeKeeper_25 (((10 : Int32) + x2)) x1 b_this) else some (b_this))))
abbrev zr_X1_placeKeeper : Room := { frames := 2, cells := 0, slots := 0, locals := 42 }
set_option maxHeartbeats 4000000 in
set_option maxRecDepth 100000 in
theorem c_X1_placeKeeper (l : Launch) (G : va_G) (cy : Nat → ClassId) (tt : Nat → Nat) (a0 a1 a2 a3 a4 a5 a6 a7 a8 a9 a10 a11 : Nat) (x1 : Int32) (x2 : Int32) (b_this : TSh) (res : TSh) (hf : zf_X1_placeKeeper x1 x2 b_this = some res) : zCT l yX1_placeKeeper cX1_placeKeeper 3 none zr_X1_placeKeeper G cy tt [.ref a0, .int x1, .int x2] [xSh a0 a1 a2 a3, xI cy a1 8 b_this.1, xI cy a2 8 b_this.2.1, xRJ cy a3 8 (fun j => [some a4, some a5, some a6, some a7, some a8, some a9, some a10, some a11].getD j none), xJ cy a4 40 ((b_this.2.2 0)), xJ cy a5 40 ((b_this.2.2 1)), xJ cy a6 40 ((b_this.2.2 2)), xJ cy a7 40 ((b_this.2.2 3)), xJ cy a8 40 ((b_this.2.2 4)), xJ cy a9 40 ((b_this.2.2 5)), xJ cy a10 40 ((b_this.2.2 6)), xJ cy a11 40 ((b_this.2.2 7))] none [xSh a0 a1 a2 a3, xI cy a1 8 res.1, xI cy a2 8 res.2.1, xRJ cy a3 8 (fun j => [some a4, some a5, some a6, some a7, some a8, some a9, some a10, some a11].getD j none), xJ cy a4 40 ((res.2.2 0)), xJ cy a5 40 ((res.2.2 1)), xJ cy a6 40 ((res.2.2 2)), xJ cy a7 40 ((res.2.2 3)), xJ cy a8 40 ((res.2.2 4)), xJ cy a9 40 ((res.2.2 5)), xJ cy a10 40 ((res.2.2 6)), xJ cy a11 40 ((res.2.2 7))] := by
  refine zk_start zn_X1 (Nat.le_of_ble_eq_true rfl) ?_
  intro p e s m args below meth c A ls Q C hr hQ hw hl
  have C : zCx p m c s args meth cX1_placeKeeper 3 RX1 G cy tt A := C
  have hx := C.1.1
  have hb := C.1.2.1
  have hl : lv_has ls 3 [(0, .ref a0), (1, .int x1), (2, .int x2)] := hl
  have J25 : ∀ (t0 : Int32) (t1 : Int32) (b_this : TSh) (H : Heap) (locs : List Loc) (ls : Array Slot), zf_X1_placeKeeper_25 t0 t1 b_this = some res → zWd G A s.heap H locs [xSh a0 a1 a2 a3, xI cy a1 8 b_this.1, xI cy a2 8 b_this.2.1, xRJ cy a3 8 (fun j => [some a4, some a5, some a6, some a7, some a8, some a9, some a10, some a11].getD j none), xJ cy a4 40 ((b_this.2.2 0)), xJ cy a5 40 ((b_this.2.2 1)), xJ cy a6 40 ((b_this.2.2 2)), xJ cy a7 40 ((b_this.2.2 3)), xJ cy a8 40 ((b_this.2.2 4)), xJ cy a9 40 ((b_this.2.2 5)), xJ cy a10 40 ((b_this.2.2 6)), xJ cy a11 40 ((b_this.2.2 7))] → lv_has ls 3 [] → W p l e zr_X1_placeKeeper s m args below meth c H locs 0 0 Q (F0 m 25 ls [.int t0, .int t1, .ref a1]) := by
    intro t0 t1 b_this H locs ls hf hw hl
    rw [zf_X1_placeKeeper_25] at hf
    obtain ⟨q4, hf⟩ := ck hf
    refine zk_iast (pc := 25) (w' := [xSh a0 a1 a2 a3, xI cy a1 8 ((upd b_this.1 t1.toNatClampNeg t0)), xI cy a2 8 b_this.2.1, xRJ cy a3 8 (fun j => [some a4, some a5, some a6, some a7, some a8, some a9, some a10, some a11].getD j none), xJ cy a4 40 ((b_this.2.2 0)), xJ cy a5 40 ((b_this.2.2 1)), xJ cy a6 40 ((b_this.2.2 2)), xJ cy a7 40 ((b_this.2.2 3)), xJ cy a8 40 ((b_this.2.2 4)), xJ cy a9 40 ((b_this.2.2 5)), xJ cy a10 40 ((b_this.2.2 6)), xJ cy a11 40 ((b_this.2.2 7))]) C hw 1 rfl q4 rfl dX1_placeKeeper_25 (fun H locs hw => ?_)
    have hf := Option.some.inj hf
    subst hf
    exact zk_retv (pc := 26) (ww := [xSh a0 a1 a2 a3, xI cy a1 8 ((upd b_this.1 t1.toNatClampNeg t0)), xI cy a2 8 b_this.2.1, xRJ cy a3 8 (fun j => [some a4, some a5, some a6, some a7, some a8, some a9, some a10, some a11].getD j none), xJ cy a4 40 ((b_this.2.2 0)), xJ cy a5 40 ((b_this.2.2 1)), xJ cy a6 40 ((b_this.2.2 2)), xJ cy a7 40 ((b_this.2.2 3)), xJ cy a8 40 ((b_this.2.2 4)), xJ cy a9 40 ((b_this.2.2 5)), xJ cy a10 40 ((b_this.2.2 6)), xJ cy a11 40 ((b_this.2.2 7))]) C hw hr hQ dX1_placeKeeper_26
  rw [zf_X1_placeKeeper] at hf
  refine lv_iload_n (pc := 0) hx hb dX1_placeKeeper_0 rfl (lv_at hl 1 rfl) ?_
  obtain ⟨u1, u1e, hf⟩ := bd hf
  refine zk_cSN (pc := 1) (rest := []) (st1 := [.int (bI u1)]) (w' := [xSh a0 a1 a2 a3, xI cy a1 8 b_this.1, xI cy a2 8 b_this.2.1, xRJ cy a3 8 (fun j => [some a4, some a5, some a6, some a7, some a8, some a9, some a10, some a11].getD j none), xJ cy a4 40 ((b_this.2.2 0)), xJ cy a5 40 ((b_this.2.2 1)), xJ cy a6 40 ((b_this.2.2 2)), xJ cy a7 40 ((b_this.2.2 3)), xJ cy a8 40 ((b_this.2.2 4)), xJ cy a9 40 ((b_this.2.2 5)), xJ cy a10 40 ((b_this.2.2 6)), xJ cy a11 40 ((b_this.2.2 7))]) (mk := [none, none, none, none, none, none, none, none, none, none, none, none]) C hw (c_X7_isShelf l G cy tt x1 _ u1e) zy_X7_isShelf zmn_X1_35 [] rfl rfl rfl rfl rfl rfl rfl rfl hl.1 ⟨rfl, rfl⟩ ⟨Nat.le_of_ble_eq_true rfl, Nat.le_of_ble_eq_true rfl⟩ rfl (Nat.le_of_ble_eq_true rfl) ⟨Nat.zero_le _, Nat.zero_le _⟩ dX1_placeKeeper_1 (fun H locs hw => ?_)
  refine zk_ifz (pc := 4) (tgt := 26) hx hb dX1_placeKeeper_4 (by decide) (fun q2 => ?_) (fun q2 => ?_)
  · replace hf := if_f q2 hf
    have hf := Option.some.inj hf
    subst hf
    exact zk_retv (pc := 26) (ww := [xSh a0 a1 a2 a3, xI cy a1 8 b_this.1, xI cy a2 8 b_this.2.1, xRJ cy a3 8 (fun j => [some a4, some a5, some a6, some a7, some a8, some a9, some a10, some a11].getD j none), xJ cy a4 40 ((b_this.2.2 0)), xJ cy a5 40 ((b_this.2.2 1)), xJ cy a6 40 ((b_this.2.2 2)), xJ cy a7 40 ((b_this.2.2 3)), xJ cy a8 40 ((b_this.2.2 4)), xJ cy a9 40 ((b_this.2.2 5)), xJ cy a10 40 ((b_this.2.2 6)), xJ cy a11 40 ((b_this.2.2 7))]) C hw hr hQ dX1_placeKeeper_26
  · replace hf := if_t q2 hf
    refine lv_aload_n (pc := 7) hx hb dX1_placeKeeper_7 rfl (lv_at hl 0 rfl) ?_
    refine zk_gt (pc := 8) C hw zl_X1_9 0 rfl rfl dX1_placeKeeper_8 ?_
    refine lv_iload_n (pc := 11) hx hb dX1_placeKeeper_11 rfl (lv_at hl 1 rfl) ?_
    refine lv_iload_n (pc := 12) hx hb dX1_placeKeeper_12 rfl (lv_at hl 2 rfl) ?_
    refine lv_iconst (pc := 13) (v := -1) hx hb dX1_placeKeeper_13 (by decide) ?_
    refine lv_icmp_ne (pc := 14) (tgt := 21) hx hb dX1_placeKeeper_14 (by decide) (fun q3 => ?_) (fun q3 => ?_)
    · replace hf := if_f q3 hf
      refine lv_bipush (pc := 21) (v := 10) hx hb dX1_placeKeeper_21 (by decide) ?_
      refine lv_iload_n (pc := 23) hx hb dX1_placeKeeper_23 rfl (lv_at hl 2 rfl) ?_
      refine lv_iadd (pc := 24) hx hb dX1_placeKeeper_24 ?_
      exact J25 (((10 : Int32) + x2)) x1 b_this _ _ _ hf hw (lv_sub hl [] rfl)
    · replace hf := if_t q3 hf
      refine lv_iconst (pc := 17) (v := -1) hx hb dX1_placeKeeper_17 (by decide) ?_
      refine lv_goto (pc := 18) (tgt := 25) hx hb dX1_placeKeeper_18 (by decide) ?_
      exact J25 ((-1 : Int32)) x1 b_this _ _ _ hf hw (lv_sub hl [] rfl)
def zf_X7_show_23 (b_staff : TSt) (b_shelves : TSh) (b_refusals : Nat → Int32) : Option (Int32 × TSh × (Nat → Int32)) := (Option.bind (zf_X7_refused (((-2 : Int32))) b_refusals) (fun u7 => some (u7.1, b_shelves, u7.2)))
def zf_X7_show_30 (b_staff : TSt) (v1 : Int32) (v2 : Int32) (b_shelves : TSh) (b_refusals : Nat → Int32) : Option (Int32 × TSh × (Nat → Int32)) := (Option.bind (zf_X1_placeKeeper v1 v2 b_shelves) (fun u6 => some ((1 : Int32), u6, b_refusals)))
def zf_X7_show (x1 : Int32) (x2 : Int32) (b_staff : TSt) (b_shelves : TSh) (b_refusals : Nat → Int32) : Option (Int32 × TSh × (Nat → Int32)) := (Option.bind (zf_X7_isShelf x1) (fun u1 => (if u1 then (if x2 = (-1 : Int32) then zf_X7_show_30 b_staff x1 x2 b_shelves b_refusals else (Option.bind (zf_X2_has x2 b_staff) (fun u4 => (if u4 then zf_X7_show_30 b_staff x1 x2 b_shelves b_refusals else zf_X7_show_23 b_staff b_shelves b_refusals)))) else zf_X7_show_23 b_staff b_shelves b_refusals)))
abbrev zr_X7_show : Room := { frames := 3, cells := 0, slots := 0, locals := 64 }
set_option maxHeartbeats 4000000 in
set_option maxRecDepth 100000 in
theorem c_X7_show (l : Launch) (G : va_G) (cy : Nat → ClassId) (tt : Nat → Nat) (L : Nat → Nat) (b_seedNow : Int32) (b_keptSeed : Int32) (b_isKept : Bool) (x1 : Int32) (x2 : Int32) (b_staff : TSt) (b_shelves : TSh) (b_refusals : Nat → Int32) (res : Int32 × TSh × (Nat → Int32)) (hf : zf_X7_show x1 x2 b_staff b_shelves b_refusals = some res) : zCT l yX7_show cX7_show 3 (some .int) zr_X7_show G cy tt [.ref ((L 0)), .int x1, .int x2] [xU L b_seedNow b_keptSeed b_isKept, xSt ((L 5)) ((L 6)) ((L 7)) ((L 8)) ((L 9)) b_staff.1, xI cy ((L 6)) 8 b_staff.2.1, xI cy ((L 7)) 8 b_staff.2.2.1, xI cy ((L 8)) 8 b_staff.2.2.2.1, xI cy ((L 9)) 8 b_staff.2.2.2.2, xSh ((L 20)) ((L 21)) ((L 22)) ((L 23)), xI cy ((L 21)) 8 b_shelves.1, xI cy ((L 22)) 8 b_shelves.2.1, xRJ cy ((L 23)) 8 (fun j => [some ((L 24)), some ((L 25)), some ((L 26)), some ((L 27)), some ((L 28)), some ((L 29)), some ((L 30)), some ((L 31))].getD j none), xJ cy ((L 24)) 40 ((b_shelves.2.2 0)), xJ cy ((L 25)) 40 ((b_shelves.2.2 1)), xJ cy ((L 26)) 40 ((b_shelves.2.2 2)), xJ cy ((L 27)) 40 ((b_shelves.2.2 3)), xJ cy ((L 28)) 40 ((b_shelves.2.2 4)), xJ cy ((L 29)) 40 ((b_shelves.2.2 5)), xJ cy ((L 30)) 40 ((b_shelves.2.2 6)), xJ cy ((L 31)) 40 ((b_shelves.2.2 7)), xI cy ((L 48)) 5 b_refusals] (some (.int res.1)) [xU L b_seedNow b_keptSeed b_isKept, xSt ((L 5)) ((L 6)) ((L 7)) ((L 8)) ((L 9)) b_staff.1, xI cy ((L 6)) 8 b_staff.2.1, xI cy ((L 7)) 8 b_staff.2.2.1, xI cy ((L 8)) 8 b_staff.2.2.2.1, xI cy ((L 9)) 8 b_staff.2.2.2.2, xSh ((L 20)) ((L 21)) ((L 22)) ((L 23)), xI cy ((L 21)) 8 res.2.1.1, xI cy ((L 22)) 8 res.2.1.2.1, xRJ cy ((L 23)) 8 (fun j => [some ((L 24)), some ((L 25)), some ((L 26)), some ((L 27)), some ((L 28)), some ((L 29)), some ((L 30)), some ((L 31))].getD j none), xJ cy ((L 24)) 40 ((res.2.1.2.2 0)), xJ cy ((L 25)) 40 ((res.2.1.2.2 1)), xJ cy ((L 26)) 40 ((res.2.1.2.2 2)), xJ cy ((L 27)) 40 ((res.2.1.2.2 3)), xJ cy ((L 28)) 40 ((res.2.1.2.2 4)), xJ cy ((L 29)) 40 ((res.2.1.2.2 5)), xJ cy ((L 30)) 40 ((res.2.1.2.2 6)), xJ cy ((L 31)) 40 ((res.2.1.2.2 7)), xI cy ((L 48)) 5 res.2.2] := by
  refine zk_start zn_X7 (Nat.le_of_ble_eq_true rfl) ?_
  intro p e s m args below meth c A ls Q C hr hQ hw hl
  have C : zCx p m c s args meth cX7_show 3 RX7 G cy tt A := C
  have hx := C.1.1
  have hb := C.1.2.1
  have hl : lv_has ls 3 [(0, .ref ((L 0))), (1, .int x1), (2, .int x2)] := hl
  have J23 : ∀ (b_shelves : TSh) (b_refusals : Nat → Int32) (H : Heap) (locs : List Loc) (ls : Array Slot), zf_X7_show_23 b_staff b_shelves b_refusals = some res → zWd G A s.heap H locs [xU L b_seedNow b_keptSeed b_isKept, xSt ((L 5)) ((L 6)) ((L 7)) ((L 8)) ((L 9)) b_staff.1, xI cy ((L 6)) 8 b_staff.2.1, xI cy ((L 7)) 8 b_staff.2.2.1, xI cy ((L 8)) 8 b_staff.2.2.2.1, xI cy ((L 9)) 8 b_staff.2.2.2.2, xSh ((L 20)) ((L 21)) ((L 22)) ((L 23)), xI cy ((L 21)) 8 b_shelves.1, xI cy ((L 22)) 8 b_shelves.2.1, xRJ cy ((L 23)) 8 (fun j => [some ((L 24)), some ((L 25)), some ((L 26)), some ((L 27)), some ((L 28)), some ((L 29)), some ((L 30)), some ((L 31))].getD j none), xJ cy ((L 24)) 40 ((b_shelves.2.2 0)), xJ cy ((L 25)) 40 ((b_shelves.2.2 1)), xJ cy ((L 26)) 40 ((b_shelves.2.2 2)), xJ cy ((L 27)) 40 ((b_shelves.2.2 3)), xJ cy ((L 28)) 40 ((b_shelves.2.2 4)), xJ cy ((L 29)) 40 ((b_shelves.2.2 5)), xJ cy ((L 30)) 40 ((b_shelves.2.2 6)), xJ cy ((L 31)) 40 ((b_shelves.2.2 7)), xI cy ((L 48)) 5 b_refusals] → lv_has ls 3 [(0, .ref ((L 0)))] → W p l e zr_X7_show s m args below meth c H locs 0 0 Q (F0 m 23 ls []) := by
    intro b_shelves b_refusals H locs ls hf hw hl
    rw [zf_X7_show_23] at hf
    refine lv_aload_n (pc := 23) hx hb dX7_show_23 rfl (lv_at hl 0 rfl) ?_
    refine lv_bipush (pc := 24) (v := -2) hx hb dX7_show_24 (by decide) ?_
    obtain ⟨u7, u7e, hf⟩ := bd hf
    refine zk_cV (pc := 26) (ci := 7) (q0 := 0) (rest := []) (st1 := [.int u7.1]) (w' := [xU L b_seedNow b_keptSeed b_isKept, xSt ((L 5)) ((L 6)) ((L 7)) ((L 8)) ((L 9)) b_staff.1, xI cy ((L 6)) 8 b_staff.2.1, xI cy ((L 7)) 8 b_staff.2.2.1, xI cy ((L 8)) 8 b_staff.2.2.2.1, xI cy ((L 9)) 8 b_staff.2.2.2.2, xSh ((L 20)) ((L 21)) ((L 22)) ((L 23)), xI cy ((L 21)) 8 b_shelves.1, xI cy ((L 22)) 8 b_shelves.2.1, xRJ cy ((L 23)) 8 (fun j => [some ((L 24)), some ((L 25)), some ((L 26)), some ((L 27)), some ((L 28)), some ((L 29)), some ((L 30)), some ((L 31))].getD j none), xJ cy ((L 24)) 40 ((b_shelves.2.2 0)), xJ cy ((L 25)) 40 ((b_shelves.2.2 1)), xJ cy ((L 26)) 40 ((b_shelves.2.2 2)), xJ cy ((L 27)) 40 ((b_shelves.2.2 3)), xJ cy ((L 28)) 40 ((b_shelves.2.2 4)), xJ cy ((L 29)) 40 ((b_shelves.2.2 5)), xJ cy ((L 30)) 40 ((b_shelves.2.2 6)), xJ cy ((L 31)) 40 ((b_shelves.2.2 7)), xI cy ((L 48)) 5 u7.2]) (mk := [none, none, none, none, none, none, none, none, none, none, none, none, none, none, none, none, none, none, some (xI cy ((L 48)) 5 u7.2)]) C hw (c_X7_refused l G cy tt L b_seedNow b_keptSeed b_isKept (((-2 : Int32))) b_refusals _ u7e) zy_X7_refused zm_X7_103 rfl rfl rfl [0, 18] rfl rfl rfl rfl rfl rfl rfl rfl hl.1 ⟨rfl, rfl⟩ ⟨Nat.le_of_ble_eq_true rfl, Nat.le_of_ble_eq_true rfl⟩ rfl (Nat.le_of_ble_eq_true rfl) ⟨Nat.zero_le _, Nat.zero_le _⟩ dX7_show_26 (fun H locs hw => ?_)
    have hf := Option.some.inj hf
    subst hf
    exact zk_reti (pc := 29) (ww := [xU L b_seedNow b_keptSeed b_isKept, xSt ((L 5)) ((L 6)) ((L 7)) ((L 8)) ((L 9)) b_staff.1, xI cy ((L 6)) 8 b_staff.2.1, xI cy ((L 7)) 8 b_staff.2.2.1, xI cy ((L 8)) 8 b_staff.2.2.2.1, xI cy ((L 9)) 8 b_staff.2.2.2.2, xSh ((L 20)) ((L 21)) ((L 22)) ((L 23)), xI cy ((L 21)) 8 b_shelves.1, xI cy ((L 22)) 8 b_shelves.2.1, xRJ cy ((L 23)) 8 (fun j => [some ((L 24)), some ((L 25)), some ((L 26)), some ((L 27)), some ((L 28)), some ((L 29)), some ((L 30)), some ((L 31))].getD j none), xJ cy ((L 24)) 40 ((b_shelves.2.2 0)), xJ cy ((L 25)) 40 ((b_shelves.2.2 1)), xJ cy ((L 26)) 40 ((b_shelves.2.2 2)), xJ cy ((L 27)) 40 ((b_shelves.2.2 3)), xJ cy ((L 28)) 40 ((b_shelves.2.2 4)), xJ cy ((L 29)) 40 ((b_shelves.2.2 5)), xJ cy ((L 30)) 40 ((b_shelves.2.2 6)), xJ cy ((L 31)) 40 ((b_shelves.2.2 7)), xI cy ((L 48)) 5 u7.2]) C hw hr hQ dX7_show_29
  have J30 : ∀ (v1 : Int32) (v2 : Int32) (b_shelves : TSh) (b_refusals : Nat → Int32) (H : Heap) (locs : List Loc) (ls : Array Slot), zf_X7_show_30 b_staff v1 v2 b_shelves b_refusals = some res → zWd G A s.heap H locs [xU L b_seedNow b_keptSeed b_isKept, xSt ((L 5)) ((L 6)) ((L 7)) ((L 8)) ((L 9)) b_staff.1, xI cy ((L 6)) 8 b_staff.2.1, xI cy ((L 7)) 8 b_staff.2.2.1, xI cy ((L 8)) 8 b_staff.2.2.2.1, xI cy ((L 9)) 8 b_staff.2.2.2.2, xSh ((L 20)) ((L 21)) ((L 22)) ((L 23)), xI cy ((L 21)) 8 b_shelves.1, xI cy ((L 22)) 8 b_shelves.2.1, xRJ cy ((L 23)) 8 (fun j => [some ((L 24)), some ((L 25)), some ((L 26)), some ((L 27)), some ((L 28)), some ((L 29)), some ((L 30)), some ((L 31))].getD j none), xJ cy ((L 24)) 40 ((b_shelves.2.2 0)), xJ cy ((L 25)) 40 ((b_shelves.2.2 1)), xJ cy ((L 26)) 40 ((b_shelves.2.2 2)), xJ cy ((L 27)) 40 ((b_shelves.2.2 3)), xJ cy ((L 28)) 40 ((b_shelves.2.2 4)), xJ cy ((L 29)) 40 ((b_shelves.2.2 5)), xJ cy ((L 30)) 40 ((b_shelves.2.2 6)), xJ cy ((L 31)) 40 ((b_shelves.2.2 7)), xI cy ((L 48)) 5 b_refusals] → lv_has ls 3 [(0, .ref ((L 0))), (1, .int v1), (2, .int v2)] → W p l e zr_X7_show s m args below meth c H locs 0 0 Q (F0 m 30 ls []) := by
    intro v1 v2 b_shelves b_refusals H locs ls hf hw hl
    rw [zf_X7_show_30] at hf
    refine lv_aload_n (pc := 30) hx hb dX7_show_30 rfl (lv_at hl 0 rfl) ?_
    refine zk_gt (pc := 31) C hw zl_X7_41 0 rfl rfl dX7_show_31 ?_
    refine lv_iload_n (pc := 34) hx hb dX7_show_34 rfl (lv_at hl 1 rfl) ?_
    refine lv_iload_n (pc := 35) hx hb dX7_show_35 rfl (lv_at hl 2 rfl) ?_
    obtain ⟨u6, u6e, hf⟩ := bd hf
    refine zk_cV (pc := 36) (ci := 1) (q0 := 6) (rest := []) (st1 := []) (w' := [xU L b_seedNow b_keptSeed b_isKept, xSt ((L 5)) ((L 6)) ((L 7)) ((L 8)) ((L 9)) b_staff.1, xI cy ((L 6)) 8 b_staff.2.1, xI cy ((L 7)) 8 b_staff.2.2.1, xI cy ((L 8)) 8 b_staff.2.2.2.1, xI cy ((L 9)) 8 b_staff.2.2.2.2, xSh ((L 20)) ((L 21)) ((L 22)) ((L 23)), xI cy ((L 21)) 8 u6.1, xI cy ((L 22)) 8 u6.2.1, xRJ cy ((L 23)) 8 (fun j => [some ((L 24)), some ((L 25)), some ((L 26)), some ((L 27)), some ((L 28)), some ((L 29)), some ((L 30)), some ((L 31))].getD j none), xJ cy ((L 24)) 40 ((u6.2.2 0)), xJ cy ((L 25)) 40 ((u6.2.2 1)), xJ cy ((L 26)) 40 ((u6.2.2 2)), xJ cy ((L 27)) 40 ((u6.2.2 3)), xJ cy ((L 28)) 40 ((u6.2.2 4)), xJ cy ((L 29)) 40 ((u6.2.2 5)), xJ cy ((L 30)) 40 ((u6.2.2 6)), xJ cy ((L 31)) 40 ((u6.2.2 7)), xI cy ((L 48)) 5 b_refusals]) (mk := [none, none, none, none, none, none, none, some (xI cy ((L 21)) 8 u6.1), some (xI cy ((L 22)) 8 u6.2.1), none, some (xJ cy ((L 24)) 40 ((u6.2.2 0))), some (xJ cy ((L 25)) 40 ((u6.2.2 1))), some (xJ cy ((L 26)) 40 ((u6.2.2 2))), some (xJ cy ((L 27)) 40 ((u6.2.2 3))), some (xJ cy ((L 28)) 40 ((u6.2.2 4))), some (xJ cy ((L 29)) 40 ((u6.2.2 5))), some (xJ cy ((L 30)) 40 ((u6.2.2 6))), some (xJ cy ((L 31)) 40 ((u6.2.2 7))), none]) C hw (c_X1_placeKeeper l G cy tt ((L 20)) ((L 21)) ((L 22)) ((L 23)) ((L 24)) ((L 25)) ((L 26)) ((L 27)) ((L 28)) ((L 29)) ((L 30)) ((L 31)) v1 v2 b_shelves _ u6e) zy_X1_placeKeeper zm_X7_149 rfl rfl rfl [6, 7, 8, 9, 10, 11, 12, 13, 14, 15, 16, 17] rfl rfl rfl rfl rfl rfl rfl rfl hl.1 ⟨rfl, rfl⟩ ⟨Nat.le_of_ble_eq_true rfl, Nat.le_of_ble_eq_true rfl⟩ rfl (Nat.le_of_ble_eq_true rfl) ⟨Nat.zero_le _, Nat.zero_le _⟩ dX7_show_36 (fun H locs hw => ?_)
    refine lv_iconst (pc := 39) (v := 1) hx hb dX7_show_39 (by decide) ?_
    have hf := Option.some.inj hf
    subst hf
    exact zk_reti (pc := 40) (ww := [xU L b_seedNow b_keptSeed b_isKept, xSt ((L 5)) ((L 6)) ((L 7)) ((L 8)) ((L 9)) b_staff.1, xI cy ((L 6)) 8 b_staff.2.1, xI cy ((L 7)) 8 b_staff.2.2.1, xI cy ((L 8)) 8 b_staff.2.2.2.1, xI cy ((L 9)) 8 b_staff.2.2.2.2, xSh ((L 20)) ((L 21)) ((L 22)) ((L 23)), xI cy ((L 21)) 8 u6.1, xI cy ((L 22)) 8 u6.2.1, xRJ cy ((L 23)) 8 (fun j => [some ((L 24)), some ((L 25)), some ((L 26)), some ((L 27)), some ((L 28)), some ((L 29)), some ((L 30)), some ((L 31))].getD j none), xJ cy ((L 24)) 40 ((u6.2.2 0)), xJ cy ((L 25)) 40 ((u6.2.2 1)), xJ cy ((L 26)) 40 ((u6.2.2 2)), xJ cy ((L 27)) 40 ((u6.2.2 3)), xJ cy ((L 28)) 40 ((u6.2.2 4)), xJ cy ((L 29)) 40 ((u6.2.2 5)), xJ cy ((L 30)) 40 ((u6.2.2 6)), xJ cy ((L 31)) 40 ((u6.2.2 7)), xI cy ((L 48)) 5 b_refusals]) C hw hr hQ dX7_show_40
  rw [zf_X7_show] at hf
  refine lv_iload_n (pc := 0) hx hb dX7_show_0 rfl (lv_at hl 1 rfl) ?_
  obtain ⟨u1, u1e, hf⟩ := bd hf
  refine zk_cS (pc := 1) (rest := []) (st1 := [.int (bI u1)]) (w' := [xU L b_seedNow b_keptSeed b_isKept, xSt ((L 5)) ((L 6)) ((L 7)) ((L 8)) ((L 9)) b_staff.1, xI cy ((L 6)) 8 b_staff.2.1, xI cy ((L 7)) 8 b_staff.2.2.1, xI cy ((L 8)) 8 b_staff.2.2.2.1, xI cy ((L 9)) 8 b_staff.2.2.2.2, xSh ((L 20)) ((L 21)) ((L 22)) ((L 23)), xI cy ((L 21)) 8 b_shelves.1, xI cy ((L 22)) 8 b_shelves.2.1, xRJ cy ((L 23)) 8 (fun j => [some ((L 24)), some ((L 25)), some ((L 26)), some ((L 27)), some ((L 28)), some ((L 29)), some ((L 30)), some ((L 31))].getD j none), xJ cy ((L 24)) 40 ((b_shelves.2.2 0)), xJ cy ((L 25)) 40 ((b_shelves.2.2 1)), xJ cy ((L 26)) 40 ((b_shelves.2.2 2)), xJ cy ((L 27)) 40 ((b_shelves.2.2 3)), xJ cy ((L 28)) 40 ((b_shelves.2.2 4)), xJ cy ((L 29)) 40 ((b_shelves.2.2 5)), xJ cy ((L 30)) 40 ((b_shelves.2.2 6)), xJ cy ((L 31)) 40 ((b_shelves.2.2 7)), xI cy ((L 48)) 5 b_refusals]) (mk := [none, none, none, none, none, none, none, none, none, none, none, none, none, none, none, none, none, none, none]) C hw (c_X7_isShelf l G cy tt x1 _ u1e) zy_X7_isShelf zm_X7_95 [] rfl rfl rfl rfl rfl rfl rfl rfl hl.1 ⟨rfl, rfl⟩ ⟨Nat.le_of_ble_eq_true rfl, Nat.le_of_ble_eq_true rfl⟩ rfl (Nat.le_of_ble_eq_true rfl) ⟨Nat.zero_le _, Nat.zero_le _⟩ dX7_show_1 (fun H locs hw => ?_)
  refine zk_ifz (pc := 4) (tgt := 23) hx hb dX7_show_4 (by decide) (fun q2 => ?_) (fun q2 => ?_)
  · replace hf := if_f q2 hf
    exact J23 b_shelves b_refusals _ _ _ hf hw (lv_sub hl [0] rfl)
  · replace hf := if_t q2 hf
    refine lv_iload_n (pc := 7) hx hb dX7_show_7 rfl (lv_at hl 2 rfl) ?_
    refine lv_iconst (pc := 8) (v := -1) hx hb dX7_show_8 (by decide) ?_
    refine lv_icmp_eq (pc := 9) (tgt := 30) hx hb dX7_show_9 (by decide) (fun q3 => ?_) (fun q3 => ?_)
    · replace hf := if_t q3 hf
      exact J30 x1 x2 b_shelves b_refusals _ _ _ hf hw (lv_sub hl [0, 1, 2] rfl)
    · replace hf := if_f q3 hf
      refine lv_aload_n (pc := 12) hx hb dX7_show_12 rfl (lv_at hl 0 rfl) ?_
      refine zk_gt (pc := 13) C hw zl_X7_28 0 rfl rfl dX7_show_13 ?_
      refine lv_iload_n (pc := 16) hx hb dX7_show_16 rfl (lv_at hl 2 rfl) ?_
      obtain ⟨u4, u4e, hf⟩ := bd hf
      refine zk_cV (pc := 17) (ci := 2) (q0 := 1) (rest := []) (st1 := [.int (bI u4)]) (w' := [xU L b_seedNow b_keptSeed b_isKept, xSt ((L 5)) ((L 6)) ((L 7)) ((L 8)) ((L 9)) b_staff.1, xI cy ((L 6)) 8 b_staff.2.1, xI cy ((L 7)) 8 b_staff.2.2.1, xI cy ((L 8)) 8 b_staff.2.2.2.1, xI cy ((L 9)) 8 b_staff.2.2.2.2, xSh ((L 20)) ((L 21)) ((L 22)) ((L 23)), xI cy ((L 21)) 8 b_shelves.1, xI cy ((L 22)) 8 b_shelves.2.1, xRJ cy ((L 23)) 8 (fun j => [some ((L 24)), some ((L 25)), some ((L 26)), some ((L 27)), some ((L 28)), some ((L 29)), some ((L 30)), some ((L 31))].getD j none), xJ cy ((L 24)) 40 ((b_shelves.2.2 0)), xJ cy ((L 25)) 40 ((b_shelves.2.2 1)), xJ cy ((L 26)) 40 ((b_shelves.2.2 2)), xJ cy ((L 27)) 40 ((b_shelves.2.2 3)), xJ cy ((L 28)) 40 ((b_shelves.2.2 4)), xJ cy ((L 29)) 40 ((b_shelves.2.2 5)), xJ cy ((L 30)) 40 ((b_shelves.2.2 6)), xJ cy ((L 31)) 40 ((b_shelves.2.2 7)), xI cy ((L 48)) 5 b_refusals]) (mk := [none, none, none, none, none, none, none, none, none, none, none, none, none, none, none, none, none, none, none]) C hw (c_X2_has l G cy tt ((L 5)) ((L 6)) ((L 7)) ((L 8)) ((L 9)) x2 b_staff _ u4e) zy_X2_has zm_X7_146 rfl rfl rfl [1, 2, 3, 4, 5] rfl rfl rfl rfl rfl rfl rfl rfl hl.1 ⟨rfl, rfl⟩ ⟨Nat.le_of_ble_eq_true rfl, Nat.le_of_ble_eq_true rfl⟩ rfl (Nat.le_of_ble_eq_true rfl) ⟨Nat.zero_le _, Nat.zero_le _⟩ dX7_show_17 (fun H locs hw => ?_)
      refine zk_ifnz (pc := 20) (tgt := 30) hx hb dX7_show_20 (by decide) (fun q5 => ?_) (fun q5 => ?_)
      · replace hf := if_t q5 hf
        exact J30 x1 x2 b_shelves b_refusals _ _ _ hf hw (lv_sub hl [0, 1, 2] rfl)
      · replace hf := if_f q5 hf
        exact J23 b_shelves b_refusals _ _ _ hf hw (lv_sub hl [0] rfl)
def zf_X2_kindOf (x1 : Int32) (b_this : TSt) : Option (Int32) := (Option.bind (zf_X2_has x1 b_this) (fun u1 => (if u1 then (if ix x1 8 then some ((b_this.2.1 x1.toNatClampNeg)) else none) else some ((-1 : Int32)))))
abbrev zr_X2_kindOf : Room := { frames := 1, cells := 0, slots := 0, locals := 21 }
set_option maxHeartbeats 4000000 in
set_option maxRecDepth 100000 in
theorem c_X2_kindOf (l : Launch) (G : va_G) (cy : Nat → ClassId) (tt : Nat → Nat) (a0 a1 a2 a3 a4 : Nat) (x1 : Int32) (b_this : TSt) (res : Int32) (hf : zf_X2_kindOf x1 b_this = some res) : zCT l yX2_kindOf cX2_kindOf 2 (some .int) zr_X2_kindOf G cy tt [.ref a0, .int x1] [xSt a0 a1 a2 a3 a4 b_this.1, xI cy a1 8 b_this.2.1, xI cy a2 8 b_this.2.2.1, xI cy a3 8 b_this.2.2.2.1, xI cy a4 8 b_this.2.2.2.2] (some (.int res)) [xSt a0 a1 a2 a3 a4 b_this.1, xI cy a1 8 b_this.2.1, xI cy a2 8 b_this.2.2.1, xI cy a3 8 b_this.2.2.2.1, xI cy a4 8 b_this.2.2.2.2] := by
  refine zk_start zn_X2 (Nat.le_of_ble_eq_true rfl) ?_
  intro p e s m args below meth c A ls Q C hr hQ hw hl
  have C : zCx p m c s args meth cX2_kindOf 2 RX2 G cy tt A := C
  have hx := C.1.1
  have hb := C.1.2.1
  have hl : lv_has ls 2 [(0, .ref a0), (1, .int x1)] := hl
  rw [zf_X2_kindOf] at hf
  refine lv_aload_n (pc := 0) hx hb dX2_kindOf_0 rfl (lv_at hl 0 rfl) ?_
  refine lv_iload_n (pc := 1) hx hb dX2_kindOf_1 rfl (lv_at hl 1 rfl) ?_
  obtain ⟨u1, u1e, hf⟩ := bd hf
  refine zk_cV (pc := 2) (ci := 2) (q0 := 0) (rest := []) (st1 := [.int (bI u1)]) (w' := [xSt a0 a1 a2 a3 a4 b_this.1, xI cy a1 8 b_this.2.1, xI cy a2 8 b_this.2.2.1, xI cy a3 8 b_this.2.2.2.1, xI cy a4 8 b_this.2.2.2.2]) (mk := [none, none, none, none, none]) C hw (c_X2_has l G cy tt a0 a1 a2 a3 a4 x1 b_this _ u1e) zy_X2_has zm_X2_28 rfl rfl rfl [0, 1, 2, 3, 4] rfl rfl rfl rfl rfl rfl rfl rfl hl.1 ⟨rfl, rfl⟩ ⟨Nat.le_of_ble_eq_true rfl, Nat.le_of_ble_eq_true rfl⟩ rfl (Nat.le_of_ble_eq_true rfl) ⟨Nat.zero_le _, Nat.zero_le _⟩ dX2_kindOf_2 (fun H locs hw => ?_)
  refine zk_ifz (pc := 5) (tgt := 17) hx hb dX2_kindOf_5 (by decide) (fun q2 => ?_) (fun q2 => ?_)
  · replace hf := if_f q2 hf
    refine lv_iconst (pc := 17) (v := -1) hx hb dX2_kindOf_17 (by decide) ?_
    have hf := Option.some.inj hf
    subst hf
    exact zk_reti (pc := 18) (ww := [xSt a0 a1 a2 a3 a4 b_this.1, xI cy a1 8 b_this.2.1, xI cy a2 8 b_this.2.2.1, xI cy a3 8 b_this.2.2.2.1, xI cy a4 8 b_this.2.2.2.2]) C hw hr hQ dX2_kindOf_18
  · replace hf := if_t q2 hf
    refine lv_aload_n (pc := 8) hx hb dX2_kindOf_8 rfl (lv_at hl 0 rfl) ?_
    refine zk_gt (pc := 9) C hw zl_X2_15 0 rfl rfl dX2_kindOf_9 ?_
    refine lv_iload_n (pc := 12) hx hb dX2_kindOf_12 rfl (lv_at hl 1 rfl) ?_
    obtain ⟨q3, hf⟩ := ck hf
    refine zk_iald (pc := 13) C hw 1 rfl q3 dX2_kindOf_13 ?_
    refine lv_goto (pc := 14) (tgt := 18) hx hb dX2_kindOf_14 (by decide) ?_
    have hf := Option.some.inj hf
    subst hf
    exact zk_reti (pc := 18) (ww := [xSt a0 a1 a2 a3 a4 b_this.1, xI cy a1 8 b_this.2.1, xI cy a2 8 b_this.2.2.1, xI cy a3 8 b_this.2.2.2.1, xI cy a4 8 b_this.2.2.2.2]) C hw hr hQ dX2_kindOf_18
def zf_X7_isUnder_38 (k4 : Int32 → Int32 → Int32 → Option (Bool)) (v1 : Int32) (v3 : Int32) (t0 : Int32) : Option (Bool) := k4 v1 t0 ((v3 + 1))
def zf_X7_isUnder_37 (k4 : Int32 → Int32 → Int32 → Option (Bool)) (v1 : Int32) (v3 : Int32) : Option (Bool) := zf_X7_isUnder_38 k4 v1 v3 ((-1 : Int32))
def zf_X7_isUnder_4 : Nat → Int32 → Int32 → Int32 → Option (Bool)
  | 0, _, _, _ => none
  | n + 1, v1, v2, v3 => (if (6 : Int32) ≤ v3 then some (false) else (if v2 = v1 then some (true) else (if v2 < 0 then zf_X7_isUnder_37 (zf_X7_isUnder_4 n) v1 v3 else (if (6 : Int32) ≤ v2 then zf_X7_isUnder_37 (zf_X7_isUnder_4 n) v1 v3 else (if ix v2 6 then zf_X7_isUnder_38 (zf_X7_isUnder_4 n) v1 v3 ((zABV v2.toNatClampNeg)) else none)))))
def zf_X7_isUnder (x0 : Int32) (x1 : Int32) : Option (Bool) := zf_X7_isUnder_4 FU x1 x0 ((0 : Int32))
abbrev zr_X7_isUnder : Room := { frames := 0, cells := 0, slots := 0, locals := 0 }
set_option maxHeartbeats 4000000 in
set_option maxRecDepth 100000 in
theorem c_X7_isUnder (l : Launch) (G : va_G) (cy : Nat → ClassId) (tt : Nat → Nat)  (x0 : Int32) (x1 : Int32) (res : Bool) (hf : zf_X7_isUnder x0 x1 = some res) : zCT l yX7_isUnder cX7_isUnder 4 (some .boolean) zr_X7_isUnder G cy tt [.int x0, .int x1] [] (some (.int (bI res))) [] := by
  refine zk_start zn_X7 (Nat.le_of_ble_eq_true rfl) ?_
  intro p e s m args below meth c A ls Q C hr hQ hw hl
  have C : zCx p m c s args meth cX7_isUnder 4 RX7 G cy tt A := C
  have hx := C.1.1
  have hb := C.1.2.1
  have hl : lv_has ls 4 [(0, .int x0), (1, .int x1)] := hl
  have J38 : ∀ (k4 : Int32 → Int32 → Int32 → Option (Bool)) (K4 : ∀ (v1 : Int32) (v2 : Int32) (v3 : Int32) (H : Heap) (locs : List Loc) (ls : Array Slot), k4 v1 v2 v3 = some res → zWd G A s.heap H locs [] → lv_has ls 4 [(1, .int v1), (2, .int v2), (3, .int v3)] → W p l e zr_X7_isUnder s m args below meth c H locs 0 0 Q (F0 m 4 ls [])), ∀ (v1 : Int32) (v3 : Int32) (t0 : Int32) (H : Heap) (locs : List Loc) (ls : Array Slot), zf_X7_isUnder_38 k4 v1 v3 t0 = some res → zWd G A s.heap H locs [] → lv_has ls 4 [(1, .int v1), (3, .int v3)] → W p l e zr_X7_isUnder s m args below meth c H locs 0 0 Q (F0 m 38 ls [.int t0]) := by
    intro k4 K4 v1 v3 t0 H locs ls hf hw hl
    rw [zf_X7_isUnder_38] at hf
    refine lv_istore_n (pc := 38) (lv' := [(2, .int t0), (1, .int v1), (3, .int v3)]) hx hb dX7_isUnder_38 rfl hl (by decide) rfl (fun ls hl => ?_)
    refine lv_iinc (pc := 39) (v := (v3 + 1)) (lv' := [(3, .int ((v3 + 1))), (2, .int t0), (1, .int v1)]) hx hb dX7_isUnder_39 hl (k := 2) rfl rfl (by decide) rfl (fun ls hl => ?_)
    refine lv_goto (pc := 42) (tgt := 4) hx hb dX7_isUnder_42 (by decide) ?_
    exact K4 v1 t0 ((v3 + 1)) _ _ _ hf hw (lv_sub hl [2, 1, 0] rfl)
  have J37 : ∀ (k4 : Int32 → Int32 → Int32 → Option (Bool)) (K4 : ∀ (v1 : Int32) (v2 : Int32) (v3 : Int32) (H : Heap) (locs : List Loc) (ls : Array Slot), k4 v1 v2 v3 = some res → zWd G A s.heap H locs [] → lv_has ls 4 [(1, .int v1), (2, .int v2), (3, .int v3)] → W p l e zr_X7_isUnder s m args below meth c H locs 0 0 Q (F0 m 4 ls [])), ∀ (v1 : Int32) (v3 : Int32) (H : Heap) (locs : List Loc) (ls : Array Slot), zf_X7_isUnder_37 k4 v1 v3 = some res → zWd G A s.heap H locs [] → lv_has ls 4 [(1, .int v1), (3, .int v3)] → W p l e zr_X7_isUnder s m args below meth c H locs 0 0 Q (F0 m 37 ls []) := by
    intro k4 K4 v1 v3 H locs ls hf hw hl
    rw [zf_X7_isUnder_37] at hf
    refine lv_iconst (pc := 37) (v := -1) hx hb dX7_isUnder_37 (by decide) ?_
    exact J38 k4 K4 v1 v3 ((-1 : Int32)) _ _ _ hf hw (lv_sub hl [0, 1] rfl)
  have J4 : ∀ (n : Nat), ∀ (v1 : Int32) (v2 : Int32) (v3 : Int32) (H : Heap) (locs : List Loc) (ls : Array Slot), zf_X7_isUnder_4 n v1 v2 v3 = some res → zWd G A s.heap H locs [] → lv_has ls 4 [(1, .int v1), (2, .int v2), (3, .int v3)] → W p l e zr_X7_isUnder s m args below meth c H locs 0 0 Q (F0 m 4 ls []) := by
    intro n
    induction n with
    | zero =>
      intro v1 v2 v3 H locs ls hf hw hl
      rw [zf_X7_isUnder_4] at hf
      cases hf
    | succ n ih =>
      intro v1 v2 v3 H locs ls hf hw hl
      rw [zf_X7_isUnder_4] at hf
      refine lv_iload_n (pc := 4) hx hb dX7_isUnder_4 rfl (lv_at hl 2 rfl) ?_
      refine lv_bipush (pc := 5) (v := 6) hx hb dX7_isUnder_5 (by decide) ?_
      refine lv_icmp_ge (pc := 7) (tgt := 45) hx hb dX7_isUnder_7 (by decide) (fun q1 => ?_) (fun q1 => ?_)
      · replace hf := if_t q1 hf
        refine lv_iconst (pc := 45) (v := 0) hx hb dX7_isUnder_45 (by decide) ?_
        have hf := Option.some.inj hf
        subst hf
        exact zk_retz (pc := 46) (b := false) (ww := []) C hw hr hQ dX7_isUnder_46
      · replace hf := if_f q1 hf
        refine lv_iload_n (pc := 10) hx hb dX7_isUnder_10 rfl (lv_at hl 1 rfl) ?_
        refine lv_iload_n (pc := 11) hx hb dX7_isUnder_11 rfl (lv_at hl 0 rfl) ?_
        refine lv_icmp_ne (pc := 12) (tgt := 17) hx hb dX7_isUnder_12 (by decide) (fun q2 => ?_) (fun q2 => ?_)
        · replace hf := if_f q2 hf
          refine lv_iload_n (pc := 17) hx hb dX7_isUnder_17 rfl (lv_at hl 1 rfl) ?_
          refine lv_if_lt (pc := 18) (tgt := 37) hx hb dX7_isUnder_18 (by decide) (fun q3 => ?_) (fun q3 => ?_)
          · replace hf := if_t q3 hf
            exact J37 (zf_X7_isUnder_4 n) ih v1 v3 _ _ _ hf hw (lv_sub hl [0, 2] rfl)
          · replace hf := if_f q3 hf
            refine lv_iload_n (pc := 21) hx hb dX7_isUnder_21 rfl (lv_at hl 1 rfl) ?_
            refine va_gets (pc := 22) hx hb C.2.2.2.2.1.1.1 hw.2.2 C.1.2.2.2.1 (C.1.2.2.2.2 _ zg_X7_390) (fun _ h => h) dX7_isUnder_22 ?_
            refine zk_stl (pc := 25) (v := 6) C hw C.2.2.2.2.1.1.2 (by decide) dX7_isUnder_25 ?_
            refine lv_icmp_ge (pc := 26) (tgt := 37) hx hb dX7_isUnder_26 (by decide) (fun q4 => ?_) (fun q4 => ?_)
            · replace hf := if_t q4 hf
              exact J37 (zf_X7_isUnder_4 n) ih v1 v3 _ _ _ hf hw (lv_sub hl [0, 2] rfl)
            · replace hf := if_f q4 hf
              refine va_gets (pc := 29) hx hb C.2.2.2.2.1.1.1 hw.2.2 C.1.2.2.2.1 (C.1.2.2.2.2 _ zg_X7_390) (fun _ h => h) dX7_isUnder_29 ?_
              refine lv_iload_n (pc := 32) hx hb dX7_isUnder_32 rfl (lv_at hl 1 rfl) ?_
              obtain ⟨q5, hf⟩ := ck hf
              refine zk_sti (pc := 33) (f := zABV) C hw C.2.2.2.2.1.1.2 q5 dX7_isUnder_33 ?_
              refine lv_goto (pc := 34) (tgt := 38) hx hb dX7_isUnder_34 (by decide) ?_
              exact J38 (zf_X7_isUnder_4 n) ih v1 v3 ((zABV v2.toNatClampNeg)) _ _ _ hf hw (lv_sub hl [0, 2] rfl)
        · replace hf := if_t q2 hf
          refine lv_iconst (pc := 15) (v := 1) hx hb dX7_isUnder_15 (by decide) ?_
          have hf := Option.some.inj hf
          subst hf
          exact zk_retz (pc := 16) (b := true) (ww := []) C hw hr hQ dX7_isUnder_16
  rw [zf_X7_isUnder] at hf
  refine lv_iload_n (pc := 0) hx hb dX7_isUnder_0 rfl (lv_at hl 0 rfl) ?_
  refine lv_istore_n (pc := 1) (lv' := [(2, .int x0), (0, .int x0), (1, .int x1)]) hx hb dX7_isUnder_1 rfl hl (by decide) rfl (fun ls hl => ?_)
  refine lv_iconst (pc := 2) (v := 0) hx hb dX7_isUnder_2 (by decide) ?_
  refine lv_istore_n (pc := 3) (lv' := [(3, .int ((0 : Int32))), (2, .int x0), (0, .int x0), (1, .int x1)]) hx hb dX7_isUnder_3 rfl hl (by decide) rfl (fun ls hl => ?_)
  exact J4 FU x1 x0 ((0 : Int32)) _ _ _ hf hw (lv_sub hl [3, 1, 0] rfl)
def zf_X2_soothing_16 (b_p2 : TTe) (v0 : Int32) (v1 : Int32) (t0 : Int32) : Option (Int32) := (if v0 = 0 then some (v1) else (if v0 = 1 then some (t0) else (if v0 = 2 then some ((b_p2.1 / (4 : Int32))) else (if v0 = 3 then some ((t0 + b_p2.2.2.1)) else (if v0 = 4 then some (((b_p2.1 / (4 : Int32)) + v1)) else (if v0 = 5 then some ((-v1)) else some ((0 : Int32))))))))
def zf_X2_soothing (x0 : Int32) (x1 : Int32) (b_p2 : TTe) : Option (Int32) := (if (b_p2.1 - b_p2.1 / (2 : Int32) * (2 : Int32)) = 0 then zf_X2_soothing_16 b_p2 x0 x1 ((x1 + (3 : Int32))) else zf_X2_soothing_16 b_p2 x0 x1 x1)
abbrev zr_X2_soothing : Room := { frames := 0, cells := 0, slots := 0, locals := 0 }
set_option maxHeartbeats 4000000 in
set_option maxRecDepth 100000 in
theorem c_X2_soothing (l : Launch) (G : va_G) (cy : Nat → ClassId) (tt : Nat → Nat) (p2_0 : Nat) (x0 : Int32) (x1 : Int32) (b_p2 : TTe) (res : Int32) (hf : zf_X2_soothing x0 x1 b_p2 = some res) : zCT l yX2_soothing cX2_soothing 4 (some .int) zr_X2_soothing G cy tt [.int x0, .int x1, .ref p2_0] [xTe p2_0 b_p2] (some (.int res)) [xTe p2_0 b_p2] := by
  refine zk_start zn_X2 (Nat.le_of_ble_eq_true rfl) ?_
  intro p e s m args below meth c A ls Q C hr hQ hw hl
  have C : zCx p m c s args meth cX2_soothing 4 RX2 G cy tt A := C
  have hx := C.1.1
  have hb := C.1.2.1
  have hl : lv_has ls 4 [(0, .int x0), (1, .int x1), (2, .ref p2_0)] := hl
  have J16 : ∀ (v0 : Int32) (v1 : Int32) (t0 : Int32) (H : Heap) (locs : List Loc) (ls : Array Slot), zf_X2_soothing_16 b_p2 v0 v1 t0 = some res → zWd G A s.heap H locs [xTe p2_0 b_p2] → lv_has ls 4 [(0, .int v0), (1, .int v1), (2, .ref p2_0)] → W p l e zr_X2_soothing s m args below meth c H locs 0 0 Q (F0 m 16 ls [.int t0]) := by
    intro v0 v1 t0 H locs ls hf hw hl
    rw [zf_X2_soothing_16] at hf
    refine lv_istore_n (pc := 16) (lv' := [(3, .int t0), (0, .int v0), (1, .int v1), (2, .ref p2_0)]) hx hb dX2_soothing_16 rfl hl (by decide) rfl (fun ls hl => ?_)
    refine lv_iload_n (pc := 17) hx hb dX2_soothing_17 rfl (lv_at hl 1 rfl) ?_
    by_cases q2 : v0 = (0 : Int32)
    · replace hf := if_t q2 hf
      refine zk_tabIn (pc := 18) (off := 38) (tgt := 56) q2 C dX2_soothing_18 (by decide) (by decide) (by decide +kernel) (by decide) ?_
      refine lv_iload_n (pc := 56) hx hb dX2_soothing_56 rfl (lv_at hl 2 rfl) ?_
      have hf := Option.some.inj hf
      subst hf
      exact zk_reti (pc := 57) (ww := [xTe p2_0 b_p2]) C hw hr hQ dX2_soothing_57
    · replace hf := if_f q2 hf
      by_cases q3 : v0 = (1 : Int32)
      · replace hf := if_t q3 hf
        refine zk_tabIn (pc := 18) (off := 40) (tgt := 58) q3 C dX2_soothing_18 (by decide) (by decide) (by decide +kernel) (by decide) ?_
        refine lv_iload_n (pc := 58) hx hb dX2_soothing_58 rfl (lv_at hl 0 rfl) ?_
        have hf := Option.some.inj hf
        subst hf
        exact zk_reti (pc := 59) (ww := [xTe p2_0 b_p2]) C hw hr hQ dX2_soothing_59
      · replace hf := if_f q3 hf
        by_cases q4 : v0 = (2 : Int32)
        · replace hf := if_t q4 hf
          refine zk_tabIn (pc := 18) (off := 49) (tgt := 67) q4 C dX2_soothing_18 (by decide) (by decide) (by decide +kernel) (by decide) ?_
          refine lv_aload_n (pc := 67) hx hb dX2_soothing_67 rfl (lv_at hl 3 rfl) ?_
          refine zk_gt (pc := 68) C hw zl_X2_42 0 rfl rfl dX2_soothing_68 ?_
          refine lv_iconst (pc := 71) (v := 4) hx hb dX2_soothing_71 (by decide) ?_
          refine lv_idiv (pc := 72) hx hb dX2_soothing_72 (by decide) ?_
          have hf := Option.some.inj hf
          subst hf
          exact zk_reti (pc := 73) (ww := [xTe p2_0 b_p2]) C hw hr hQ dX2_soothing_73
        · replace hf := if_f q4 hf
          by_cases q5 : v0 = (3 : Int32)
          · replace hf := if_t q5 hf
            refine zk_tabIn (pc := 18) (off := 42) (tgt := 60) q5 C dX2_soothing_18 (by decide) (by decide) (by decide +kernel) (by decide) ?_
            refine lv_iload_n (pc := 60) hx hb dX2_soothing_60 rfl (lv_at hl 0 rfl) ?_
            refine lv_aload_n (pc := 61) hx hb dX2_soothing_61 rfl (lv_at hl 3 rfl) ?_
            refine zk_gt (pc := 62) C hw zl_X2_69 0 rfl rfl dX2_soothing_62 ?_
            refine lv_iadd (pc := 65) hx hb dX2_soothing_65 ?_
            have hf := Option.some.inj hf
            subst hf
            exact zk_reti (pc := 66) (ww := [xTe p2_0 b_p2]) C hw hr hQ dX2_soothing_66
          · replace hf := if_f q5 hf
            by_cases q6 : v0 = (4 : Int32)
            · replace hf := if_t q6 hf
              refine zk_tabIn (pc := 18) (off := 56) (tgt := 74) q6 C dX2_soothing_18 (by decide) (by decide) (by decide +kernel) (by decide) ?_
              refine lv_aload_n (pc := 74) hx hb dX2_soothing_74 rfl (lv_at hl 3 rfl) ?_
              refine zk_gt (pc := 75) C hw zl_X2_42 0 rfl rfl dX2_soothing_75 ?_
              refine lv_iconst (pc := 78) (v := 4) hx hb dX2_soothing_78 (by decide) ?_
              refine lv_idiv (pc := 79) hx hb dX2_soothing_79 (by decide) ?_
              refine lv_iload_n (pc := 80) hx hb dX2_soothing_80 rfl (lv_at hl 2 rfl) ?_
              refine lv_iadd (pc := 81) hx hb dX2_soothing_81 ?_
              have hf := Option.some.inj hf
              subst hf
              exact zk_reti (pc := 82) (ww := [xTe p2_0 b_p2]) C hw hr hQ dX2_soothing_82
            · replace hf := if_f q6 hf
              by_cases q7 : v0 = (5 : Int32)
              · replace hf := if_t q7 hf
                refine zk_tabIn (pc := 18) (off := 65) (tgt := 83) q7 C dX2_soothing_18 (by decide) (by decide) (by decide +kernel) (by decide) ?_
                refine lv_iload_n (pc := 83) hx hb dX2_soothing_83 rfl (lv_at hl 2 rfl) ?_
                refine lv_ineg (pc := 84) hx hb dX2_soothing_84 ?_
                have hf := Option.some.inj hf
                subst hf
                exact zk_reti (pc := 85) (ww := [xTe p2_0 b_p2]) C hw hr hQ dX2_soothing_85
              · replace hf := if_f q7 hf
                have eq2 := i32_ne (n := 0) (by decide) q2
                have eq3 := i32_ne (n := 1) (by decide) q3
                have eq4 := i32_ne (n := 2) (by decide) q4
                have eq5 := i32_ne (n := 3) (by decide) q5
                have eq6 := i32_ne (n := 4) (by decide) q6
                have eq7 := i32_ne (n := 5) (by decide) q7
                refine lv_tableOut (pc := 18) (tgt := 86) hx hb dX2_soothing_18 (by omega) (by decide) ?_
                refine lv_iconst (pc := 86) (v := 0) hx hb dX2_soothing_86 (by decide) ?_
                have hf := Option.some.inj hf
                subst hf
                exact zk_reti (pc := 87) (ww := [xTe p2_0 b_p2]) C hw hr hQ dX2_soothing_87
  rw [zf_X2_soothing] at hf
  refine lv_aload_n (pc := 0) hx hb dX2_soothing_0 rfl (lv_at hl 2 rfl) ?_
  refine zk_gt (pc := 1) C hw zl_X2_42 0 rfl rfl dX2_soothing_1 ?_
  refine lv_iconst (pc := 4) (v := 2) hx hb dX2_soothing_4 (by decide) ?_
  refine lv_irem (pc := 5) hx hb dX2_soothing_5 (by decide) ?_
  refine lv_if_ne (pc := 6) (tgt := 15) hx hb dX2_soothing_6 (by decide) (fun q1 => ?_) (fun q1 => ?_)
  · replace hf := if_f q1 hf
    refine lv_iload_n (pc := 15) hx hb dX2_soothing_15 rfl (lv_at hl 1 rfl) ?_
    exact J16 x0 x1 x1 _ _ _ hf hw (lv_sub hl [0, 1, 2] rfl)
  · replace hf := if_t q1 hf
    refine lv_iload_n (pc := 9) hx hb dX2_soothing_9 rfl (lv_at hl 1 rfl) ?_
    refine lv_iconst (pc := 10) (v := 3) hx hb dX2_soothing_10 (by decide) ?_
    refine lv_iadd (pc := 11) hx hb dX2_soothing_11 ?_
    refine lv_goto (pc := 12) (tgt := 16) hx hb dX2_soothing_12 (by decide) ?_
    exact J16 x0 x1 ((x1 + (3 : Int32))) _ _ _ hf hw (lv_sub hl [0, 1, 2] rfl)
def zf_X2_soothed (x1 : Int32) (b_this : TSt) (b_p2 : TTe) : Option (Int32) := (Option.bind (zf_X2_has x1 b_this) (fun u1 => (if u1 then (if ix x1 8 then (if ix x1 8 then (Option.bind (zf_X2_soothing (((b_this.2.1 x1.toNatClampNeg))) (((b_this.2.2.1 x1.toNatClampNeg))) b_p2) (fun u5 => some ((if (0 : Int32) < (if (b_p2.1 - u5) < (99 : Int32) then (b_p2.1 - u5) else (99 : Int32)) then (if (b_p2.1 - u5) < (99 : Int32) then (b_p2.1 - u5) else (99 : Int32)) else (0 : Int32))))) else none) else none) else some (b_p2.1))))
abbrev zr_X2_soothed : Room := { frames := 1, cells := 0, slots := 0, locals := 23 }
set_option maxHeartbeats 4000000 in
set_option maxRecDepth 100000 in
theorem c_X2_soothed (l : Launch) (G : va_G) (cy : Nat → ClassId) (tt : Nat → Nat) (a0 a1 a2 a3 a4 : Nat) (p2_0 : Nat) (x1 : Int32) (b_this : TSt) (b_p2 : TTe) (res : Int32) (hf : zf_X2_soothed x1 b_this b_p2 = some res) : zCT l yX2_soothed cX2_soothed 4 (some .int) zr_X2_soothed G cy tt [.ref a0, .int x1, .ref p2_0] [xSt a0 a1 a2 a3 a4 b_this.1, xI cy a1 8 b_this.2.1, xI cy a2 8 b_this.2.2.1, xI cy a3 8 b_this.2.2.2.1, xI cy a4 8 b_this.2.2.2.2, xTe p2_0 b_p2] (some (.int res)) [xSt a0 a1 a2 a3 a4 b_this.1, xI cy a1 8 b_this.2.1, xI cy a2 8 b_this.2.2.1, xI cy a3 8 b_this.2.2.2.1, xI cy a4 8 b_this.2.2.2.2, xTe p2_0 b_p2] := by
  refine zk_start zn_X2 (Nat.le_of_ble_eq_true rfl) ?_
  intro p e s m args below meth c A ls Q C hr hQ hw hl
  have C : zCx p m c s args meth cX2_soothed 4 RX2 G cy tt A := C
  have hx := C.1.1
  have hb := C.1.2.1
  have hl : lv_has ls 4 [(0, .ref a0), (1, .int x1), (2, .ref p2_0)] := hl
  rw [zf_X2_soothed] at hf
  refine lv_aload_n (pc := 0) hx hb dX2_soothed_0 rfl (lv_at hl 0 rfl) ?_
  refine lv_iload_n (pc := 1) hx hb dX2_soothed_1 rfl (lv_at hl 1 rfl) ?_
  obtain ⟨u1, u1e, hf⟩ := bd hf
  refine zk_cV (pc := 2) (ci := 2) (q0 := 0) (rest := []) (st1 := [.int (bI u1)]) (w' := [xSt a0 a1 a2 a3 a4 b_this.1, xI cy a1 8 b_this.2.1, xI cy a2 8 b_this.2.2.1, xI cy a3 8 b_this.2.2.2.1, xI cy a4 8 b_this.2.2.2.2, xTe p2_0 b_p2]) (mk := [none, none, none, none, none, none]) C hw (c_X2_has l G cy tt a0 a1 a2 a3 a4 x1 b_this _ u1e) zy_X2_has zm_X2_28 rfl rfl rfl [0, 1, 2, 3, 4] rfl rfl rfl rfl rfl rfl rfl rfl hl.1 ⟨rfl, rfl⟩ ⟨Nat.le_of_ble_eq_true rfl, Nat.le_of_ble_eq_true rfl⟩ rfl (Nat.le_of_ble_eq_true rfl) ⟨Nat.zero_le _, Nat.zero_le _⟩ dX2_soothed_2 (fun H locs hw => ?_)
  refine zk_ifnz (pc := 5) (tgt := 13) hx hb dX2_soothed_5 (by decide) (fun q2 => ?_) (fun q2 => ?_)
  · replace hf := if_t q2 hf
    refine lv_aload_n (pc := 13) hx hb dX2_soothed_13 rfl (lv_at hl 2 rfl) ?_
    refine zk_gt (pc := 14) C hw zl_X2_42 5 rfl rfl dX2_soothed_14 ?_
    refine lv_aload_n (pc := 17) hx hb dX2_soothed_17 rfl (lv_at hl 0 rfl) ?_
    refine zk_gt (pc := 18) C hw zl_X2_15 0 rfl rfl dX2_soothed_18 ?_
    refine lv_iload_n (pc := 21) hx hb dX2_soothed_21 rfl (lv_at hl 1 rfl) ?_
    obtain ⟨q3, hf⟩ := ck hf
    refine zk_iald (pc := 22) C hw 1 rfl q3 dX2_soothed_22 ?_
    refine lv_aload_n (pc := 23) hx hb dX2_soothed_23 rfl (lv_at hl 0 rfl) ?_
    refine zk_gt (pc := 24) C hw zl_X2_19 0 rfl rfl dX2_soothed_24 ?_
    refine lv_iload_n (pc := 27) hx hb dX2_soothed_27 rfl (lv_at hl 1 rfl) ?_
    obtain ⟨q4, hf⟩ := ck hf
    refine zk_iald (pc := 28) C hw 2 rfl q4 dX2_soothed_28 ?_
    refine lv_aload_n (pc := 29) hx hb dX2_soothed_29 rfl (lv_at hl 2 rfl) ?_
    obtain ⟨u5, u5e, hf⟩ := bd hf
    refine zk_cS (pc := 30) (rest := [.int b_p2.1]) (st1 := [.int u5, .int b_p2.1]) (w' := [xSt a0 a1 a2 a3 a4 b_this.1, xI cy a1 8 b_this.2.1, xI cy a2 8 b_this.2.2.1, xI cy a3 8 b_this.2.2.2.1, xI cy a4 8 b_this.2.2.2.2, xTe p2_0 b_p2]) (mk := [none, none, none, none, none, none]) C hw (c_X2_soothing l G cy tt p2_0 (((b_this.2.1 x1.toNatClampNeg))) (((b_this.2.2.1 x1.toNatClampNeg))) b_p2 _ u5e) zy_X2_soothing zm_X2_56 [5] rfl rfl rfl rfl rfl rfl rfl rfl hl.1 ⟨rfl, rfl⟩ ⟨Nat.le_of_ble_eq_true rfl, Nat.le_of_ble_eq_true rfl⟩ rfl (Nat.le_of_ble_eq_true rfl) ⟨Nat.zero_le _, Nat.zero_le _⟩ dX2_soothed_30 (fun H locs hw => ?_)
    refine lv_isub (pc := 33) hx hb dX2_soothed_33 ?_
    refine lv_istore_n (pc := 34) (lv' := [(3, .int ((b_p2.1 - u5))), (0, .ref a0), (1, .int x1), (2, .ref p2_0)]) hx hb dX2_soothed_34 rfl hl (by decide) rfl (fun ls hl => ?_)
    refine lv_iconst (pc := 35) (v := 0) hx hb dX2_soothed_35 (by decide) ?_
    refine lv_bipush (pc := 36) (v := 99) hx hb dX2_soothed_36 (by decide) ?_
    refine lv_iload_n (pc := 38) hx hb dX2_soothed_38 rfl (lv_at hl 0 rfl) ?_
    refine zk_min (pc := 39) C hl.1 zm_X2_60 ⟨Nat.le_of_ble_eq_true rfl, Nat.le_of_ble_eq_true rfl⟩ ⟨Nat.zero_le _, Nat.zero_le _⟩ dX2_soothed_39 ?_
    refine zk_max (pc := 42) C hl.1 zm_X2_66 ⟨Nat.le_of_ble_eq_true rfl, Nat.le_of_ble_eq_true rfl⟩ ⟨Nat.zero_le _, Nat.zero_le _⟩ dX2_soothed_42 ?_
    have hf := Option.some.inj hf
    subst hf
    exact zk_reti (pc := 45) (ww := [xSt a0 a1 a2 a3 a4 b_this.1, xI cy a1 8 b_this.2.1, xI cy a2 8 b_this.2.2.1, xI cy a3 8 b_this.2.2.2.1, xI cy a4 8 b_this.2.2.2.2, xTe p2_0 b_p2]) C hw hr hQ dX2_soothed_45
  · replace hf := if_f q2 hf
    refine lv_aload_n (pc := 8) hx hb dX2_soothed_8 rfl (lv_at hl 2 rfl) ?_
    refine zk_gt (pc := 9) C hw zl_X2_42 5 rfl rfl dX2_soothed_9 ?_
    have hf := Option.some.inj hf
    subst hf
    exact zk_reti (pc := 12) (ww := [xSt a0 a1 a2 a3 a4 b_this.1, xI cy a1 8 b_this.2.1, xI cy a2 8 b_this.2.2.1, xI cy a3 8 b_this.2.2.2.1, xI cy a4 8 b_this.2.2.2.2, xTe p2_0 b_p2]) C hw hr hQ dX2_soothed_12
def zf_X2_nerveOf (x1 : Int32) (b_this : TSt) : Option (Int32) := (Option.bind (zf_X2_has x1 b_this) (fun u1 => (if u1 then (if ix x1 8 then some ((b_this.2.2.2.1 x1.toNatClampNeg)) else none) else some ((0 : Int32)))))
abbrev zr_X2_nerveOf : Room := { frames := 1, cells := 0, slots := 0, locals := 21 }
set_option maxHeartbeats 4000000 in
set_option maxRecDepth 100000 in
theorem c_X2_nerveOf (l : Launch) (G : va_G) (cy : Nat → ClassId) (tt : Nat → Nat) (a0 a1 a2 a3 a4 : Nat) (x1 : Int32) (b_this : TSt) (res : Int32) (hf : zf_X2_nerveOf x1 b_this = some res) : zCT l yX2_nerveOf cX2_nerveOf 2 (some .int) zr_X2_nerveOf G cy tt [.ref a0, .int x1] [xSt a0 a1 a2 a3 a4 b_this.1, xI cy a1 8 b_this.2.1, xI cy a2 8 b_this.2.2.1, xI cy a3 8 b_this.2.2.2.1, xI cy a4 8 b_this.2.2.2.2] (some (.int res)) [xSt a0 a1 a2 a3 a4 b_this.1, xI cy a1 8 b_this.2.1, xI cy a2 8 b_this.2.2.1, xI cy a3 8 b_this.2.2.2.1, xI cy a4 8 b_this.2.2.2.2] := by
  refine zk_start zn_X2 (Nat.le_of_ble_eq_true rfl) ?_
  intro p e s m args below meth c A ls Q C hr hQ hw hl
  have C : zCx p m c s args meth cX2_nerveOf 2 RX2 G cy tt A := C
  have hx := C.1.1
  have hb := C.1.2.1
  have hl : lv_has ls 2 [(0, .ref a0), (1, .int x1)] := hl
  rw [zf_X2_nerveOf] at hf
  refine lv_aload_n (pc := 0) hx hb dX2_nerveOf_0 rfl (lv_at hl 0 rfl) ?_
  refine lv_iload_n (pc := 1) hx hb dX2_nerveOf_1 rfl (lv_at hl 1 rfl) ?_
  obtain ⟨u1, u1e, hf⟩ := bd hf
  refine zk_cV (pc := 2) (ci := 2) (q0 := 0) (rest := []) (st1 := [.int (bI u1)]) (w' := [xSt a0 a1 a2 a3 a4 b_this.1, xI cy a1 8 b_this.2.1, xI cy a2 8 b_this.2.2.1, xI cy a3 8 b_this.2.2.2.1, xI cy a4 8 b_this.2.2.2.2]) (mk := [none, none, none, none, none]) C hw (c_X2_has l G cy tt a0 a1 a2 a3 a4 x1 b_this _ u1e) zy_X2_has zm_X2_28 rfl rfl rfl [0, 1, 2, 3, 4] rfl rfl rfl rfl rfl rfl rfl rfl hl.1 ⟨rfl, rfl⟩ ⟨Nat.le_of_ble_eq_true rfl, Nat.le_of_ble_eq_true rfl⟩ rfl (Nat.le_of_ble_eq_true rfl) ⟨Nat.zero_le _, Nat.zero_le _⟩ dX2_nerveOf_2 (fun H locs hw => ?_)
  refine zk_ifz (pc := 5) (tgt := 17) hx hb dX2_nerveOf_5 (by decide) (fun q2 => ?_) (fun q2 => ?_)
  · replace hf := if_f q2 hf
    refine lv_iconst (pc := 17) (v := 0) hx hb dX2_nerveOf_17 (by decide) ?_
    have hf := Option.some.inj hf
    subst hf
    exact zk_reti (pc := 18) (ww := [xSt a0 a1 a2 a3 a4 b_this.1, xI cy a1 8 b_this.2.1, xI cy a2 8 b_this.2.2.1, xI cy a3 8 b_this.2.2.2.1, xI cy a4 8 b_this.2.2.2.2]) C hw hr hQ dX2_nerveOf_18
  · replace hf := if_t q2 hf
    refine lv_aload_n (pc := 8) hx hb dX2_nerveOf_8 rfl (lv_at hl 0 rfl) ?_
    refine zk_gt (pc := 9) C hw zl_X2_22 0 rfl rfl dX2_nerveOf_9 ?_
    refine lv_iload_n (pc := 12) hx hb dX2_nerveOf_12 rfl (lv_at hl 1 rfl) ?_
    obtain ⟨q3, hf⟩ := ck hf
    refine zk_iald (pc := 13) C hw 3 rfl q3 dX2_nerveOf_13 ?_
    refine lv_goto (pc := 14) (tgt := 18) hx hb dX2_nerveOf_14 (by decide) ?_
    have hf := Option.some.inj hf
    subst hf
    exact zk_reti (pc := 18) (ww := [xSt a0 a1 a2 a3 a4 b_this.1, xI cy a1 8 b_this.2.1, xI cy a2 8 b_this.2.2.1, xI cy a3 8 b_this.2.2.2.1, xI cy a4 8 b_this.2.2.2.2]) C hw hr hQ dX2_nerveOf_18
def zf_X7_says_16 (b_now : TTe) (b_staff : TSt) (b_shelves : TSh) (b_refusals : Nat → Int32) : Option (Int32 × (Nat → Int32)) := (Option.bind (zf_X7_refused (((-2 : Int32))) b_refusals) (fun u19 => some (u19.1, u19.2)))
def zf_X7_says (x1 : Int32) (x2 : Int32) (b_now : TTe) (b_staff : TSt) (b_shelves : TSh) (b_refusals : Nat → Int32) : Option (Int32 × (Nat → Int32)) := (Option.bind (zf_X7_isShelf x1) (fun u1 => (if u1 then (Option.bind (zf_X7_isWithin x2 (((0 : Int32))) (((5 : Int32)))) (fun u3 => (if u3 then (Option.bind (zf_X1_holdsRow x1 b_shelves) (fun u5 => (if u5 then (Option.bind (zf_X7_refused (((-3 : Int32))) b_refusals) (fun u18 => some (u18.1, u18.2))) else (Option.bind (zf_X1_holdsKeeper x1 b_shelves) (fun u7 => (if u7 then (Option.bind (zf_X1_contentOf x1 b_shelves) (fun u9 => (Option.bind (zf_X2_kindOf (((u9 - (10 : Int32)))) b_staff) (fun u10 => (Option.bind (zf_X7_isUnder u10 x2) (fun u11 => (if u11 then (if x2 = 0 then (Option.bind (zf_X2_nerveOf (((u9 - (10 : Int32)))) b_staff) (fun u15 => some (u15, b_refusals))) else (Option.bind (zf_X2_soothed (((u9 - (10 : Int32)))) b_staff b_now) (fun u14 => some (u14, b_refusals)))) else (Option.bind (zf_X7_refused (((-3 : Int32))) b_refusals) (fun u16 => some (u16.1, u16.2)))))))))) else (Option.bind (zf_X7_refused (((-4 : Int32))) b_refusals) (fun u17 => some (u17.1, u17.2))))))))) else zf_X7_says_16 b_now b_staff b_shelves b_refusals))) else zf_X7_says_16 b_now b_staff b_shelves b_refusals)))
abbrev zr_X7_says : Room := { frames := 2, cells := 0, slots := 0, locals := 46 }
set_option maxHeartbeats 4000000 in
set_option maxRecDepth 100000 in
theorem c_X7_says (l : Launch) (G : va_G) (cy : Nat → ClassId) (tt : Nat → Nat) (L : Nat → Nat) (b_seedNow : Int32) (b_keptSeed : Int32) (b_isKept : Bool) (x1 : Int32) (x2 : Int32) (b_now : TTe) (b_staff : TSt) (b_shelves : TSh) (b_refusals : Nat → Int32) (res : Int32 × (Nat → Int32)) (hf : zf_X7_says x1 x2 b_now b_staff b_shelves b_refusals = some res) : zCT l yX7_says cX7_says 4 (some .int) zr_X7_says G cy tt [.ref ((L 0)), .int x1, .int x2] [xU L b_seedNow b_keptSeed b_isKept, xTe ((L 1)) b_now, xSt ((L 5)) ((L 6)) ((L 7)) ((L 8)) ((L 9)) b_staff.1, xI cy ((L 6)) 8 b_staff.2.1, xI cy ((L 7)) 8 b_staff.2.2.1, xI cy ((L 8)) 8 b_staff.2.2.2.1, xI cy ((L 9)) 8 b_staff.2.2.2.2, xSh ((L 20)) ((L 21)) ((L 22)) ((L 23)), xI cy ((L 21)) 8 b_shelves.1, xI cy ((L 22)) 8 b_shelves.2.1, xRJ cy ((L 23)) 8 (fun j => [some ((L 24)), some ((L 25)), some ((L 26)), some ((L 27)), some ((L 28)), some ((L 29)), some ((L 30)), some ((L 31))].getD j none), xJ cy ((L 24)) 40 ((b_shelves.2.2 0)), xJ cy ((L 25)) 40 ((b_shelves.2.2 1)), xJ cy ((L 26)) 40 ((b_shelves.2.2 2)), xJ cy ((L 27)) 40 ((b_shelves.2.2 3)), xJ cy ((L 28)) 40 ((b_shelves.2.2 4)), xJ cy ((L 29)) 40 ((b_shelves.2.2 5)), xJ cy ((L 30)) 40 ((b_shelves.2.2 6)), xJ cy ((L 31)) 40 ((b_shelves.2.2 7)), xI cy ((L 48)) 5 b_refusals] (some (.int res.1)) [xU L b_seedNow b_keptSeed b_isKept, xTe ((L 1)) b_now, xSt ((L 5)) ((L 6)) ((L 7)) ((L 8)) ((L 9)) b_staff.1, xI cy ((L 6)) 8 b_staff.2.1, xI cy ((L 7)) 8 b_staff.2.2.1, xI cy ((L 8)) 8 b_staff.2.2.2.1, xI cy ((L 9)) 8 b_staff.2.2.2.2, xSh ((L 20)) ((L 21)) ((L 22)) ((L 23)), xI cy ((L 21)) 8 b_shelves.1, xI cy ((L 22)) 8 b_shelves.2.1, xRJ cy ((L 23)) 8 (fun j => [some ((L 24)), some ((L 25)), some ((L 26)), some ((L 27)), some ((L 28)), some ((L 29)), some ((L 30)), some ((L 31))].getD j none), xJ cy ((L 24)) 40 ((b_shelves.2.2 0)), xJ cy ((L 25)) 40 ((b_shelves.2.2 1)), xJ cy ((L 26)) 40 ((b_shelves.2.2 2)), xJ cy ((L 27)) 40 ((b_shelves.2.2 3)), xJ cy ((L 28)) 40 ((b_shelves.2.2 4)), xJ cy ((L 29)) 40 ((b_shelves.2.2 5)), xJ cy ((L 30)) 40 ((b_shelves.2.2 6)), xJ cy ((L 31)) 40 ((b_shelves.2.2 7)), xI cy ((L 48)) 5 res.2] := by
  refine zk_start zn_X7 (Nat.le_of_ble_eq_true rfl) ?_
  intro p e s m args below meth c A ls Q C hr hQ hw hl
  have C : zCx p m c s args meth cX7_says 4 RX7 G cy tt A := C
  have hx := C.1.1
  have hb := C.1.2.1
  have hl : lv_has ls 4 [(0, .ref ((L 0))), (1, .int x1), (2, .int x2)] := hl
  have J16 : ∀ (b_refusals : Nat → Int32) (H : Heap) (locs : List Loc) (ls : Array Slot), zf_X7_says_16 b_now b_staff b_shelves b_refusals = some res → zWd G A s.heap H locs [xU L b_seedNow b_keptSeed b_isKept, xTe ((L 1)) b_now, xSt ((L 5)) ((L 6)) ((L 7)) ((L 8)) ((L 9)) b_staff.1, xI cy ((L 6)) 8 b_staff.2.1, xI cy ((L 7)) 8 b_staff.2.2.1, xI cy ((L 8)) 8 b_staff.2.2.2.1, xI cy ((L 9)) 8 b_staff.2.2.2.2, xSh ((L 20)) ((L 21)) ((L 22)) ((L 23)), xI cy ((L 21)) 8 b_shelves.1, xI cy ((L 22)) 8 b_shelves.2.1, xRJ cy ((L 23)) 8 (fun j => [some ((L 24)), some ((L 25)), some ((L 26)), some ((L 27)), some ((L 28)), some ((L 29)), some ((L 30)), some ((L 31))].getD j none), xJ cy ((L 24)) 40 ((b_shelves.2.2 0)), xJ cy ((L 25)) 40 ((b_shelves.2.2 1)), xJ cy ((L 26)) 40 ((b_shelves.2.2 2)), xJ cy ((L 27)) 40 ((b_shelves.2.2 3)), xJ cy ((L 28)) 40 ((b_shelves.2.2 4)), xJ cy ((L 29)) 40 ((b_shelves.2.2 5)), xJ cy ((L 30)) 40 ((b_shelves.2.2 6)), xJ cy ((L 31)) 40 ((b_shelves.2.2 7)), xI cy ((L 48)) 5 b_refusals] → lv_has ls 4 [(0, .ref ((L 0)))] → W p l e zr_X7_says s m args below meth c H locs 0 0 Q (F0 m 16 ls []) := by
    intro b_refusals H locs ls hf hw hl
    rw [zf_X7_says_16] at hf
    refine lv_aload_n (pc := 16) hx hb dX7_says_16 rfl (lv_at hl 0 rfl) ?_
    refine lv_bipush (pc := 17) (v := -2) hx hb dX7_says_17 (by decide) ?_
    obtain ⟨u19, u19e, hf⟩ := bd hf
    refine zk_cV (pc := 19) (ci := 7) (q0 := 0) (rest := []) (st1 := [.int u19.1]) (w' := [xU L b_seedNow b_keptSeed b_isKept, xTe ((L 1)) b_now, xSt ((L 5)) ((L 6)) ((L 7)) ((L 8)) ((L 9)) b_staff.1, xI cy ((L 6)) 8 b_staff.2.1, xI cy ((L 7)) 8 b_staff.2.2.1, xI cy ((L 8)) 8 b_staff.2.2.2.1, xI cy ((L 9)) 8 b_staff.2.2.2.2, xSh ((L 20)) ((L 21)) ((L 22)) ((L 23)), xI cy ((L 21)) 8 b_shelves.1, xI cy ((L 22)) 8 b_shelves.2.1, xRJ cy ((L 23)) 8 (fun j => [some ((L 24)), some ((L 25)), some ((L 26)), some ((L 27)), some ((L 28)), some ((L 29)), some ((L 30)), some ((L 31))].getD j none), xJ cy ((L 24)) 40 ((b_shelves.2.2 0)), xJ cy ((L 25)) 40 ((b_shelves.2.2 1)), xJ cy ((L 26)) 40 ((b_shelves.2.2 2)), xJ cy ((L 27)) 40 ((b_shelves.2.2 3)), xJ cy ((L 28)) 40 ((b_shelves.2.2 4)), xJ cy ((L 29)) 40 ((b_shelves.2.2 5)), xJ cy ((L 30)) 40 ((b_shelves.2.2 6)), xJ cy ((L 31)) 40 ((b_shelves.2.2 7)), xI cy ((L 48)) 5 u19.2]) (mk := [none, none, none, none, none, none, none, none, none, none, none, none, none, none, none, none, none, none, none, some (xI cy ((L 48)) 5 u19.2)]) C hw (c_X7_refused l G cy tt L b_seedNow b_keptSeed b_isKept (((-2 : Int32))) b_refusals _ u19e) zy_X7_refused zm_X7_103 rfl rfl rfl [0, 19] rfl rfl rfl rfl rfl rfl rfl rfl hl.1 ⟨rfl, rfl⟩ ⟨Nat.le_of_ble_eq_true rfl, Nat.le_of_ble_eq_true rfl⟩ rfl (Nat.le_of_ble_eq_true rfl) ⟨Nat.zero_le _, Nat.zero_le _⟩ dX7_says_19 (fun H locs hw => ?_)
    have hf := Option.some.inj hf
    subst hf
    exact zk_reti (pc := 22) (ww := [xU L b_seedNow b_keptSeed b_isKept, xTe ((L 1)) b_now, xSt ((L 5)) ((L 6)) ((L 7)) ((L 8)) ((L 9)) b_staff.1, xI cy ((L 6)) 8 b_staff.2.1, xI cy ((L 7)) 8 b_staff.2.2.1, xI cy ((L 8)) 8 b_staff.2.2.2.1, xI cy ((L 9)) 8 b_staff.2.2.2.2, xSh ((L 20)) ((L 21)) ((L 22)) ((L 23)), xI cy ((L 21)) 8 b_shelves.1, xI cy ((L 22)) 8 b_shelves.2.1, xRJ cy ((L 23)) 8 (fun j => [some ((L 24)), some ((L 25)), some ((L 26)), some ((L 27)), some ((L 28)), some ((L 29)), some ((L 30)), some ((L 31))].getD j none), xJ cy ((L 24)) 40 ((b_shelves.2.2 0)), xJ cy ((L 25)) 40 ((b_shelves.2.2 1)), xJ cy ((L 26)) 40 ((b_shelves.2.2 2)), xJ cy ((L 27)) 40 ((b_shelves.2.2 3)), xJ cy ((L 28)) 40 ((b_shelves.2.2 4)), xJ cy ((L 29)) 40 ((b_shelves.2.2 5)), xJ cy ((L 30)) 40 ((b_shelves.2.2 6)), xJ cy ((L 31)) 40 ((b_shelves.2.2 7)), xI cy ((L 48)) 5 u19.2]) C hw hr hQ dX7_says_22
  rw [zf_X7_says] at hf
  refine lv_iload_n (pc := 0) hx hb dX7_says_0 rfl (lv_at hl 1 rfl) ?_
  obtain ⟨u1, u1e, hf⟩ := bd hf
  refine zk_cS (pc := 1) (rest := []) (st1 := [.int (bI u1)]) (w' := [xU L b_seedNow b_keptSeed b_isKept, xTe ((L 1)) b_now, xSt ((L 5)) ((L 6)) ((L 7)) ((L 8)) ((L 9)) b_staff.1, xI cy ((L 6)) 8 b_staff.2.1, xI cy ((L 7)) 8 b_staff.2.2.1, xI cy ((L 8)) 8 b_staff.2.2.2.1, xI cy ((L 9)) 8 b_staff.2.2.2.2, xSh ((L 20)) ((L 21)) ((L 22)) ((L 23)), xI cy ((L 21)) 8 b_shelves.1, xI cy ((L 22)) 8 b_shelves.2.1, xRJ cy ((L 23)) 8 (fun j => [some ((L 24)), some ((L 25)), some ((L 26)), some ((L 27)), some ((L 28)), some ((L 29)), some ((L 30)), some ((L 31))].getD j none), xJ cy ((L 24)) 40 ((b_shelves.2.2 0)), xJ cy ((L 25)) 40 ((b_shelves.2.2 1)), xJ cy ((L 26)) 40 ((b_shelves.2.2 2)), xJ cy ((L 27)) 40 ((b_shelves.2.2 3)), xJ cy ((L 28)) 40 ((b_shelves.2.2 4)), xJ cy ((L 29)) 40 ((b_shelves.2.2 5)), xJ cy ((L 30)) 40 ((b_shelves.2.2 6)), xJ cy ((L 31)) 40 ((b_shelves.2.2 7)), xI cy ((L 48)) 5 b_refusals]) (mk := [none, none, none, none, none, none, none, none, none, none, none, none, none, none, none, none, none, none, none, none]) C hw (c_X7_isShelf l G cy tt x1 _ u1e) zy_X7_isShelf zm_X7_95 [] rfl rfl rfl rfl rfl rfl rfl rfl hl.1 ⟨rfl, rfl⟩ ⟨Nat.le_of_ble_eq_true rfl, Nat.le_of_ble_eq_true rfl⟩ rfl (Nat.le_of_ble_eq_true rfl) ⟨Nat.zero_le _, Nat.zero_le _⟩ dX7_says_1 (fun H locs hw => ?_)
  refine zk_ifz (pc := 4) (tgt := 16) hx hb dX7_says_4 (by decide) (fun q2 => ?_) (fun q2 => ?_)
  · replace hf := if_f q2 hf
    exact J16 b_refusals _ _ _ hf hw (lv_sub hl [0] rfl)
  · replace hf := if_t q2 hf
    refine lv_iload_n (pc := 7) hx hb dX7_says_7 rfl (lv_at hl 2 rfl) ?_
    refine lv_iconst (pc := 8) (v := 0) hx hb dX7_says_8 (by decide) ?_
    refine lv_iconst (pc := 9) (v := 5) hx hb dX7_says_9 (by decide) ?_
    obtain ⟨u3, u3e, hf⟩ := bd hf
    refine zk_cS (pc := 10) (rest := []) (st1 := [.int (bI u3)]) (w' := [xU L b_seedNow b_keptSeed b_isKept, xTe ((L 1)) b_now, xSt ((L 5)) ((L 6)) ((L 7)) ((L 8)) ((L 9)) b_staff.1, xI cy ((L 6)) 8 b_staff.2.1, xI cy ((L 7)) 8 b_staff.2.2.1, xI cy ((L 8)) 8 b_staff.2.2.2.1, xI cy ((L 9)) 8 b_staff.2.2.2.2, xSh ((L 20)) ((L 21)) ((L 22)) ((L 23)), xI cy ((L 21)) 8 b_shelves.1, xI cy ((L 22)) 8 b_shelves.2.1, xRJ cy ((L 23)) 8 (fun j => [some ((L 24)), some ((L 25)), some ((L 26)), some ((L 27)), some ((L 28)), some ((L 29)), some ((L 30)), some ((L 31))].getD j none), xJ cy ((L 24)) 40 ((b_shelves.2.2 0)), xJ cy ((L 25)) 40 ((b_shelves.2.2 1)), xJ cy ((L 26)) 40 ((b_shelves.2.2 2)), xJ cy ((L 27)) 40 ((b_shelves.2.2 3)), xJ cy ((L 28)) 40 ((b_shelves.2.2 4)), xJ cy ((L 29)) 40 ((b_shelves.2.2 5)), xJ cy ((L 30)) 40 ((b_shelves.2.2 6)), xJ cy ((L 31)) 40 ((b_shelves.2.2 7)), xI cy ((L 48)) 5 b_refusals]) (mk := [none, none, none, none, none, none, none, none, none, none, none, none, none, none, none, none, none, none, none, none]) C hw (c_X7_isWithin l G cy tt x2 (((0 : Int32))) (((5 : Int32))) _ u3e) zy_X7_isWithin zm_X7_99 [] rfl rfl rfl rfl rfl rfl rfl rfl hl.1 ⟨rfl, rfl⟩ ⟨Nat.le_of_ble_eq_true rfl, Nat.le_of_ble_eq_true rfl⟩ rfl (Nat.le_of_ble_eq_true rfl) ⟨Nat.zero_le _, Nat.zero_le _⟩ dX7_says_10 (fun H locs hw => ?_)
    refine zk_ifnz (pc := 13) (tgt := 23) hx hb dX7_says_13 (by decide) (fun q4 => ?_) (fun q4 => ?_)
    · replace hf := if_t q4 hf
      refine lv_aload_n (pc := 23) hx hb dX7_says_23 rfl (lv_at hl 0 rfl) ?_
      refine zk_gt (pc := 24) C hw zl_X7_41 0 rfl rfl dX7_says_24 ?_
      refine lv_iload_n (pc := 27) hx hb dX7_says_27 rfl (lv_at hl 1 rfl) ?_
      obtain ⟨u5, u5e, hf⟩ := bd hf
      refine zk_cV (pc := 28) (ci := 1) (q0 := 7) (rest := []) (st1 := [.int (bI u5)]) (w' := [xU L b_seedNow b_keptSeed b_isKept, xTe ((L 1)) b_now, xSt ((L 5)) ((L 6)) ((L 7)) ((L 8)) ((L 9)) b_staff.1, xI cy ((L 6)) 8 b_staff.2.1, xI cy ((L 7)) 8 b_staff.2.2.1, xI cy ((L 8)) 8 b_staff.2.2.2.1, xI cy ((L 9)) 8 b_staff.2.2.2.2, xSh ((L 20)) ((L 21)) ((L 22)) ((L 23)), xI cy ((L 21)) 8 b_shelves.1, xI cy ((L 22)) 8 b_shelves.2.1, xRJ cy ((L 23)) 8 (fun j => [some ((L 24)), some ((L 25)), some ((L 26)), some ((L 27)), some ((L 28)), some ((L 29)), some ((L 30)), some ((L 31))].getD j none), xJ cy ((L 24)) 40 ((b_shelves.2.2 0)), xJ cy ((L 25)) 40 ((b_shelves.2.2 1)), xJ cy ((L 26)) 40 ((b_shelves.2.2 2)), xJ cy ((L 27)) 40 ((b_shelves.2.2 3)), xJ cy ((L 28)) 40 ((b_shelves.2.2 4)), xJ cy ((L 29)) 40 ((b_shelves.2.2 5)), xJ cy ((L 30)) 40 ((b_shelves.2.2 6)), xJ cy ((L 31)) 40 ((b_shelves.2.2 7)), xI cy ((L 48)) 5 b_refusals]) (mk := [none, none, none, none, none, none, none, none, none, none, none, none, none, none, none, none, none, none, none, none]) C hw (c_X1_holdsRow l G cy tt ((L 20)) ((L 21)) ((L 22)) ((L 23)) ((L 24)) ((L 25)) ((L 26)) ((L 27)) ((L 28)) ((L 29)) ((L 30)) ((L 31)) x1 b_shelves _ u5e) zy_X1_holdsRow zm_X7_129 rfl rfl rfl [7, 8, 9, 10, 11, 12, 13, 14, 15, 16, 17, 18] rfl rfl rfl rfl rfl rfl rfl rfl hl.1 ⟨rfl, rfl⟩ ⟨Nat.le_of_ble_eq_true rfl, Nat.le_of_ble_eq_true rfl⟩ rfl (Nat.le_of_ble_eq_true rfl) ⟨Nat.zero_le _, Nat.zero_le _⟩ dX7_says_28 (fun H locs hw => ?_)
      refine zk_ifz (pc := 31) (tgt := 41) hx hb dX7_says_31 (by decide) (fun q6 => ?_) (fun q6 => ?_)
      · replace hf := if_f q6 hf
        refine lv_aload_n (pc := 41) hx hb dX7_says_41 rfl (lv_at hl 0 rfl) ?_
        refine zk_gt (pc := 42) C hw zl_X7_41 0 rfl rfl dX7_says_42 ?_
        refine lv_iload_n (pc := 45) hx hb dX7_says_45 rfl (lv_at hl 1 rfl) ?_
        obtain ⟨u7, u7e, hf⟩ := bd hf
        refine zk_cV (pc := 46) (ci := 1) (q0 := 7) (rest := []) (st1 := [.int (bI u7)]) (w' := [xU L b_seedNow b_keptSeed b_isKept, xTe ((L 1)) b_now, xSt ((L 5)) ((L 6)) ((L 7)) ((L 8)) ((L 9)) b_staff.1, xI cy ((L 6)) 8 b_staff.2.1, xI cy ((L 7)) 8 b_staff.2.2.1, xI cy ((L 8)) 8 b_staff.2.2.2.1, xI cy ((L 9)) 8 b_staff.2.2.2.2, xSh ((L 20)) ((L 21)) ((L 22)) ((L 23)), xI cy ((L 21)) 8 b_shelves.1, xI cy ((L 22)) 8 b_shelves.2.1, xRJ cy ((L 23)) 8 (fun j => [some ((L 24)), some ((L 25)), some ((L 26)), some ((L 27)), some ((L 28)), some ((L 29)), some ((L 30)), some ((L 31))].getD j none), xJ cy ((L 24)) 40 ((b_shelves.2.2 0)), xJ cy ((L 25)) 40 ((b_shelves.2.2 1)), xJ cy ((L 26)) 40 ((b_shelves.2.2 2)), xJ cy ((L 27)) 40 ((b_shelves.2.2 3)), xJ cy ((L 28)) 40 ((b_shelves.2.2 4)), xJ cy ((L 29)) 40 ((b_shelves.2.2 5)), xJ cy ((L 30)) 40 ((b_shelves.2.2 6)), xJ cy ((L 31)) 40 ((b_shelves.2.2 7)), xI cy ((L 48)) 5 b_refusals]) (mk := [none, none, none, none, none, none, none, none, none, none, none, none, none, none, none, none, none, none, none, none]) C hw (c_X1_holdsKeeper l G cy tt ((L 20)) ((L 21)) ((L 22)) ((L 23)) ((L 24)) ((L 25)) ((L 26)) ((L 27)) ((L 28)) ((L 29)) ((L 30)) ((L 31)) x1 b_shelves _ u7e) zy_X1_holdsKeeper zm_X7_123 rfl rfl rfl [7, 8, 9, 10, 11, 12, 13, 14, 15, 16, 17, 18] rfl rfl rfl rfl rfl rfl rfl rfl hl.1 ⟨rfl, rfl⟩ ⟨Nat.le_of_ble_eq_true rfl, Nat.le_of_ble_eq_true rfl⟩ rfl (Nat.le_of_ble_eq_true rfl) ⟨Nat.zero_le _, Nat.zero_le _⟩ dX7_says_46 (fun H locs hw => ?_)
        refine zk_ifnz (pc := 49) (tgt := 59) hx hb dX7_says_49 (by decide) (fun q8 => ?_) (fun q8 => ?_)
        · replace hf := if_t q8 hf
          refine lv_aload_n (pc := 59) hx hb dX7_says_59 rfl (lv_at hl 0 rfl) ?_
          refine zk_gt (pc := 60) C hw zl_X7_41 0 rfl rfl dX7_says_60 ?_
          refine lv_iload_n (pc := 63) hx hb dX7_says_63 rfl (lv_at hl 1 rfl) ?_
          obtain ⟨u9, u9e, hf⟩ := bd hf
          refine zk_cV (pc := 64) (ci := 1) (q0 := 7) (rest := []) (st1 := [.int u9]) (w' := [xU L b_seedNow b_keptSeed b_isKept, xTe ((L 1)) b_now, xSt ((L 5)) ((L 6)) ((L 7)) ((L 8)) ((L 9)) b_staff.1, xI cy ((L 6)) 8 b_staff.2.1, xI cy ((L 7)) 8 b_staff.2.2.1, xI cy ((L 8)) 8 b_staff.2.2.2.1, xI cy ((L 9)) 8 b_staff.2.2.2.2, xSh ((L 20)) ((L 21)) ((L 22)) ((L 23)), xI cy ((L 21)) 8 b_shelves.1, xI cy ((L 22)) 8 b_shelves.2.1, xRJ cy ((L 23)) 8 (fun j => [some ((L 24)), some ((L 25)), some ((L 26)), some ((L 27)), some ((L 28)), some ((L 29)), some ((L 30)), some ((L 31))].getD j none), xJ cy ((L 24)) 40 ((b_shelves.2.2 0)), xJ cy ((L 25)) 40 ((b_shelves.2.2 1)), xJ cy ((L 26)) 40 ((b_shelves.2.2 2)), xJ cy ((L 27)) 40 ((b_shelves.2.2 3)), xJ cy ((L 28)) 40 ((b_shelves.2.2 4)), xJ cy ((L 29)) 40 ((b_shelves.2.2 5)), xJ cy ((L 30)) 40 ((b_shelves.2.2 6)), xJ cy ((L 31)) 40 ((b_shelves.2.2 7)), xI cy ((L 48)) 5 b_refusals]) (mk := [none, none, none, none, none, none, none, none, none, none, none, none, none, none, none, none, none, none, none, none]) C hw (c_X1_contentOf l G cy tt ((L 20)) ((L 21)) ((L 22)) ((L 23)) ((L 24)) ((L 25)) ((L 26)) ((L 27)) ((L 28)) ((L 29)) ((L 30)) ((L 31)) x1 b_shelves _ u9e) zy_X1_contentOf zm_X7_143 rfl rfl rfl [7, 8, 9, 10, 11, 12, 13, 14, 15, 16, 17, 18] rfl rfl rfl rfl rfl rfl rfl rfl hl.1 ⟨rfl, rfl⟩ ⟨Nat.le_of_ble_eq_true rfl, Nat.le_of_ble_eq_true rfl⟩ rfl (Nat.le_of_ble_eq_true rfl) ⟨Nat.zero_le _, Nat.zero_le _⟩ dX7_says_64 (fun H locs hw => ?_)
          refine lv_bipush (pc := 67) (v := 10) hx hb dX7_says_67 (by decide) ?_
          refine lv_isub (pc := 69) hx hb dX7_says_69 ?_
          refine lv_istore_n (pc := 70) (lv' := [(3, .int ((u9 - (10 : Int32)))), (0, .ref ((L 0))), (1, .int x1), (2, .int x2)]) hx hb dX7_says_70 rfl hl (by decide) rfl (fun ls hl => ?_)
          refine lv_aload_n (pc := 71) hx hb dX7_says_71 rfl (lv_at hl 1 rfl) ?_
          refine zk_gt (pc := 72) C hw zl_X7_28 0 rfl rfl dX7_says_72 ?_
          refine lv_iload_n (pc := 75) hx hb dX7_says_75 rfl (lv_at hl 0 rfl) ?_
          obtain ⟨u10, u10e, hf⟩ := bd hf
          refine zk_cV (pc := 76) (ci := 2) (q0 := 2) (rest := []) (st1 := [.int u10]) (w' := [xU L b_seedNow b_keptSeed b_isKept, xTe ((L 1)) b_now, xSt ((L 5)) ((L 6)) ((L 7)) ((L 8)) ((L 9)) b_staff.1, xI cy ((L 6)) 8 b_staff.2.1, xI cy ((L 7)) 8 b_staff.2.2.1, xI cy ((L 8)) 8 b_staff.2.2.2.1, xI cy ((L 9)) 8 b_staff.2.2.2.2, xSh ((L 20)) ((L 21)) ((L 22)) ((L 23)), xI cy ((L 21)) 8 b_shelves.1, xI cy ((L 22)) 8 b_shelves.2.1, xRJ cy ((L 23)) 8 (fun j => [some ((L 24)), some ((L 25)), some ((L 26)), some ((L 27)), some ((L 28)), some ((L 29)), some ((L 30)), some ((L 31))].getD j none), xJ cy ((L 24)) 40 ((b_shelves.2.2 0)), xJ cy ((L 25)) 40 ((b_shelves.2.2 1)), xJ cy ((L 26)) 40 ((b_shelves.2.2 2)), xJ cy ((L 27)) 40 ((b_shelves.2.2 3)), xJ cy ((L 28)) 40 ((b_shelves.2.2 4)), xJ cy ((L 29)) 40 ((b_shelves.2.2 5)), xJ cy ((L 30)) 40 ((b_shelves.2.2 6)), xJ cy ((L 31)) 40 ((b_shelves.2.2 7)), xI cy ((L 48)) 5 b_refusals]) (mk := [none, none, none, none, none, none, none, none, none, none, none, none, none, none, none, none, none, none, none, none]) C hw (c_X2_kindOf l G cy tt ((L 5)) ((L 6)) ((L 7)) ((L 8)) ((L 9)) (((u9 - (10 : Int32)))) b_staff _ u10e) zy_X2_kindOf zm_X7_153 rfl rfl rfl [2, 3, 4, 5, 6] rfl rfl rfl rfl rfl rfl rfl rfl hl.1 ⟨rfl, rfl⟩ ⟨Nat.le_of_ble_eq_true rfl, Nat.le_of_ble_eq_true rfl⟩ rfl (Nat.le_of_ble_eq_true rfl) ⟨Nat.zero_le _, Nat.zero_le _⟩ dX7_says_76 (fun H locs hw => ?_)
          refine lv_iload_n (pc := 79) hx hb dX7_says_79 rfl (lv_at hl 3 rfl) ?_
          obtain ⟨u11, u11e, hf⟩ := bd hf
          refine zk_cS (pc := 80) (rest := []) (st1 := [.int (bI u11)]) (w' := [xU L b_seedNow b_keptSeed b_isKept, xTe ((L 1)) b_now, xSt ((L 5)) ((L 6)) ((L 7)) ((L 8)) ((L 9)) b_staff.1, xI cy ((L 6)) 8 b_staff.2.1, xI cy ((L 7)) 8 b_staff.2.2.1, xI cy ((L 8)) 8 b_staff.2.2.2.1, xI cy ((L 9)) 8 b_staff.2.2.2.2, xSh ((L 20)) ((L 21)) ((L 22)) ((L 23)), xI cy ((L 21)) 8 b_shelves.1, xI cy ((L 22)) 8 b_shelves.2.1, xRJ cy ((L 23)) 8 (fun j => [some ((L 24)), some ((L 25)), some ((L 26)), some ((L 27)), some ((L 28)), some ((L 29)), some ((L 30)), some ((L 31))].getD j none), xJ cy ((L 24)) 40 ((b_shelves.2.2 0)), xJ cy ((L 25)) 40 ((b_shelves.2.2 1)), xJ cy ((L 26)) 40 ((b_shelves.2.2 2)), xJ cy ((L 27)) 40 ((b_shelves.2.2 3)), xJ cy ((L 28)) 40 ((b_shelves.2.2 4)), xJ cy ((L 29)) 40 ((b_shelves.2.2 5)), xJ cy ((L 30)) 40 ((b_shelves.2.2 6)), xJ cy ((L 31)) 40 ((b_shelves.2.2 7)), xI cy ((L 48)) 5 b_refusals]) (mk := [none, none, none, none, none, none, none, none, none, none, none, none, none, none, none, none, none, none, none, none]) C hw (c_X7_isUnder l G cy tt u10 x2 _ u11e) zy_X7_isUnder zm_X7_156 [] rfl rfl rfl rfl rfl rfl rfl rfl hl.1 ⟨rfl, rfl⟩ ⟨Nat.le_of_ble_eq_true rfl, Nat.le_of_ble_eq_true rfl⟩ rfl (Nat.le_of_ble_eq_true rfl) ⟨Nat.zero_le _, Nat.zero_le _⟩ dX7_says_80 (fun H locs hw => ?_)
          refine zk_ifnz (pc := 83) (tgt := 93) hx hb dX7_says_83 (by decide) (fun q12 => ?_) (fun q12 => ?_)
          · replace hf := if_t q12 hf
            refine lv_iload_n (pc := 93) hx hb dX7_says_93 rfl (lv_at hl 3 rfl) ?_
            refine lv_if_ne (pc := 94) (tgt := 108) hx hb dX7_says_94 (by decide) (fun q13 => ?_) (fun q13 => ?_)
            · replace hf := if_f q13 hf
              refine lv_aload_n (pc := 108) hx hb dX7_says_108 rfl (lv_at hl 1 rfl) ?_
              refine zk_gt (pc := 109) C hw zl_X7_28 0 rfl rfl dX7_says_109 ?_
              refine lv_iload_n (pc := 112) hx hb dX7_says_112 rfl (lv_at hl 0 rfl) ?_
              refine lv_aload_n (pc := 113) hx hb dX7_says_113 rfl (lv_at hl 1 rfl) ?_
              refine zk_gt (pc := 114) C hw zl_X7_10 0 rfl rfl dX7_says_114 ?_
              obtain ⟨u14, u14e, hf⟩ := bd hf
              refine zk_cV (pc := 117) (ci := 2) (q0 := 2) (rest := []) (st1 := [.int u14]) (w' := [xU L b_seedNow b_keptSeed b_isKept, xTe ((L 1)) b_now, xSt ((L 5)) ((L 6)) ((L 7)) ((L 8)) ((L 9)) b_staff.1, xI cy ((L 6)) 8 b_staff.2.1, xI cy ((L 7)) 8 b_staff.2.2.1, xI cy ((L 8)) 8 b_staff.2.2.2.1, xI cy ((L 9)) 8 b_staff.2.2.2.2, xSh ((L 20)) ((L 21)) ((L 22)) ((L 23)), xI cy ((L 21)) 8 b_shelves.1, xI cy ((L 22)) 8 b_shelves.2.1, xRJ cy ((L 23)) 8 (fun j => [some ((L 24)), some ((L 25)), some ((L 26)), some ((L 27)), some ((L 28)), some ((L 29)), some ((L 30)), some ((L 31))].getD j none), xJ cy ((L 24)) 40 ((b_shelves.2.2 0)), xJ cy ((L 25)) 40 ((b_shelves.2.2 1)), xJ cy ((L 26)) 40 ((b_shelves.2.2 2)), xJ cy ((L 27)) 40 ((b_shelves.2.2 3)), xJ cy ((L 28)) 40 ((b_shelves.2.2 4)), xJ cy ((L 29)) 40 ((b_shelves.2.2 5)), xJ cy ((L 30)) 40 ((b_shelves.2.2 6)), xJ cy ((L 31)) 40 ((b_shelves.2.2 7)), xI cy ((L 48)) 5 b_refusals]) (mk := [none, none, none, none, none, none, none, none, none, none, none, none, none, none, none, none, none, none, none, none]) C hw (c_X2_soothed l G cy tt ((L 5)) ((L 6)) ((L 7)) ((L 8)) ((L 9)) ((L 1)) (((u9 - (10 : Int32)))) b_staff b_now _ u14e) zy_X2_soothed zm_X7_162 rfl rfl rfl [2, 3, 4, 5, 6, 1] rfl rfl rfl rfl rfl rfl rfl rfl hl.1 ⟨rfl, rfl⟩ ⟨Nat.le_of_ble_eq_true rfl, Nat.le_of_ble_eq_true rfl⟩ rfl (Nat.le_of_ble_eq_true rfl) ⟨Nat.zero_le _, Nat.zero_le _⟩ dX7_says_117 (fun H locs hw => ?_)
              have hf := Option.some.inj hf
              subst hf
              exact zk_reti (pc := 120) (ww := [xU L b_seedNow b_keptSeed b_isKept, xTe ((L 1)) b_now, xSt ((L 5)) ((L 6)) ((L 7)) ((L 8)) ((L 9)) b_staff.1, xI cy ((L 6)) 8 b_staff.2.1, xI cy ((L 7)) 8 b_staff.2.2.1, xI cy ((L 8)) 8 b_staff.2.2.2.1, xI cy ((L 9)) 8 b_staff.2.2.2.2, xSh ((L 20)) ((L 21)) ((L 22)) ((L 23)), xI cy ((L 21)) 8 b_shelves.1, xI cy ((L 22)) 8 b_shelves.2.1, xRJ cy ((L 23)) 8 (fun j => [some ((L 24)), some ((L 25)), some ((L 26)), some ((L 27)), some ((L 28)), some ((L 29)), some ((L 30)), some ((L 31))].getD j none), xJ cy ((L 24)) 40 ((b_shelves.2.2 0)), xJ cy ((L 25)) 40 ((b_shelves.2.2 1)), xJ cy ((L 26)) 40 ((b_shelves.2.2 2)), xJ cy ((L 27)) 40 ((b_shelves.2.2 3)), xJ cy ((L 28)) 40 ((b_shelves.2.2 4)), xJ cy ((L 29)) 40 ((b_shelves.2.2 5)), xJ cy ((L 30)) 40 ((b_shelves.2.2 6)), xJ cy ((L 31)) 40 ((b_shelves.2.2 7)), xI cy ((L 48)) 5 b_refusals]) C hw hr hQ dX7_says_120
            · replace hf := if_t q13 hf
              refine lv_aload_n (pc := 97) hx hb dX7_says_97 rfl (lv_at hl 1 rfl) ?_
              refine zk_gt (pc := 98) C hw zl_X7_28 0 rfl rfl dX7_says_98 ?_
              refine lv_iload_n (pc := 101) hx hb dX7_says_101 rfl (lv_at hl 0 rfl) ?_
              obtain ⟨u15, u15e, hf⟩ := bd hf
              refine zk_cV (pc := 102) (ci := 2) (q0 := 2) (rest := []) (st1 := [.int u15]) (w' := [xU L b_seedNow b_keptSeed b_isKept, xTe ((L 1)) b_now, xSt ((L 5)) ((L 6)) ((L 7)) ((L 8)) ((L 9)) b_staff.1, xI cy ((L 6)) 8 b_staff.2.1, xI cy ((L 7)) 8 b_staff.2.2.1, xI cy ((L 8)) 8 b_staff.2.2.2.1, xI cy ((L 9)) 8 b_staff.2.2.2.2, xSh ((L 20)) ((L 21)) ((L 22)) ((L 23)), xI cy ((L 21)) 8 b_shelves.1, xI cy ((L 22)) 8 b_shelves.2.1, xRJ cy ((L 23)) 8 (fun j => [some ((L 24)), some ((L 25)), some ((L 26)), some ((L 27)), some ((L 28)), some ((L 29)), some ((L 30)), some ((L 31))].getD j none), xJ cy ((L 24)) 40 ((b_shelves.2.2 0)), xJ cy ((L 25)) 40 ((b_shelves.2.2 1)), xJ cy ((L 26)) 40 ((b_shelves.2.2 2)), xJ cy ((L 27)) 40 ((b_shelves.2.2 3)), xJ cy ((L 28)) 40 ((b_shelves.2.2 4)), xJ cy ((L 29)) 40 ((b_shelves.2.2 5)), xJ cy ((L 30)) 40 ((b_shelves.2.2 6)), xJ cy ((L 31)) 40 ((b_shelves.2.2 7)), xI cy ((L 48)) 5 b_refusals]) (mk := [none, none, none, none, none, none, none, none, none, none, none, none, none, none, none, none, none, none, none, none]) C hw (c_X2_nerveOf l G cy tt ((L 5)) ((L 6)) ((L 7)) ((L 8)) ((L 9)) (((u9 - (10 : Int32)))) b_staff _ u15e) zy_X2_nerveOf zm_X7_159 rfl rfl rfl [2, 3, 4, 5, 6] rfl rfl rfl rfl rfl rfl rfl rfl hl.1 ⟨rfl, rfl⟩ ⟨Nat.le_of_ble_eq_true rfl, Nat.le_of_ble_eq_true rfl⟩ rfl (Nat.le_of_ble_eq_true rfl) ⟨Nat.zero_le _, Nat.zero_le _⟩ dX7_says_102 (fun H locs hw => ?_)
              refine lv_goto (pc := 105) (tgt := 120) hx hb dX7_says_105 (by decide) ?_
              have hf := Option.some.inj hf
              subst hf
              exact zk_reti (pc := 120) (ww := [xU L b_seedNow b_keptSeed b_isKept, xTe ((L 1)) b_now, xSt ((L 5)) ((L 6)) ((L 7)) ((L 8)) ((L 9)) b_staff.1, xI cy ((L 6)) 8 b_staff.2.1, xI cy ((L 7)) 8 b_staff.2.2.1, xI cy ((L 8)) 8 b_staff.2.2.2.1, xI cy ((L 9)) 8 b_staff.2.2.2.2, xSh ((L 20)) ((L 21)) ((L 22)) ((L 23)), xI cy ((L 21)) 8 b_shelves.1, xI cy ((L 22)) 8 b_shelves.2.1, xRJ cy ((L 23)) 8 (fun j => [some ((L 24)), some ((L 25)), some ((L 26)), some ((L 27)), some ((L 28)), some ((L 29)), some ((L 30)), some ((L 31))].getD j none), xJ cy ((L 24)) 40 ((b_shelves.2.2 0)), xJ cy ((L 25)) 40 ((b_shelves.2.2 1)), xJ cy ((L 26)) 40 ((b_shelves.2.2 2)), xJ cy ((L 27)) 40 ((b_shelves.2.2 3)), xJ cy ((L 28)) 40 ((b_shelves.2.2 4)), xJ cy ((L 29)) 40 ((b_shelves.2.2 5)), xJ cy ((L 30)) 40 ((b_shelves.2.2 6)), xJ cy ((L 31)) 40 ((b_shelves.2.2 7)), xI cy ((L 48)) 5 b_refusals]) C hw hr hQ dX7_says_120
          · replace hf := if_f q12 hf
            refine lv_aload_n (pc := 86) hx hb dX7_says_86 rfl (lv_at hl 1 rfl) ?_
            refine lv_bipush (pc := 87) (v := -3) hx hb dX7_says_87 (by decide) ?_
            obtain ⟨u16, u16e, hf⟩ := bd hf
            refine zk_cV (pc := 89) (ci := 7) (q0 := 0) (rest := []) (st1 := [.int u16.1]) (w' := [xU L b_seedNow b_keptSeed b_isKept, xTe ((L 1)) b_now, xSt ((L 5)) ((L 6)) ((L 7)) ((L 8)) ((L 9)) b_staff.1, xI cy ((L 6)) 8 b_staff.2.1, xI cy ((L 7)) 8 b_staff.2.2.1, xI cy ((L 8)) 8 b_staff.2.2.2.1, xI cy ((L 9)) 8 b_staff.2.2.2.2, xSh ((L 20)) ((L 21)) ((L 22)) ((L 23)), xI cy ((L 21)) 8 b_shelves.1, xI cy ((L 22)) 8 b_shelves.2.1, xRJ cy ((L 23)) 8 (fun j => [some ((L 24)), some ((L 25)), some ((L 26)), some ((L 27)), some ((L 28)), some ((L 29)), some ((L 30)), some ((L 31))].getD j none), xJ cy ((L 24)) 40 ((b_shelves.2.2 0)), xJ cy ((L 25)) 40 ((b_shelves.2.2 1)), xJ cy ((L 26)) 40 ((b_shelves.2.2 2)), xJ cy ((L 27)) 40 ((b_shelves.2.2 3)), xJ cy ((L 28)) 40 ((b_shelves.2.2 4)), xJ cy ((L 29)) 40 ((b_shelves.2.2 5)), xJ cy ((L 30)) 40 ((b_shelves.2.2 6)), xJ cy ((L 31)) 40 ((b_shelves.2.2 7)), xI cy ((L 48)) 5 u16.2]) (mk := [none, none, none, none, none, none, none, none, none, none, none, none, none, none, none, none, none, none, none, some (xI cy ((L 48)) 5 u16.2)]) C hw (c_X7_refused l G cy tt L b_seedNow b_keptSeed b_isKept (((-3 : Int32))) b_refusals _ u16e) zy_X7_refused zm_X7_103 rfl rfl rfl [0, 19] rfl rfl rfl rfl rfl rfl rfl rfl hl.1 ⟨rfl, rfl⟩ ⟨Nat.le_of_ble_eq_true rfl, Nat.le_of_ble_eq_true rfl⟩ rfl (Nat.le_of_ble_eq_true rfl) ⟨Nat.zero_le _, Nat.zero_le _⟩ dX7_says_89 (fun H locs hw => ?_)
            have hf := Option.some.inj hf
            subst hf
            exact zk_reti (pc := 92) (ww := [xU L b_seedNow b_keptSeed b_isKept, xTe ((L 1)) b_now, xSt ((L 5)) ((L 6)) ((L 7)) ((L 8)) ((L 9)) b_staff.1, xI cy ((L 6)) 8 b_staff.2.1, xI cy ((L 7)) 8 b_staff.2.2.1, xI cy ((L 8)) 8 b_staff.2.2.2.1, xI cy ((L 9)) 8 b_staff.2.2.2.2, xSh ((L 20)) ((L 21)) ((L 22)) ((L 23)), xI cy ((L 21)) 8 b_shelves.1, xI cy ((L 22)) 8 b_shelves.2.1, xRJ cy ((L 23)) 8 (fun j => [some ((L 24)), some ((L 25)), some ((L 26)), some ((L 27)), some ((L 28)), some ((L 29)), some ((L 30)), some ((L 31))].getD j none), xJ cy ((L 24)) 40 ((b_shelves.2.2 0)), xJ cy ((L 25)) 40 ((b_shelves.2.2 1)), xJ cy ((L 26)) 40 ((b_shelves.2.2 2)), xJ cy ((L 27)) 40 ((b_shelves.2.2 3)), xJ cy ((L 28)) 40 ((b_shelves.2.2 4)), xJ cy ((L 29)) 40 ((b_shelves.2.2 5)), xJ cy ((L 30)) 40 ((b_shelves.2.2 6)), xJ cy ((L 31)) 40 ((b_shelves.2.2 7)), xI cy ((L 48)) 5 u16.2]) C hw hr hQ dX7_says_92
        · replace hf := if_f q8 hf
          refine lv_aload_n (pc := 52) hx hb dX7_says_52 rfl (lv_at hl 0 rfl) ?_
          refine lv_bipush (pc := 53) (v := -4) hx hb dX7_says_53 (by decide) ?_
          obtain ⟨u17, u17e, hf⟩ := bd hf
          refine zk_cV (pc := 55) (ci := 7) (q0 := 0) (rest := []) (st1 := [.int u17.1]) (w' := [xU L b_seedNow b_keptSeed b_isKept, xTe ((L 1)) b_now, xSt ((L 5)) ((L 6)) ((L 7)) ((L 8)) ((L 9)) b_staff.1, xI cy ((L 6)) 8 b_staff.2.1, xI cy ((L 7)) 8 b_staff.2.2.1, xI cy ((L 8)) 8 b_staff.2.2.2.1, xI cy ((L 9)) 8 b_staff.2.2.2.2, xSh ((L 20)) ((L 21)) ((L 22)) ((L 23)), xI cy ((L 21)) 8 b_shelves.1, xI cy ((L 22)) 8 b_shelves.2.1, xRJ cy ((L 23)) 8 (fun j => [some ((L 24)), some ((L 25)), some ((L 26)), some ((L 27)), some ((L 28)), some ((L 29)), some ((L 30)), some ((L 31))].getD j none), xJ cy ((L 24)) 40 ((b_shelves.2.2 0)), xJ cy ((L 25)) 40 ((b_shelves.2.2 1)), xJ cy ((L 26)) 40 ((b_shelves.2.2 2)), xJ cy ((L 27)) 40 ((b_shelves.2.2 3)), xJ cy ((L 28)) 40 ((b_shelves.2.2 4)), xJ cy ((L 29)) 40 ((b_shelves.2.2 5)), xJ cy ((L 30)) 40 ((b_shelves.2.2 6)), xJ cy ((L 31)) 40 ((b_shelves.2.2 7)), xI cy ((L 48)) 5 u17.2]) (mk := [none, none, none, none, none, none, none, none, none, none, none, none, none, none, none, none, none, none, none, some (xI cy ((L 48)) 5 u17.2)]) C hw (c_X7_refused l G cy tt L b_seedNow b_keptSeed b_isKept (((-4 : Int32))) b_refusals _ u17e) zy_X7_refused zm_X7_103 rfl rfl rfl [0, 19] rfl rfl rfl rfl rfl rfl rfl rfl hl.1 ⟨rfl, rfl⟩ ⟨Nat.le_of_ble_eq_true rfl, Nat.le_of_ble_eq_true rfl⟩ rfl (Nat.le_of_ble_eq_true rfl) ⟨Nat.zero_le _, Nat.zero_le _⟩ dX7_says_55 (fun H locs hw => ?_)
          have hf := Option.some.inj hf
          subst hf
          exact zk_reti (pc := 58) (ww := [xU L b_seedNow b_keptSeed b_isKept, xTe ((L 1)) b_now, xSt ((L 5)) ((L 6)) ((L 7)) ((L 8)) ((L 9)) b_staff.1, xI cy ((L 6)) 8 b_staff.2.1, xI cy ((L 7)) 8 b_staff.2.2.1, xI cy ((L 8)) 8 b_staff.2.2.2.1, xI cy ((L 9)) 8 b_staff.2.2.2.2, xSh ((L 20)) ((L 21)) ((L 22)) ((L 23)), xI cy ((L 21)) 8 b_shelves.1, xI cy ((L 22)) 8 b_shelves.2.1, xRJ cy ((L 23)) 8 (fun j => [some ((L 24)), some ((L 25)), some ((L 26)), some ((L 27)), some ((L 28)), some ((L 29)), some ((L 30)), some ((L 31))].getD j none), xJ cy ((L 24)) 40 ((b_shelves.2.2 0)), xJ cy ((L 25)) 40 ((b_shelves.2.2 1)), xJ cy ((L 26)) 40 ((b_shelves.2.2 2)), xJ cy ((L 27)) 40 ((b_shelves.2.2 3)), xJ cy ((L 28)) 40 ((b_shelves.2.2 4)), xJ cy ((L 29)) 40 ((b_shelves.2.2 5)), xJ cy ((L 30)) 40 ((b_shelves.2.2 6)), xJ cy ((L 31)) 40 ((b_shelves.2.2 7)), xI cy ((L 48)) 5 u17.2]) C hw hr hQ dX7_says_58
      · replace hf := if_t q6 hf
        refine lv_aload_n (pc := 34) hx hb dX7_says_34 rfl (lv_at hl 0 rfl) ?_
        refine lv_bipush (pc := 35) (v := -3) hx hb dX7_says_35 (by decide) ?_
        obtain ⟨u18, u18e, hf⟩ := bd hf
        refine zk_cV (pc := 37) (ci := 7) (q0 := 0) (rest := []) (st1 := [.int u18.1]) (w' := [xU L b_seedNow b_keptSeed b_isKept, xTe ((L 1)) b_now, xSt ((L 5)) ((L 6)) ((L 7)) ((L 8)) ((L 9)) b_staff.1, xI cy ((L 6)) 8 b_staff.2.1, xI cy ((L 7)) 8 b_staff.2.2.1, xI cy ((L 8)) 8 b_staff.2.2.2.1, xI cy ((L 9)) 8 b_staff.2.2.2.2, xSh ((L 20)) ((L 21)) ((L 22)) ((L 23)), xI cy ((L 21)) 8 b_shelves.1, xI cy ((L 22)) 8 b_shelves.2.1, xRJ cy ((L 23)) 8 (fun j => [some ((L 24)), some ((L 25)), some ((L 26)), some ((L 27)), some ((L 28)), some ((L 29)), some ((L 30)), some ((L 31))].getD j none), xJ cy ((L 24)) 40 ((b_shelves.2.2 0)), xJ cy ((L 25)) 40 ((b_shelves.2.2 1)), xJ cy ((L 26)) 40 ((b_shelves.2.2 2)), xJ cy ((L 27)) 40 ((b_shelves.2.2 3)), xJ cy ((L 28)) 40 ((b_shelves.2.2 4)), xJ cy ((L 29)) 40 ((b_shelves.2.2 5)), xJ cy ((L 30)) 40 ((b_shelves.2.2 6)), xJ cy ((L 31)) 40 ((b_shelves.2.2 7)), xI cy ((L 48)) 5 u18.2]) (mk := [none, none, none, none, none, none, none, none, none, none, none, none, none, none, none, none, none, none, none, some (xI cy ((L 48)) 5 u18.2)]) C hw (c_X7_refused l G cy tt L b_seedNow b_keptSeed b_isKept (((-3 : Int32))) b_refusals _ u18e) zy_X7_refused zm_X7_103 rfl rfl rfl [0, 19] rfl rfl rfl rfl rfl rfl rfl rfl hl.1 ⟨rfl, rfl⟩ ⟨Nat.le_of_ble_eq_true rfl, Nat.le_of_ble_eq_true rfl⟩ rfl (Nat.le_of_ble_eq_true rfl) ⟨Nat.zero_le _, Nat.zero_le _⟩ dX7_says_37 (fun H locs hw => ?_)
        have hf := Option.some.inj hf
        subst hf
        exact zk_reti (pc := 40) (ww := [xU L b_seedNow b_keptSeed b_isKept, xTe ((L 1)) b_now, xSt ((L 5)) ((L 6)) ((L 7)) ((L 8)) ((L 9)) b_staff.1, xI cy ((L 6)) 8 b_staff.2.1, xI cy ((L 7)) 8 b_staff.2.2.1, xI cy ((L 8)) 8 b_staff.2.2.2.1, xI cy ((L 9)) 8 b_staff.2.2.2.2, xSh ((L 20)) ((L 21)) ((L 22)) ((L 23)), xI cy ((L 21)) 8 b_shelves.1, xI cy ((L 22)) 8 b_shelves.2.1, xRJ cy ((L 23)) 8 (fun j => [some ((L 24)), some ((L 25)), some ((L 26)), some ((L 27)), some ((L 28)), some ((L 29)), some ((L 30)), some ((L 31))].getD j none), xJ cy ((L 24)) 40 ((b_shelves.2.2 0)), xJ cy ((L 25)) 40 ((b_shelves.2.2 1)), xJ cy ((L 26)) 40 ((b_shelves.2.2 2)), xJ cy ((L 27)) 40 ((b_shelves.2.2 3)), xJ cy ((L 28)) 40 ((b_shelves.2.2 4)), xJ cy ((L 29)) 40 ((b_shelves.2.2 5)), xJ cy ((L 30)) 40 ((b_shelves.2.2 6)), xJ cy ((L 31)) 40 ((b_shelves.2.2 7)), xI cy ((L 48)) 5 u18.2]) C hw hr hQ dX7_says_40
    · replace hf := if_f q4 hf
      exact J16 b_refusals _ _ _ hf hw (lv_sub hl [0] rfl)
def zf_X2_isFull  (b_this : TSt) : Option (Bool) := (if b_this.1 < (8 : Int32) then some (false) else some (true))
abbrev zr_X2_isFull : Room := { frames := 0, cells := 0, slots := 0, locals := 0 }
set_option maxHeartbeats 4000000 in
set_option maxRecDepth 100000 in
theorem c_X2_isFull (l : Launch) (G : va_G) (cy : Nat → ClassId) (tt : Nat → Nat) (a0 a1 a2 a3 a4 : Nat)  (b_this : TSt) (res : Bool) (hf : zf_X2_isFull b_this = some res) : zCT l yX2_isFull cX2_isFull 1 (some .boolean) zr_X2_isFull G cy tt [.ref a0] [xSt a0 a1 a2 a3 a4 b_this.1, xI cy a1 8 b_this.2.1, xI cy a2 8 b_this.2.2.1, xI cy a3 8 b_this.2.2.2.1, xI cy a4 8 b_this.2.2.2.2] (some (.int (bI res))) [xSt a0 a1 a2 a3 a4 b_this.1, xI cy a1 8 b_this.2.1, xI cy a2 8 b_this.2.2.1, xI cy a3 8 b_this.2.2.2.1, xI cy a4 8 b_this.2.2.2.2] := by
  refine zk_start zn_X2 (Nat.le_of_ble_eq_true rfl) ?_
  intro p e s m args below meth c A ls Q C hr hQ hw hl
  have C : zCx p m c s args meth cX2_isFull 1 RX2 G cy tt A := C
  have hx := C.1.1
  have hb := C.1.2.1
  have hl : lv_has ls 1 [(0, .ref a0)] := hl
  rw [zf_X2_isFull] at hf
  refine lv_aload_n (pc := 0) hx hb dX2_isFull_0 rfl (lv_at hl 0 rfl) ?_
  refine zk_gt (pc := 1) C hw zl_X2_9 0 rfl rfl dX2_isFull_1 ?_
  refine lv_bipush (pc := 4) (v := 8) hx hb dX2_isFull_4 (by decide) ?_
  refine lv_icmp_lt (pc := 6) (tgt := 13) hx hb dX2_isFull_6 (by decide) (fun q1 => ?_) (fun q1 => ?_)
  · replace hf := if_t q1 hf
    refine lv_iconst (pc := 13) (v := 0) hx hb dX2_isFull_13 (by decide) ?_
    have hf := Option.some.inj hf
    subst hf
    exact zk_retz (pc := 14) (b := false) (ww := [xSt a0 a1 a2 a3 a4 b_this.1, xI cy a1 8 b_this.2.1, xI cy a2 8 b_this.2.2.1, xI cy a3 8 b_this.2.2.2.1, xI cy a4 8 b_this.2.2.2.2]) C hw hr hQ dX2_isFull_14
  · replace hf := if_f q1 hf
    refine lv_iconst (pc := 9) (v := 1) hx hb dX2_isFull_9 (by decide) ?_
    refine lv_goto (pc := 10) (tgt := 14) hx hb dX2_isFull_10 (by decide) ?_
    have hf := Option.some.inj hf
    subst hf
    exact zk_retz (pc := 14) (b := true) (ww := [xSt a0 a1 a2 a3 a4 b_this.1, xI cy a1 8 b_this.2.1, xI cy a2 8 b_this.2.2.1, xI cy a3 8 b_this.2.2.2.1, xI cy a4 8 b_this.2.2.2.2]) C hw hr hQ dX2_isFull_14
def zf_X2_add (x1 : Int32) (x2 : Int32) (x3 : Int32) (b_this : TSt) : Option (Int32 × TSt) := (if b_this.1 < 0 then some ((-1 : Int32), b_this) else (if b_this.1 < (8 : Int32) then (if ix b_this.1 8 then (if ix b_this.1 8 then (if ix b_this.1 8 then (if ix b_this.1 8 then some (((b_this.1 + (1 : Int32)) - (1 : Int32)), ((b_this.1 + (1 : Int32)), (upd b_this.2.1 b_this.1.toNatClampNeg x1), (upd b_this.2.2.1 b_this.1.toNatClampNeg x2), (upd b_this.2.2.2.1 b_this.1.toNatClampNeg x3), (upd b_this.2.2.2.2 b_this.1.toNatClampNeg ((0 : Int32))))) else none) else none) else none) else none) else some ((-1 : Int32), b_this)))
abbrev zr_X2_add : Room := { frames := 0, cells := 0, slots := 0, locals := 0 }
set_option maxHeartbeats 4000000 in
set_option maxRecDepth 100000 in
theorem c_X2_add (l : Launch) (G : va_G) (cy : Nat → ClassId) (tt : Nat → Nat) (a0 a1 a2 a3 a4 : Nat) (x1 : Int32) (x2 : Int32) (x3 : Int32) (b_this : TSt) (res : Int32 × TSt) (hf : zf_X2_add x1 x2 x3 b_this = some res) : zCT l yX2_add cX2_add 4 (some .int) zr_X2_add G cy tt [.ref a0, .int x1, .int x2, .int x3] [xSt a0 a1 a2 a3 a4 b_this.1, xI cy a1 8 b_this.2.1, xI cy a2 8 b_this.2.2.1, xI cy a3 8 b_this.2.2.2.1, xI cy a4 8 b_this.2.2.2.2] (some (.int res.1)) [xSt a0 a1 a2 a3 a4 res.2.1, xI cy a1 8 res.2.2.1, xI cy a2 8 res.2.2.2.1, xI cy a3 8 res.2.2.2.2.1, xI cy a4 8 res.2.2.2.2.2] := by
  refine zk_start zn_X2 (Nat.le_of_ble_eq_true rfl) ?_
  intro p e s m args below meth c A ls Q C hr hQ hw hl
  have C : zCx p m c s args meth cX2_add 4 RX2 G cy tt A := C
  have hx := C.1.1
  have hb := C.1.2.1
  have hl : lv_has ls 4 [(0, .ref a0), (1, .int x1), (2, .int x2), (3, .int x3)] := hl
  rw [zf_X2_add] at hf
  refine lv_aload_n (pc := 0) hx hb dX2_add_0 rfl (lv_at hl 0 rfl) ?_
  refine zk_gt (pc := 1) C hw zl_X2_9 0 rfl rfl dX2_add_1 ?_
  refine lv_if_lt (pc := 4) (tgt := 16) hx hb dX2_add_4 (by decide) (fun q1 => ?_) (fun q1 => ?_)
  · replace hf := if_t q1 hf
    refine lv_iconst (pc := 16) (v := -1) hx hb dX2_add_16 (by decide) ?_
    have hf := Option.some.inj hf
    subst hf
    exact zk_reti (pc := 17) (ww := [xSt a0 a1 a2 a3 a4 b_this.1, xI cy a1 8 b_this.2.1, xI cy a2 8 b_this.2.2.1, xI cy a3 8 b_this.2.2.2.1, xI cy a4 8 b_this.2.2.2.2]) C hw hr hQ dX2_add_17
  · replace hf := if_f q1 hf
    refine lv_aload_n (pc := 7) hx hb dX2_add_7 rfl (lv_at hl 0 rfl) ?_
    refine zk_gt (pc := 8) C hw zl_X2_9 0 rfl rfl dX2_add_8 ?_
    refine lv_bipush (pc := 11) (v := 8) hx hb dX2_add_11 (by decide) ?_
    refine lv_icmp_lt (pc := 13) (tgt := 18) hx hb dX2_add_13 (by decide) (fun q2 => ?_) (fun q2 => ?_)
    · replace hf := if_t q2 hf
      refine lv_aload_n (pc := 18) hx hb dX2_add_18 rfl (lv_at hl 0 rfl) ?_
      refine zk_gt (pc := 19) C hw zl_X2_15 0 rfl rfl dX2_add_19 ?_
      refine lv_aload_n (pc := 22) hx hb dX2_add_22 rfl (lv_at hl 0 rfl) ?_
      refine zk_gt (pc := 23) C hw zl_X2_9 0 rfl rfl dX2_add_23 ?_
      refine lv_iload_n (pc := 26) hx hb dX2_add_26 rfl (lv_at hl 1 rfl) ?_
      obtain ⟨q3, hf⟩ := ck hf
      refine zk_iast (pc := 27) (w' := [xSt a0 a1 a2 a3 a4 b_this.1, xI cy a1 8 ((upd b_this.2.1 b_this.1.toNatClampNeg x1)), xI cy a2 8 b_this.2.2.1, xI cy a3 8 b_this.2.2.2.1, xI cy a4 8 b_this.2.2.2.2]) C hw 1 rfl q3 rfl dX2_add_27 (fun H locs hw => ?_)
      refine lv_aload_n (pc := 28) hx hb dX2_add_28 rfl (lv_at hl 0 rfl) ?_
      refine zk_gt (pc := 29) C hw zl_X2_19 0 rfl rfl dX2_add_29 ?_
      refine lv_aload_n (pc := 32) hx hb dX2_add_32 rfl (lv_at hl 0 rfl) ?_
      refine zk_gt (pc := 33) C hw zl_X2_9 0 rfl rfl dX2_add_33 ?_
      refine lv_iload_n (pc := 36) hx hb dX2_add_36 rfl (lv_at hl 2 rfl) ?_
      obtain ⟨q4, hf⟩ := ck hf
      refine zk_iast (pc := 37) (w' := [xSt a0 a1 a2 a3 a4 b_this.1, xI cy a1 8 ((upd b_this.2.1 b_this.1.toNatClampNeg x1)), xI cy a2 8 ((upd b_this.2.2.1 b_this.1.toNatClampNeg x2)), xI cy a3 8 b_this.2.2.2.1, xI cy a4 8 b_this.2.2.2.2]) C hw 2 rfl q4 rfl dX2_add_37 (fun H locs hw => ?_)
      refine lv_aload_n (pc := 38) hx hb dX2_add_38 rfl (lv_at hl 0 rfl) ?_
      refine zk_gt (pc := 39) C hw zl_X2_22 0 rfl rfl dX2_add_39 ?_
      refine lv_aload_n (pc := 42) hx hb dX2_add_42 rfl (lv_at hl 0 rfl) ?_
      refine zk_gt (pc := 43) C hw zl_X2_9 0 rfl rfl dX2_add_43 ?_
      refine lv_iload_n (pc := 46) hx hb dX2_add_46 rfl (lv_at hl 3 rfl) ?_
      obtain ⟨q5, hf⟩ := ck hf
      refine zk_iast (pc := 47) (w' := [xSt a0 a1 a2 a3 a4 b_this.1, xI cy a1 8 ((upd b_this.2.1 b_this.1.toNatClampNeg x1)), xI cy a2 8 ((upd b_this.2.2.1 b_this.1.toNatClampNeg x2)), xI cy a3 8 ((upd b_this.2.2.2.1 b_this.1.toNatClampNeg x3)), xI cy a4 8 b_this.2.2.2.2]) C hw 3 rfl q5 rfl dX2_add_47 (fun H locs hw => ?_)
      refine lv_aload_n (pc := 48) hx hb dX2_add_48 rfl (lv_at hl 0 rfl) ?_
      refine zk_gt (pc := 49) C hw zl_X2_25 0 rfl rfl dX2_add_49 ?_
      refine lv_aload_n (pc := 52) hx hb dX2_add_52 rfl (lv_at hl 0 rfl) ?_
      refine zk_gt (pc := 53) C hw zl_X2_9 0 rfl rfl dX2_add_53 ?_
      refine lv_iconst (pc := 56) (v := 0) hx hb dX2_add_56 (by decide) ?_
      obtain ⟨q6, hf⟩ := ck hf
      refine zk_iast (pc := 57) (w' := [xSt a0 a1 a2 a3 a4 b_this.1, xI cy a1 8 ((upd b_this.2.1 b_this.1.toNatClampNeg x1)), xI cy a2 8 ((upd b_this.2.2.1 b_this.1.toNatClampNeg x2)), xI cy a3 8 ((upd b_this.2.2.2.1 b_this.1.toNatClampNeg x3)), xI cy a4 8 ((upd b_this.2.2.2.2 b_this.1.toNatClampNeg ((0 : Int32))))]) C hw 4 rfl q6 rfl dX2_add_57 (fun H locs hw => ?_)
      refine lv_aload_n (pc := 58) hx hb dX2_add_58 rfl (lv_at hl 0 rfl) ?_
      refine lv_dup (pc := 59) hx hb dX2_add_59 rfl ?_
      refine zk_gt (pc := 60) C hw zl_X2_9 0 rfl rfl dX2_add_60 ?_
      refine lv_iconst (pc := 63) (v := 1) hx hb dX2_add_63 (by decide) ?_
      refine lv_iadd (pc := 64) hx hb dX2_add_64 ?_
      refine zk_put (pc := 65) (w' := [xSt a0 a1 a2 a3 a4 ((b_this.1 + (1 : Int32))), xI cy a1 8 ((upd b_this.2.1 b_this.1.toNatClampNeg x1)), xI cy a2 8 ((upd b_this.2.2.1 b_this.1.toNatClampNeg x2)), xI cy a3 8 ((upd b_this.2.2.2.1 b_this.1.toNatClampNeg x3)), xI cy a4 8 ((upd b_this.2.2.2.2 b_this.1.toNatClampNeg ((0 : Int32))))]) C hw zp_X2_9 0 rfl rfl rfl (Nat.le_of_ble_eq_true rfl) rfl dX2_add_65 (fun H locs hw => ?_)
      refine lv_aload_n (pc := 68) hx hb dX2_add_68 rfl (lv_at hl 0 rfl) ?_
      refine zk_gt (pc := 69) C hw zl_X2_9 0 rfl rfl dX2_add_69 ?_
      refine lv_iconst (pc := 72) (v := 1) hx hb dX2_add_72 (by decide) ?_
      refine lv_isub (pc := 73) hx hb dX2_add_73 ?_
      have hf := Option.some.inj hf
      subst hf
      exact zk_reti (pc := 74) (ww := [xSt a0 a1 a2 a3 a4 ((b_this.1 + (1 : Int32))), xI cy a1 8 ((upd b_this.2.1 b_this.1.toNatClampNeg x1)), xI cy a2 8 ((upd b_this.2.2.1 b_this.1.toNatClampNeg x2)), xI cy a3 8 ((upd b_this.2.2.2.1 b_this.1.toNatClampNeg x3)), xI cy a4 8 ((upd b_this.2.2.2.2 b_this.1.toNatClampNeg ((0 : Int32))))]) C hw hr hQ dX2_add_74
    · replace hf := if_f q2 hf
      refine lv_iconst (pc := 16) (v := -1) hx hb dX2_add_16 (by decide) ?_
      have hf := Option.some.inj hf
      subst hf
      exact zk_reti (pc := 17) (ww := [xSt a0 a1 a2 a3 a4 b_this.1, xI cy a1 8 b_this.2.1, xI cy a2 8 b_this.2.2.1, xI cy a3 8 b_this.2.2.2.1, xI cy a4 8 b_this.2.2.2.2]) C hw hr hQ dX2_add_17
