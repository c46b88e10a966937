theorem dX6_in_0 : decode cX6_in 0 = .ok (.lload_n 0, 1) := by decide +kernel
theorem dX6_in_1 : decode cX6_in 1 = .ok (.lload_n 2, 1) := by decide +kernel
theorem dX6_in_2 : decode cX6_in 2 = .ok (.lcmp, 1) := by decide +kernel
theorem dX6_in_3 : decode cX6_in 3 = .ok (.ifCond .lt 14, 3) := by decide +kernel
theorem dX6_in_6 : decode cX6_in 6 = .ok (.lload_n 0, 1) := by decide +kernel
theorem dX6_in_7 : decode cX6_in 7 = .ok (.lload 4, 2) := by decide +kernel
theorem dX6_in_9 : decode cX6_in 9 = .ok (.lcmp, 1) := by decide +kernel
theorem dX6_in_10 : decode cX6_in 10 = .ok (.ifCond .gt 7, 3) := by decide +kernel
theorem dX6_in_13 : decode cX6_in 13 = .ok (.iconst 1, 1) := by decide +kernel
theorem dX6_in_14 : decode cX6_in 14 = .ok (.goto 4, 3) := by decide +kernel
theorem dX6_in_17 : decode cX6_in 17 = .ok (.iconst 0, 1) := by decide +kernel
theorem dX6_in_18 : decode cX6_in 18 = .ok (.ireturn, 1) := by decide +kernel
set_option maxHeartbeats 4000000 in
set_option maxRecDepth 100000 in
theorem c_X6_in (E : GE) (l : Launch) (x0 : Int64) (x2 : Int64) (x4 : Int64) (post : Int32 → Prop) (h : wp_X6_in x0 x2 x4 post) : Met l yX6_in (wz yX6_in cX6_in 6 (some .boolean)) { frames := 0, cells := 0, slots := 0, locals := 0 } (gPc E [.long x0, .long x2, .long x4] (gW [])) (gQi E (gW []) (fun r (_ : Unit) => post r) (fun (_ : Unit) w => w = gW [])) 0 0 (gIn (gW [])) := by
  unfold wp_X6_in at h
  refine g_of_z (by decide) (Nat.le_of_ble_eq_true rfl) ?_
  intro p e s m below meth c A Q hx hb hml hown ht hE hP hD hret ls hl
  have hK := hE.1
  have hS : va_S A s.heap s.heap [] := va_S.rf
  have hl : lv_has ls 6 [(0, .long x0), (2, .long x2), (4, .long x4)] := hl
  refine lv_lload_n hx hb dX6_in_0 rfl (lv_at hl 0 rfl) ?_
  refine lv_lload_n hx hb dX6_in_1 rfl (lv_at hl 1 rfl) ?_
  refine W.lcmp hx hb dX6_in_2 ?_
  refine lv_if_lt (tgt := 17) hx hb dX6_in_3 (by decide) (fun c_1 => ?_) (fun c_1 => ?_)
  · have h := h.1 c_1
    refine lv_iconst (v := 0) hx hb dX6_in_17 (by decide) ?_
    exact hret 0 () _ _ _ _ _ rfl h rfl hP hD hS dX6_in_18
  · have h := h.2 c_1
    refine lv_lload_n hx hb dX6_in_6 rfl (lv_at hl 0 rfl) ?_
    refine lv_lload hx hb dX6_in_7 (lv_at hl 2 rfl) ?_
    refine W.lcmp hx hb dX6_in_9 ?_
    refine lv_if_gt (tgt := 17) hx hb dX6_in_10 (by decide) (fun c_2 => ?_) (fun c_2 => ?_)
    · have h := h.1 c_2
      refine lv_iconst (v := 0) hx hb dX6_in_17 (by decide) ?_
      exact hret 0 () _ _ _ _ _ rfl h rfl hP hD hS dX6_in_18
    · have h := h.2 c_2
      refine lv_iconst (v := 1) hx hb dX6_in_13 (by decide) ?_
      refine lv_goto (tgt := 18) hx hb dX6_in_14 (by decide) ?_
      exact hret 1 () _ _ _ _ _ rfl h rfl hP hD hS dX6_in_18
theorem dX6_has_0 : decode cX6_has 0 = .ok (.iload_n 0, 1) := by decide +kernel
theorem dX6_has_1 : decode cX6_has 1 = .ok (.iload_n 1, 1) := by decide +kernel
theorem dX6_has_2 : decode cX6_has 2 = .ok (.ishr, 1) := by decide +kernel
theorem dX6_has_3 : decode cX6_has 3 = .ok (.iconst 1, 1) := by decide +kernel
theorem dX6_has_4 : decode cX6_has 4 = .ok (.iand, 1) := by decide +kernel
theorem dX6_has_5 : decode cX6_has 5 = .ok (.iconst 1, 1) := by decide +kernel
theorem dX6_has_6 : decode cX6_has 6 = .ok (.if_icmp .ne 7, 3) := by decide +kernel
theorem dX6_has_9 : decode cX6_has 9 = .ok (.iconst 1, 1) := by decide +kernel
theorem dX6_has_10 : decode cX6_has 10 = .ok (.goto 4, 3) := by decide +kernel
theorem dX6_has_13 : decode cX6_has 13 = .ok (.iconst 0, 1) := by decide +kernel
theorem dX6_has_14 : decode cX6_has 14 = .ok (.ireturn, 1) := by decide +kernel
set_option maxHeartbeats 4000000 in
set_option maxRecDepth 100000 in
theorem c_X6_has (E : GE) (l : Launch) (x0 : Int32) (x1 : Int32) (post : Int32 → Prop) (h : wp_X6_has x0 x1 post) : Met l yX6_has (wz yX6_has cX6_has 2 (some .boolean)) { frames := 0, cells := 0, slots := 0, locals := 0 } (gPc E [.int x0, .int x1] (gW [])) (gQi E (gW []) (fun r (_ : Unit) => post r) (fun (_ : Unit) w => w = gW [])) 0 0 (gIn (gW [])) := by
  unfold wp_X6_has at h
  refine g_of_z (by decide) (Nat.le_of_ble_eq_true rfl) ?_
  intro p e s m below meth c A Q hx hb hml hown ht hE hP hD hret ls hl
  have hK := hE.1
  have hS : va_S A s.heap s.heap [] := va_S.rf
  have hl : lv_has ls 2 [(0, .int x0), (1, .int x1)] := hl
  refine lv_iload_n hx hb dX6_has_0 rfl (lv_at hl 0 rfl) ?_
  refine lv_iload_n hx hb dX6_has_1 rfl (lv_at hl 1 rfl) ?_
  refine lv_ishr hx hb dX6_has_2 ?_
  refine lv_iconst (v := 1) hx hb dX6_has_3 (by decide) ?_
  refine lv_iand hx hb dX6_has_4 ?_
  refine lv_iconst (v := 1) hx hb dX6_has_5 (by decide) ?_
  refine lv_icmp_ne (tgt := 13) hx hb dX6_has_6 (by decide) (fun c_1 => ?_) (fun c_1 => ?_)
  · have h := h.1 c_1
    refine lv_iconst (v := 0) hx hb dX6_has_13 (by decide) ?_
    exact hret 0 () _ _ _ _ _ rfl h rfl hP hD hS dX6_has_14
  · have h := h.2 c_1
    refine lv_iconst (v := 1) hx hb dX6_has_9 (by decide) ?_
    refine lv_goto (tgt := 14) hx hb dX6_has_10 (by decide) ?_
    exact hret 1 () _ _ _ _ _ rfl h rfl hP hD hS dX6_has_14
theorem dX6_ones_0 : decode cX6_ones 0 = .ok (.iconst 0, 1) := by decide +kernel
theorem dX6_ones_1 : decode cX6_ones 1 = .ok (.istore_n 1, 1) := by decide +kernel
theorem dX6_ones_2 : decode cX6_ones 2 = .ok (.iload_n 0, 1) := by decide +kernel
theorem dX6_ones_3 : decode cX6_ones 3 = .ok (.istore_n 2, 1) := by decide +kernel
theorem dX6_ones_4 : decode cX6_ones 4 = .ok (.iload_n 2, 1) := by decide +kernel
theorem dX6_ones_5 : decode cX6_ones 5 = .ok (.ifCond .eq 15, 3) := by decide +kernel
theorem dX6_ones_8 : decode cX6_ones 8 = .ok (.iinc 1 1, 3) := by decide +kernel
theorem dX6_ones_11 : decode cX6_ones 11 = .ok (.iload_n 2, 1) := by decide +kernel
theorem dX6_ones_12 : decode cX6_ones 12 = .ok (.iload_n 2, 1) := by decide +kernel
theorem dX6_ones_13 : decode cX6_ones 13 = .ok (.iconst 1, 1) := by decide +kernel
theorem dX6_ones_14 : decode cX6_ones 14 = .ok (.isub, 1) := by decide +kernel
theorem dX6_ones_15 : decode cX6_ones 15 = .ok (.iand, 1) := by decide +kernel
theorem dX6_ones_16 : decode cX6_ones 16 = .ok (.istore_n 2, 1) := by decide +kernel
theorem dX6_ones_17 : decode cX6_ones 17 = .ok (.goto (-13), 3) := by decide +kernel
theorem dX6_ones_20 : decode cX6_ones 20 = .ok (.iload_n 1, 1) := by decide +kernel
theorem dX6_ones_21 : decode cX6_ones 21 = .ok (.ireturn, 1) := by decide +kernel
set_option maxHeartbeats 4000000 in
set_option maxRecDepth 100000 in
theorem c_X6_ones (E : GE) (l : Launch) (x0 : Int32) (post : Int32 → Prop) (h : wp_X6_ones x0 post) : Met l yX6_ones (wz yX6_ones cX6_ones 3 (some .int)) { frames := 0, cells := 0, slots := 0, locals := 0 } (gPc E [.int x0] (gW [])) (gQi E (gW []) (fun r (_ : Unit) => post r) (fun (_ : Unit) w => w = gW [])) 0 0 (gIn (gW [])) := by
  unfold wp_X6_ones at h
  refine g_of_i (by decide) (Nat.le_of_ble_eq_true rfl) ?_
  intro p e s m below meth c A Q hx hb hml hown ht hE hP hD hret ls hl
  have hK := hE.1
  have hS : va_S A s.heap s.heap [] := va_S.rf
  have hl : lv_has ls 3 [(0, .int x0)] := hl
  refine lv_iconst (v := 0) hx hb dX6_ones_0 (by decide) ?_
  refine lv_istore_n (lv' := [(1, .int 0), (0, .int x0)]) hx hb dX6_ones_1 rfl hl (by decide) rfl (fun ls hl => ?_)
  refine lv_iload_n hx hb dX6_ones_2 rfl (lv_at hl 1 rfl) ?_
  refine lv_istore_n (lv' := [(2, .int x0), (1, .int 0), (0, .int x0)]) hx hb dX6_ones_3 rfl hl (by decide) rfl (fun ls hl => ?_)
  have L4 : ∀ (n4 : Nat) (x1_4 : Int32) (x2_4 : Int32) (H : Heap) (locs : List Loc) (ls : Array Slot), wp_X6_ones_L4 post x0 n4 x1_4 x2_4 → gP E (gW []) H → va_D A (gW []) → va_S A s.heap H locs → lv_has ls 3 [(0, .int x0), (1, .int x1_4), (2, .int x2_4)] → W p l e { frames := 0, cells := 0, slots := 0, locals := 0 } s m ([.int x0] : List Value).toArray below meth c H locs 0 0 Q (F0 m 4 ls []) := by
    intro n4
    induction n4 with
    | zero => intro x1_4 x2_4 H locs ls h; exact h.elim
    | succ n4 ih4 =>
      intro x1_4 x2_4 H locs ls h hP hD hS hl
      rw [wp_X6_ones_L4] at h
      refine lv_iload_n hx hb dX6_ones_4 rfl (lv_at hl 2 rfl) ?_
      refine lv_if_eq (tgt := 20) hx hb dX6_ones_5 (by decide) (fun c_2 => ?_) (fun c_2 => ?_)
      · have h := h.1 c_2
        refine lv_iload_n hx hb dX6_ones_20 rfl (lv_at hl 1 rfl) ?_
        exact hret x1_4 () _ _ _ _ _ h rfl hP hD hS dX6_ones_21
      · have h := h.2 c_2
        refine lv_iinc (v := (x1_4 + 1)) (lv' := [(1, .int (x1_4 + 1)), (0, .int x0), (2, .int x2_4)]) hx hb dX6_ones_8 hl (k := 1) rfl rfl (by decide) rfl (fun ls hl => ?_)
        refine lv_iload_n hx hb dX6_ones_11 rfl (lv_at hl 2 rfl) ?_
        refine lv_iload_n hx hb dX6_ones_12 rfl (lv_at hl 2 rfl) ?_
        refine lv_iconst (v := 1) hx hb dX6_ones_13 (by decide) ?_
        refine lv_isub hx hb dX6_ones_14 ?_
        refine lv_iand hx hb dX6_ones_15 ?_
        refine lv_istore_n (lv' := [(2, .int (x2_4 &&& (x2_4 - 1))), (1, .int (x1_4 + 1)), (0, .int x0)]) hx hb dX6_ones_16 rfl hl (by decide) rfl (fun ls hl => ?_)
        refine lv_goto (tgt := 4) hx hb dX6_ones_17 (by decide) ?_
        exact ih4 (x1_4 + 1) (x2_4 &&& (x2_4 - 1)) _ _ _ h hP hD hS (lv_sub hl [2, 1, 0] rfl)
  obtain ⟨n4, h⟩ := h
  exact L4 n4 0 x0 _ _ _ h hP hD hS (lv_sub hl [2, 1, 0] rfl)
theorem dX6_type_0 : decode cX6_type 0 = .ok (.iload_n 1, 1) := by decide +kernel
theorem dX6_type_1 : decode cX6_type 1 = .ok (.i2l, 1) := by decide +kernel
theorem dX6_type_2 : decode cX6_type 2 = .ok (.lconst 0, 1) := by decide +kernel
theorem dX6_type_3 : decode cX6_type 3 = .ok (.ldc2_w 53, 3) := by decide +kernel
theorem dX6_type_6 : decode cX6_type 6 = .ok (.invokestatic 55, 3) := by decide +kernel
theorem dX6_type_9 : decode cX6_type 9 = .ok (.ifCond .ne 5, 3) := by decide +kernel
theorem dX6_type_12 : decode cX6_type 12 = .ok (.iconst (-1), 1) := by decide +kernel
theorem dX6_type_13 : decode cX6_type 13 = .ok (.ireturn, 1) := by decide +kernel
theorem dX6_type_14 : decode cX6_type 14 = .ok (.aload_n 0, 1) := by decide +kernel
theorem dX6_type_15 : decode cX6_type 15 = .ok (.getfield 59, 3) := by decide +kernel
theorem dX6_type_18 : decode cX6_type 18 = .ok (.sipush 150, 3) := by decide +kernel
theorem dX6_type_21 : decode cX6_type 21 = .ok (.if_icmp .ne 6, 3) := by decide +kernel
theorem dX6_type_24 : decode cX6_type 24 = .ok (.bipush (-3), 2) := by decide +kernel
theorem dX6_type_26 : decode cX6_type 26 = .ok (.ireturn, 1) := by decide +kernel
theorem dX6_type_27 : decode cX6_type 27 = .ok (.aload_n 0, 1) := by decide +kernel
theorem dX6_type_28 : decode cX6_type 28 = .ok (.getfield 38, 3) := by decide +kernel
theorem dX6_type_31 : decode cX6_type 31 = .ok (.aload_n 0, 1) := by decide +kernel
theorem dX6_type_32 : decode cX6_type 32 = .ok (.getfield 59, 3) := by decide +kernel
theorem dX6_type_35 : decode cX6_type 35 = .ok (.iload_n 1, 1) := by decide +kernel
theorem dX6_type_36 : decode cX6_type 36 = .ok (.iastore, 1) := by decide +kernel
theorem dX6_type_37 : decode cX6_type 37 = .ok (.aload_n 0, 1) := by decide +kernel
theorem dX6_type_38 : decode cX6_type 38 = .ok (.dup, 1) := by decide +kernel
theorem dX6_type_39 : decode cX6_type 39 = .ok (.getfield 59, 3) := by decide +kernel
theorem dX6_type_42 : decode cX6_type 42 = .ok (.iconst 1, 1) := by decide +kernel
theorem dX6_type_43 : decode cX6_type 43 = .ok (.iadd, 1) := by decide +kernel
theorem dX6_type_44 : decode cX6_type 44 = .ok (.putfield 59, 3) := by decide +kernel
theorem dX6_type_47 : decode cX6_type 47 = .ok (.aload_n 0, 1) := by decide +kernel
theorem dX6_type_48 : decode cX6_type 48 = .ok (.getfield 59, 3) := by decide +kernel
theorem dX6_type_51 : decode cX6_type 51 = .ok (.ireturn, 1) := by decide +kernel
set_option maxHeartbeats 4000000 in
set_option maxRecDepth 100000 in
theorem c_X6_type (E : GE) (l : Launch) (a0 : Nat → Nat) (M0 : Mo) (x1 : Int32) (post : Int32 → Mo → Prop) (h : wp_X6_type M0 x1 post) : Met l yX6_type (wz yX6_type cX6_type 2 (some .int)) { frames := 1, cells := 0, slots := 0, locals := 25 } (gPc E [.ref (a0 99), .int x1] (gW [bModel E a0 M0])) (gQi E (gW [bModel E a0 M0]) (fun r (u : Mo) => post r u) (fun (u : Mo) w => w = gW [bModel E a0 u])) 0 0 (gIn (gW [bModel E a0 M0])) := by
  unfold wp_X6_type at h
  refine g_of_i (by decide) (Nat.le_of_ble_eq_true rfl) ?_
  intro p e s m below meth c A Q hx hb hml hown ht hE hP hD hret ls hl
  have hK := hE.1
  have hS : va_S A s.heap s.heap [] := va_S.rf
  have hl : lv_has ls 2 [(0, .ref (a0 99)), (1, .int x1)] := hl
  refine lv_iload_n hx hb dX6_type_0 rfl (lv_at hl 1 rfl) ?_
  refine lv_i2l (v := x1.toInt64) hx hb dX6_type_1 rfl ?_
  refine lv_lconst (v := 0) hx hb dX6_type_2 (by decide) ?_
  refine lv_ldc2 hx hb hown (ht _ wk_X6_53) dX6_type_3 ?_
  have p1 := gB (n := 1) (bs := [bModel E a0 M0]) (bc := []) (br := [bModel E a0 M0]) [0] rfl rfl (by decide)
  refine g_i (g_runS (As := [.long (x1.toInt64), .long 0, .long 255]) (rest := []) ⟨hx, hb, hml, hown, ht⟩ hE (c_X6_in E l (x1.toInt64) 0 255 _ h) ⟨rfl, rfl⟩ wk_X6_55 wt_X6_in wn_X6 wc_X6_in yd_X6_in ⟨Nat.le_of_ble_eq_true rfl, Nat.le_of_ble_eq_true rfl⟩ hP hD p1 rfl rfl hl.1 rfl (lv_room (Nat.le_of_ble_eq_true rfl)) dX6_type_6 ⟨Nat.zero_le _, Nat.zero_le _⟩) hP hD hS p1 (fun r_1 _ w H locs h hw hP hD hS => ?_)
  subst hw
  clear p1
  have p2 := gB (n := 1) (bs := [bModel E a0 M0]) (bc := []) (br := [bModel E a0 M0]) [0] rfl rfl (by decide)
  have hP := gP_perm p2.symm hP
  have hD := gD_perm p2.symm hD
  clear p2
  refine lv_if_ne (tgt := 14) hx hb dX6_type_9 (by decide) (fun c_2 => ?_) (fun c_2 => ?_)
  · have h := h.1 c_2
    refine lv_aload_n hx hb dX6_type_14 rfl (lv_at hl 0 rfl) ?_
    refine va_get (D := (E.1, E.2.1)) (ci := 6) (v := .int (M0.1.1 14)) (C := RX6) (T := TX6) (N := 26) hx hb ht wu_X6 hown hK hP 0 rfl rfl 14 (by decide) (ht _ wk_X6_59) (fun _ h9 => h9) rfl dX6_type_15 ?_
    refine lv_sipush (v := 150) hx hb dX6_type_18 (by decide) ?_
    refine lv_icmp_ne (tgt := 27) hx hb dX6_type_21 (by decide) (fun c_3 => ?_) (fun c_3 => ?_)
    · have h := h.1 c_3
      refine lv_aload_n hx hb dX6_type_27 rfl (lv_at hl 0 rfl) ?_
      refine va_get (D := (E.1, E.2.1)) (ci := 6) (v := .ref (a0 15)) (C := RX6) (T := TX6) (N := 26) hx hb ht wu_X6 hown hK hP 0 rfl rfl 15 (by decide) (ht _ wk_X6_38) (fun _ h9 => h9) rfl dX6_type_28 ?_
      refine lv_aload_n hx hb dX6_type_31 rfl (lv_at hl 0 rfl) ?_
      refine va_get (D := (E.1, E.2.1)) (ci := 6) (v := .int (M0.1.1 14)) (C := RX6) (T := TX6) (N := 26) hx hb ht wu_X6 hown hK hP 0 rfl rfl 14 (by decide) (ht _ wk_X6_59) (fun _ h9 => h9) rfl dX6_type_32 ?_
      refine lv_iload_n hx hb dX6_type_35 rfl (lv_at hl 1 rfl) ?_
      refine va_iast hx hb hK hP hD hS 9 0 rfl rfl h.1 dX6_type_36 (fun H locs hP hD hS => ?_)
      have h := h.2
      have hP : gP E (gW [bModel E a0 (pma M0 15 ((M0.1.1 14).toNatClampNeg) x1)]) H := hP
      have hD : va_D A (gW [bModel E a0 (pma M0 15 ((M0.1.1 14).toNatClampNeg) x1)]) := hD
      obtain ⟨M_4, eM_4⟩ : ∃ z : Mo, z = (pma M0 15 ((M0.1.1 14).toNatClampNeg) x1) := ⟨_, rfl⟩
      have h := h M_4 eM_4
      rw [← eM_4] at hP hD
      refine lv_aload_n hx hb dX6_type_37 rfl (lv_at hl 0 rfl) ?_
      refine lv_dup hx hb dX6_type_38 rfl ?_
      refine va_get (D := (E.1, E.2.1)) (ci := 6) (v := .int (M_4.1.1 14)) (C := RX6) (T := TX6) (N := 26) hx hb ht wu_X6 hown hK hP 0 rfl rfl 14 (by decide) (ht _ wk_X6_59) (fun _ h9 => h9) rfl dX6_type_39 ?_
      refine lv_iconst (v := 1) hx hb dX6_type_42 (by decide) ?_
      refine lv_iadd hx hb dX6_type_43 ?_
      refine va_put (D := (E.1, E.2.1)) (ci := 6) (v := .int ((M_4.1.1 14) + 1)) (ty := .int) (C := RX6) (T := TX6) (N := 26) hx hb ht wu_X6 tyX6 tyX6_ok nmX6 hown hK hP hD hS 0 rfl rfl 14 (by decide) (ht _ wk_X6_59) (fun _ h9 => h9) rfl (by decide +kernel) rfl rfl (Nat.le_of_ble_eq_true rfl) dX6_type_44 (fun H locs hP hD hS => ?_)
      have hP : gP E (gW [bModel E a0 (pmf M_4 14 ((M_4.1.1 14) + 1))]) H := hP
      have hD : va_D A (gW [bModel E a0 (pmf M_4 14 ((M_4.1.1 14) + 1))]) := hD
      refine lv_aload_n hx hb dX6_type_47 rfl (lv_at hl 0 rfl) ?_
      refine va_get (D := (E.1, E.2.1)) (ci := 6) (v := .int ((pmf M_4 14 ((M_4.1.1 14) + 1)).1.1 14)) (C := RX6) (T := TX6) (N := 26) hx hb ht wu_X6 hown hK hP 0 rfl rfl 14 (by decide) (ht _ wk_X6_59) (fun _ h9 => h9) rfl dX6_type_48 ?_
      exact hret ((pmf M_4 14 ((M_4.1.1 14) + 1)).1.1 14) (pmf M_4 14 ((M_4.1.1 14) + 1)) _ _ _ _ _ h rfl hP hD hS dX6_type_51
    · have h := h.2 c_3
      refine lv_bipush (v := (-3)) hx hb dX6_type_24 (by decide) ?_
      exact hret (-3) M0 _ _ _ _ _ h rfl hP hD hS dX6_type_26
  · have h := h.2 c_2
    refine lv_iconst (v := (-1)) hx hb dX6_type_12 (by decide) ?_
    exact hret (-1) M0 _ _ _ _ _ h rfl hP hD hS dX6_type_13
theorem dX6_clear_0 : decode cX6_clear 0 = .ok (.aload_n 0, 1) := by decide +kernel
theorem dX6_clear_1 : decode cX6_clear 1 = .ok (.getfield 59, 3) := by decide +kernel
theorem dX6_clear_4 : decode cX6_clear 4 = .ok (.istore_n 1, 1) := by decide +kernel
theorem dX6_clear_5 : decode cX6_clear 5 = .ok (.aload_n 0, 1) := by decide +kernel
theorem dX6_clear_6 : decode cX6_clear 6 = .ok (.iconst 0, 1) := by decide +kernel
theorem dX6_clear_7 : decode cX6_clear 7 = .ok (.putfield 59, 3) := by decide +kernel
theorem dX6_clear_10 : decode cX6_clear 10 = .ok (.iload_n 1, 1) := by decide +kernel
theorem dX6_clear_11 : decode cX6_clear 11 = .ok (.ireturn, 1) := by decide +kernel
set_option maxHeartbeats 4000000 in
set_option maxRecDepth 100000 in
theorem c_X6_clear (E : GE) (l : Launch) (a0 : Nat → Nat) (M0 : Mo) (post : Int32 → Mo → Prop) (h : wp_X6_clear M0 post) : Met l yX6_clear (wz yX6_clear cX6_clear 2 (some .int)) { frames := 0, cells := 0, slots := 0, locals := 0 } (gPc E [.ref (a0 99)] (gW [bModel E a0 M0])) (gQi E (gW [bModel E a0 M0]) (fun r (u : Mo) => post r u) (fun (u : Mo) w => w = gW [bModel E a0 u])) 0 0 (gIn (gW [bModel E a0 M0])) := by
  unfold wp_X6_clear at h
  refine g_of_i (by decide) (Nat.le_of_ble_eq_true rfl) ?_
  intro p e s m below meth c A Q hx hb hml hown ht hE hP hD hret ls hl
  have hK := hE.1
  have hS : va_S A s.heap s.heap [] := va_S.rf
  have hl : lv_has ls 2 [(0, .ref (a0 99))] := hl
  refine lv_aload_n hx hb dX6_clear_0 rfl (lv_at hl 0 rfl) ?_
  refine va_get (D := (E.1, E.2.1)) (ci := 6) (v := .int (M0.1.1 14)) (C := RX6) (T := TX6) (N := 26) hx hb ht wu_X6 hown hK hP 0 rfl rfl 14 (by decide) (ht _ wk_X6_59) (fun _ h9 => h9) rfl dX6_clear_1 ?_
  refine lv_istore_n (lv' := [(1, .int (M0.1.1 14)), (0, .ref (a0 99))]) hx hb dX6_clear_4 rfl hl (by decide) rfl (fun ls hl => ?_)
  refine lv_aload_n hx hb dX6_clear_5 rfl (lv_at hl 1 rfl) ?_
  refine lv_iconst (v := 0) hx hb dX6_clear_6 (by decide) ?_
  refine va_put (D := (E.1, E.2.1)) (ci := 6) (v := .int 0) (ty := .int) (C := RX6) (T := TX6) (N := 26) hx hb ht wu_X6 tyX6 tyX6_ok nmX6 hown hK hP hD hS 0 rfl rfl 14 (by decide) (ht _ wk_X6_59) (fun _ h9 => h9) rfl (by decide +kernel) rfl rfl (Nat.le_of_ble_eq_true rfl) dX6_clear_7 (fun H locs hP hD hS => ?_)
  have hP : gP E (gW [bModel E a0 (pmf M0 14 0)]) H := hP
  have hD : va_D A (gW [bModel E a0 (pmf M0 14 0)]) := hD
  refine lv_iload_n hx hb dX6_clear_10 rfl (lv_at hl 0 rfl) ?_
  exact hret (M0.1.1 14) (pmf M0 14 0) _ _ _ _ _ h rfl hP hD hS dX6_clear_11
theorem dX6_isFigure_0 : decode cX6_isFigure 0 = .ok (.iload_n 0, 1) := by decide +kernel
theorem dX6_isFigure_1 : decode cX6_isFigure 1 = .ok (.i2l, 1) := by decide +kernel
theorem dX6_isFigure_2 : decode cX6_isFigure 2 = .ok (.ldc2_w 62, 3) := by decide +kernel
theorem dX6_isFigure_5 : decode cX6_isFigure 5 = .ok (.ldc2_w 64, 3) := by decide +kernel
theorem dX6_isFigure_8 : decode cX6_isFigure 8 = .ok (.invokestatic 55, 3) := by decide +kernel
theorem dX6_isFigure_11 : decode cX6_isFigure 11 = .ok (.ireturn, 1) := by decide +kernel
set_option maxHeartbeats 4000000 in
set_option maxRecDepth 100000 in
theorem c_X6_isFigure (E : GE) (l : Launch) (x0 : Int32) (post : Int32 → Prop) (h : wp_X6_isFigure x0 post) : Met l yX6_isFigure (wz yX6_isFigure cX6_isFigure 1 (some .boolean)) { frames := 1, cells := 0, slots := 0, locals := 25 } (gPc E [.int x0] (gW [])) (gQi E (gW []) (fun r (_ : Unit) => post r) (fun (_ : Unit) w => w = gW [])) 0 0 (gIn (gW [])) := by
  unfold wp_X6_isFigure at h
  refine g_of_z (by decide) (Nat.le_of_ble_eq_true rfl) ?_
  intro p e s m below meth c A Q hx hb hml hown ht hE hP hD hret ls hl
  have hK := hE.1
  have hS : va_S A s.heap s.heap [] := va_S.rf
  have hl : lv_has ls 1 [(0, .int x0)] := hl
  refine lv_iload_n hx hb dX6_isFigure_0 rfl (lv_at hl 0 rfl) ?_
  refine lv_i2l (v := x0.toInt64) hx hb dX6_isFigure_1 rfl ?_
  refine lv_ldc2 hx hb hown (ht _ wk_X6_62) dX6_isFigure_2 ?_
  refine lv_ldc2 hx hb hown (ht _ wk_X6_64) dX6_isFigure_5 ?_
  have p1 := gB (n := 0) (bs := []) (bc := []) (br := []) [] rfl rfl (by decide)
  refine g_i (g_runS (As := [.long (x0.toInt64), .long 48, .long 57]) (rest := []) ⟨hx, hb, hml, hown, ht⟩ hE (c_X6_in E l (x0.toInt64) 48 57 _ h) ⟨rfl, rfl⟩ wk_X6_55 wt_X6_in wn_X6 wc_X6_in yd_X6_in ⟨Nat.le_of_ble_eq_true rfl, Nat.le_of_ble_eq_true rfl⟩ hP hD p1 rfl rfl hl.1 rfl (lv_room (Nat.le_of_ble_eq_true rfl)) dX6_isFigure_8 ⟨Nat.zero_le _, Nat.zero_le _⟩) hP hD hS p1 (fun r_1 _ w H locs h hw hP hD hS => ?_)
  subst hw
  clear p1
  have p2 := gB (n := 0) (bs := []) (bc := []) (br := []) [] rfl rfl (by decide)
  have hP := gP_perm p2.symm hP
  have hD := gD_perm p2.symm hD
  clear p2
  exact hret r_1 () _ _ _ _ _ h.1 h.2 rfl hP hD hS dX6_isFigure_11
theorem dX6_isLetter_0 : decode cX6_isLetter 0 = .ok (.iload_n 0, 1) := by decide +kernel
theorem dX6_isLetter_1 : decode cX6_isLetter 1 = .ok (.i2l, 1) := by decide +kernel
theorem dX6_isLetter_2 : decode cX6_isLetter 2 = .ok (.ldc2_w 66, 3) := by decide +kernel
theorem dX6_isLetter_5 : decode cX6_isLetter 5 = .ok (.ldc2_w 68, 3) := by decide +kernel
theorem dX6_isLetter_8 : decode cX6_isLetter 8 = .ok (.invokestatic 55, 3) := by decide +kernel
theorem dX6_isLetter_11 : decode cX6_isLetter 11 = .ok (.ireturn, 1) := by decide +kernel
set_option maxHeartbeats 4000000 in
set_option maxRecDepth 100000 in
theorem c_X6_isLetter (E : GE) (l : Launch) (x0 : Int32) (post : Int32 → Prop) (h : wp_X6_isLetter x0 post) : Met l yX6_isLetter (wz yX6_isLetter cX6_isLetter 1 (some .boolean)) { frames := 1, cells := 0, slots := 0, locals := 25 } (gPc E [.int x0] (gW [])) (gQi E (gW []) (fun r (_ : Unit) => post r) (fun (_ : Unit) w => w = gW [])) 0 0 (gIn (gW [])) := by
  unfold wp_X6_isLetter at h
  refine g_of_z (by decide) (Nat.le_of_ble_eq_true rfl) ?_
  intro p e s m below meth c A Q hx hb hml hown ht hE hP hD hret ls hl
  have hK := hE.1
  have hS : va_S A s.heap s.heap [] := va_S.rf
  have hl : lv_has ls 1 [(0, .int x0)] := hl
  refine lv_iload_n hx hb dX6_isLetter_0 rfl (lv_at hl 0 rfl) ?_
  refine lv_i2l (v := x0.toInt64) hx hb dX6_isLetter_1 rfl ?_
  refine lv_ldc2 hx hb hown (ht _ wk_X6_66) dX6_isLetter_2 ?_
  refine lv_ldc2 hx hb hown (ht _ wk_X6_68) dX6_isLetter_5 ?_
  have p1 := gB (n := 0) (bs := []) (bc := []) (br := []) [] rfl rfl (by decide)
  refine g_i (g_runS (As := [.long (x0.toInt64), .long 97, .long 122]) (rest := []) ⟨hx, hb, hml, hown, ht⟩ hE (c_X6_in E l (x0.toInt64) 97 122 _ h) ⟨rfl, rfl⟩ wk_X6_55 wt_X6_in wn_X6 wc_X6_in yd_X6_in ⟨Nat.le_of_ble_eq_true rfl, Nat.le_of_ble_eq_true rfl⟩ hP hD p1 rfl rfl hl.1 rfl (lv_room (Nat.le_of_ble_eq_true rfl)) dX6_isLetter_8 ⟨Nat.zero_le _, Nat.zero_le _⟩) hP hD hS p1 (fun r_1 _ w H locs h hw hP hD hS => ?_)
  subst hw
  clear p1
  have p2 := gB (n := 0) (bs := []) (bc := []) (br := []) [] rfl rfl (by decide)
  have hP := gP_perm p2.symm hP
  have hD := gD_perm p2.symm hD
  clear p2
  exact hret r_1 () _ _ _ _ _ h.1 h.2 rfl hP hD hS dX6_isLetter_11
theorem dX6_next_0 : decode cX6_next 0 = .ok (.aload_n 0, 1) := by decide +kernel
theorem dX6_next_1 : decode cX6_next 1 = .ok (.getfield 70, 3) := by decide +kernel
theorem dX6_next_4 : decode cX6_next 4 = .ok (.aload_n 0, 1) := by decide +kernel
theorem dX6_next_5 : decode cX6_next 5 = .ok (.getfield 59, 3) := by decide +kernel
theorem dX6_next_8 : decode cX6_next 8 = .ok (.if_icmp .ge 30, 3) := by decide +kernel
theorem dX6_next_11 : decode cX6_next 11 = .ok (.aload_n 0, 1) := by decide +kernel
theorem dX6_next_12 : decode cX6_next 12 = .ok (.getfield 38, 3) := by decide +kernel
theorem dX6_next_15 : decode cX6_next 15 = .ok (.aload_n 0, 1) := by decide +kernel
theorem dX6_next_16 : decode cX6_next 16 = .ok (.getfield 70, 3) := by decide +kernel
theorem dX6_next_19 : decode cX6_next 19 = .ok (.iaload, 1) := by decide +kernel
theorem dX6_next_20 : decode cX6_next 20 = .ok (.bipush 32, 2) := by decide +kernel
theorem dX6_next_22 : decode cX6_next 22 = .ok (.if_icmp .ne 16, 3) := by decide +kernel
theorem dX6_next_25 : decode cX6_next 25 = .ok (.aload_n 0, 1) := by decide +kernel
theorem dX6_next_26 : decode cX6_next 26 = .ok (.dup, 1) := by decide +kernel
theorem dX6_next_27 : decode cX6_next 27 = .ok (.getfield 70, 3) := by decide +kernel
theorem dX6_next_30 : decode cX6_next 30 = .ok (.iconst 1, 1) := by decide +kernel
theorem dX6_next_31 : decode cX6_next 31 = .ok (.iadd, 1) := by decide +kernel
theorem dX6_next_32 : decode cX6_next 32 = .ok (.putfield 70, 3) := by decide +kernel
theorem dX6_next_35 : decode cX6_next 35 = .ok (.goto (-35), 3) := by decide +kernel
theorem dX6_next_38 : decode cX6_next 38 = .ok (.aload_n 0, 1) := by decide +kernel
theorem dX6_next_39 : decode cX6_next 39 = .ok (.aload_n 0, 1) := by decide +kernel
theorem dX6_next_40 : decode cX6_next 40 = .ok (.getfield 70, 3) := by decide +kernel
theorem dX6_next_43 : decode cX6_next 43 = .ok (.putfield 73, 3) := by decide +kernel
theorem dX6_next_46 : decode cX6_next 46 = .ok (.aload_n 0, 1) := by decide +kernel
theorem dX6_next_47 : decode cX6_next 47 = .ok (.iconst 0, 1) := by decide +kernel
theorem dX6_next_48 : decode cX6_next 48 = .ok (.putfield 76, 3) := by decide +kernel
theorem dX6_next_51 : decode cX6_next 51 = .ok (.aload_n 0, 1) := by decide +kernel
theorem dX6_next_52 : decode cX6_next 52 = .ok (.iconst 0, 1) := by decide +kernel
theorem dX6_next_53 : decode cX6_next 53 = .ok (.putfield 79, 3) := by decide +kernel
theorem dX6_next_56 : decode cX6_next 56 = .ok (.aload_n 0, 1) := by decide +kernel
theorem dX6_next_57 : decode cX6_next 57 = .ok (.getfield 70, 3) := by decide +kernel
theorem dX6_next_60 : decode cX6_next 60 = .ok (.aload_n 0, 1) := by decide +kernel
theorem dX6_next_61 : decode cX6_next 61 = .ok (.getfield 59, 3) := by decide +kernel
theorem dX6_next_64 : decode cX6_next 64 = .ok (.if_icmp .ne 4, 3) := by decide +kernel
theorem dX6_next_67 : decode cX6_next 67 = .ok (.return_, 1) := by decide +kernel
theorem dX6_next_68 : decode cX6_next 68 = .ok (.aload_n 0, 1) := by decide +kernel
theorem dX6_next_69 : decode cX6_next 69 = .ok (.getfield 38, 3) := by decide +kernel
theorem dX6_next_72 : decode cX6_next 72 = .ok (.aload_n 0, 1) := by decide +kernel
theorem dX6_next_73 : decode cX6_next 73 = .ok (.getfield 70, 3) := by decide +kernel
theorem dX6_next_76 : decode cX6_next 76 = .ok (.iaload, 1) := by decide +kernel
theorem dX6_next_77 : decode cX6_next 77 = .ok (.istore_n 1, 1) := by decide +kernel
theorem dX6_next_78 : decode cX6_next 78 = .ok (.iload_n 1, 1) := by decide +kernel
theorem dX6_next_79 : decode cX6_next 79 = .ok (.invokestatic 82, 3) := by decide +kernel
theorem dX6_next_82 : decode cX6_next 82 = .ok (.ifCond .eq 72, 3) := by decide +kernel
theorem dX6_next_85 : decode cX6_next 85 = .ok (.aload_n 0, 1) := by decide +kernel
theorem dX6_next_86 : decode cX6_next 86 = .ok (.getfield 70, 3) := by decide +kernel
theorem dX6_next_89 : decode cX6_next 89 = .ok (.aload_n 0, 1) := by decide +kernel
theorem dX6_next_90 : decode cX6_next 90 = .ok (.getfield 59, 3) := by decide +kernel
theorem dX6_next_93 : decode cX6_next 93 = .ok (.if_icmp .ge 31, 3) := by decide +kernel
theorem dX6_next_96 : decode cX6_next 96 = .ok (.aload_n 0, 1) := by decide +kernel
theorem dX6_next_97 : decode cX6_next 97 = .ok (.getfield 38, 3) := by decide +kernel
theorem dX6_next_100 : decode cX6_next 100 = .ok (.aload_n 0, 1) := by decide +kernel
theorem dX6_next_101 : decode cX6_next 101 = .ok (.getfield 70, 3) := by decide +kernel
theorem dX6_next_104 : decode cX6_next 104 = .ok (.iaload, 1) := by decide +kernel
theorem dX6_next_105 : decode cX6_next 105 = .ok (.invokestatic 82, 3) := by decide +kernel
theorem dX6_next_108 : decode cX6_next 108 = .ok (.ifCond .eq 16, 3) := by decide +kernel
theorem dX6_next_111 : decode cX6_next 111 = .ok (.aload_n 0, 1) := by decide +kernel
theorem dX6_next_112 : decode cX6_next 112 = .ok (.dup, 1) := by decide +kernel
theorem dX6_next_113 : decode cX6_next 113 = .ok (.getfield 70, 3) := by decide +kernel
theorem dX6_next_116 : decode cX6_next 116 = .ok (.iconst 1, 1) := by decide +kernel
theorem dX6_next_117 : decode cX6_next 117 = .ok (.iadd, 1) := by decide +kernel
theorem dX6_next_118 : decode cX6_next 118 = .ok (.putfield 70, 3) := by decide +kernel
theorem dX6_next_121 : decode cX6_next 121 = .ok (.goto (-36), 3) := by decide +kernel
theorem dX6_next_124 : decode cX6_next 124 = .ok (.aload_n 0, 1) := by decide +kernel
theorem dX6_next_125 : decode cX6_next 125 = .ok (.iconst 1, 1) := by decide +kernel
theorem dX6_next_126 : decode cX6_next 126 = .ok (.putfield 76, 3) := by decide +kernel
theorem dX6_next_129 : decode cX6_next 129 = .ok (.aload_n 0, 1) := by decide +kernel
theorem dX6_next_130 : decode cX6_next 130 = .ok (.aload_n 0, 1) := by decide +kernel
theorem dX6_next_131 : decode cX6_next 131 = .ok (.getfield 70, 3) := by decide +kernel
theorem dX6_next_134 : decode cX6_next 134 = .ok (.aload_n 0, 1) := by decide +kernel
theorem dX6_next_135 : decode cX6_next 135 = .ok (.getfield 73, 3) := by decide +kernel
theorem dX6_next_138 : decode cX6_next 138 = .ok (.isub, 1) := by decide +kernel
theorem dX6_next_139 : decode cX6_next 139 = .ok (.iconst 1, 1) := by decide +kernel
theorem dX6_next_140 : decode cX6_next 140 = .ok (.if_icmp .ne 7, 3) := by decide +kernel
theorem dX6_next_143 : decode cX6_next 143 = .ok (.iload_n 1, 1) := by decide +kernel
theorem dX6_next_144 : decode cX6_next 144 = .ok (.goto 4, 3) := by decide +kernel
theorem dX6_next_147 : decode cX6_next 147 = .ok (.iconst 0, 1) := by decide +kernel
theorem dX6_next_148 : decode cX6_next 148 = .ok (.putfield 79, 3) := by decide +kernel
theorem dX6_next_151 : decode cX6_next 151 = .ok (.goto 162, 3) := by decide +kernel
theorem dX6_next_154 : decode cX6_next 154 = .ok (.iload_n 1, 1) := by decide +kernel
theorem dX6_next_155 : decode cX6_next 155 = .ok (.invokestatic 86, 3) := by decide +kernel
theorem dX6_next_158 : decode cX6_next 158 = .ok (.ifCond .eq 130, 3) := by decide +kernel
theorem dX6_next_161 : decode cX6_next 161 = .ok (.aload_n 0, 1) := by decide +kernel
theorem dX6_next_162 : decode cX6_next 162 = .ok (.getfield 70, 3) := by decide +kernel
theorem dX6_next_165 : decode cX6_next 165 = .ok (.aload_n 0, 1) := by decide +kernel
theorem dX6_next_166 : decode cX6_next 166 = .ok (.getfield 59, 3) := by decide +kernel
theorem dX6_next_169 : decode cX6_next 169 = .ok (.if_icmp .ge 75, 3) := by decide +kernel
theorem dX6_next_172 : decode cX6_next 172 = .ok (.aload_n 0, 1) := by decide +kernel
theorem dX6_next_173 : decode cX6_next 173 = .ok (.getfield 38, 3) := by decide +kernel
theorem dX6_next_176 : decode cX6_next 176 = .ok (.aload_n 0, 1) := by decide +kernel
theorem dX6_next_177 : decode cX6_next 177 = .ok (.getfield 70, 3) := by decide +kernel
theorem dX6_next_180 : decode cX6_next 180 = .ok (.iaload, 1) := by decide +kernel
theorem dX6_next_181 : decode cX6_next 181 = .ok (.invokestatic 86, 3) := by decide +kernel
theorem dX6_next_184 : decode cX6_next 184 = .ok (.ifCond .eq 60, 3) := by decide +kernel
theorem dX6_next_187 : decode cX6_next 187 = .ok (.aload_n 0, 1) := by decide +kernel
theorem dX6_next_188 : decode cX6_next 188 = .ok (.aload_n 0, 1) := by decide +kernel
theorem dX6_next_189 : decode cX6_next 189 = .ok (.getfield 70, 3) := by decide +kernel
theorem dX6_next_192 : decode cX6_next 192 = .ok (.aload_n 0, 1) := by decide +kernel
theorem dX6_next_193 : decode cX6_next 193 = .ok (.getfield 73, 3) := by decide +kernel
theorem dX6_next_196 : decode cX6_next 196 = .ok (.isub, 1) := by decide +kernel
theorem dX6_next_197 : decode cX6_next 197 = .ok (.iconst 3, 1) := by decide +kernel
theorem dX6_next_198 : decode cX6_next 198 = .ok (.if_icmp .ge 26, 3) := by decide +kernel
theorem dX6_next_201 : decode cX6_next 201 = .ok (.bipush 10, 2) := by decide +kernel
theorem dX6_next_203 : decode cX6_next 203 = .ok (.aload_n 0, 1) := by decide +kernel
theorem dX6_next_204 : decode cX6_next 204 = .ok (.getfield 79, 3) := by decide +kernel
theorem dX6_next_207 : decode cX6_next 207 = .ok (.imul, 1) := by decide +kernel
theorem dX6_next_208 : decode cX6_next 208 = .ok (.aload_n 0, 1) := by decide +kernel
theorem dX6_next_209 : decode cX6_next 209 = .ok (.getfield 38, 3) := by decide +kernel
theorem dX6_next_212 : decode cX6_next 212 = .ok (.aload_n 0, 1) := by decide +kernel
theorem dX6_next_213 : decode cX6_next 213 = .ok (.getfield 70, 3) := by decide +kernel
theorem dX6_next_216 : decode cX6_next 216 = .ok (.iaload, 1) := by decide +kernel
theorem dX6_next_217 : decode cX6_next 217 = .ok (.iadd, 1) := by decide +kernel
theorem dX6_next_218 : decode cX6_next 218 = .ok (.bipush 48, 2) := by decide +kernel
theorem dX6_next_220 : decode cX6_next 220 = .ok (.isub, 1) := by decide +kernel
theorem dX6_next_221 : decode cX6_next 221 = .ok (.goto 7, 3) := by decide +kernel
theorem dX6_next_224 : decode cX6_next 224 = .ok (.aload_n 0, 1) := by decide +kernel
theorem dX6_next_225 : decode cX6_next 225 = .ok (.getfield 79, 3) := by decide +kernel
theorem dX6_next_228 : decode cX6_next 228 = .ok (.putfield 79, 3) := by decide +kernel
theorem dX6_next_231 : decode cX6_next 231 = .ok (.aload_n 0, 1) := by decide +kernel
theorem dX6_next_232 : decode cX6_next 232 = .ok (.dup, 1) := by decide +kernel
theorem dX6_next_233 : decode cX6_next 233 = .ok (.getfield 70, 3) := by decide +kernel
theorem dX6_next_236 : decode cX6_next 236 = .ok (.iconst 1, 1) := by decide +kernel
theorem dX6_next_237 : decode cX6_next 237 = .ok (.iadd, 1) := by decide +kernel
theorem dX6_next_238 : decode cX6_next 238 = .ok (.putfield 70, 3) := by decide +kernel
theorem dX6_next_241 : decode cX6_next 241 = .ok (.goto (-80), 3) := by decide +kernel
theorem dX6_next_244 : decode cX6_next 244 = .ok (.aload_n 0, 1) := by decide +kernel
theorem dX6_next_245 : decode cX6_next 245 = .ok (.aload_n 0, 1) := by decide +kernel
theorem dX6_next_246 : decode cX6_next 246 = .ok (.getfield 70, 3) := by decide +kernel
theorem dX6_next_249 : decode cX6_next 249 = .ok (.aload_n 0, 1) := by decide +kernel
theorem dX6_next_250 : decode cX6_next 250 = .ok (.getfield 73, 3) := by decide +kernel
theorem dX6_next_253 : decode cX6_next 253 = .ok (.isub, 1) := by decide +kernel
theorem dX6_next_254 : decode cX6_next 254 = .ok (.iconst 4, 1) := by decide +kernel
theorem dX6_next_255 : decode cX6_next 255 = .ok (.if_icmp .ge 26, 3) := by decide +kernel
theorem dX6_next_258 : decode cX6_next 258 = .ok (.iload_n 1, 1) := by decide +kernel
theorem dX6_next_259 : decode cX6_next 259 = .ok (.bipush 48, 2) := by decide +kernel
theorem dX6_next_261 : decode cX6_next 261 = .ok (.if_icmp .ne 16, 3) := by decide +kernel
theorem dX6_next_264 : decode cX6_next 264 = .ok (.aload_n 0, 1) := by decide +kernel
theorem dX6_next_265 : decode cX6_next 265 = .ok (.getfield 70, 3) := by decide +kernel
theorem dX6_next_268 : decode cX6_next 268 = .ok (.aload_n 0, 1) := by decide +kernel
theorem dX6_next_269 : decode cX6_next 269 = .ok (.getfield 73, 3) := by decide +kernel
theorem dX6_next_272 : decode cX6_next 272 = .ok (.isub, 1) := by decide +kernel
theorem dX6_next_273 : decode cX6_next 273 = .ok (.iconst 1, 1) := by decide +kernel
theorem dX6_next_274 : decode cX6_next 274 = .ok (.if_icmp .ne 7, 3) := by decide +kernel
theorem dX6_next_277 : decode cX6_next 277 = .ok (.iconst 2, 1) := by decide +kernel
theorem dX6_next_278 : decode cX6_next 278 = .ok (.goto 4, 3) := by decide +kernel
theorem dX6_next_281 : decode cX6_next 281 = .ok (.iconst (-1), 1) := by decide +kernel
theorem dX6_next_282 : decode cX6_next 282 = .ok (.putfield 76, 3) := by decide +kernel
theorem dX6_next_285 : decode cX6_next 285 = .ok (.goto 28, 3) := by decide +kernel
theorem dX6_next_288 : decode cX6_next 288 = .ok (.aload_n 0, 1) := by decide +kernel
theorem dX6_next_289 : decode cX6_next 289 = .ok (.dup, 1) := by decide +kernel
theorem dX6_next_290 : decode cX6_next 290 = .ok (.getfield 70, 3) := by decide +kernel
theorem dX6_next_293 : decode cX6_next 293 = .ok (.iconst 1, 1) := by decide +kernel
theorem dX6_next_294 : decode cX6_next 294 = .ok (.iadd, 1) := by decide +kernel
theorem dX6_next_295 : decode cX6_next 295 = .ok (.putfield 70, 3) := by decide +kernel
theorem dX6_next_298 : decode cX6_next 298 = .ok (.aload_n 0, 1) := by decide +kernel
theorem dX6_next_299 : decode cX6_next 299 = .ok (.iload_n 1, 1) := by decide +kernel
theorem dX6_next_300 : decode cX6_next 300 = .ok (.bipush 59, 2) := by decide +kernel
theorem dX6_next_302 : decode cX6_next 302 = .ok (.if_icmp .ne 7, 3) := by decide +kernel
theorem dX6_next_305 : decode cX6_next 305 = .ok (.iconst 3, 1) := by decide +kernel
theorem dX6_next_306 : decode cX6_next 306 = .ok (.goto 4, 3) := by decide +kernel
theorem dX6_next_309 : decode cX6_next 309 = .ok (.iconst (-1), 1) := by decide +kernel
theorem dX6_next_310 : decode cX6_next 310 = .ok (.putfield 76, 3) := by decide +kernel
theorem dX6_next_313 : decode cX6_next 313 = .ok (.return_, 1) := by decide +kernel
set_option maxHeartbeats 4000000 in
set_option maxRecDepth 100000 in
theorem c_X6_next (E : GE) (l : Launch) (a0 : Nat → Nat) (M0 : Mo) (post : Mo → Prop) (h : wp_X6_next M0 post) : Met l yX6_next (wz yX6_next cX6_next 2 none) { frames := 2, cells := 0, slots := 0, locals := 45 } (gPc E [.ref (a0 99)] (gW [bModel E a0 M0])) (gQv E (gW [bModel E a0 M0]) (fun (u : Mo) => post u) (fun (u : Mo) w => w = gW [bModel E a0 u])) 0 0 (gIn (gW [bModel E a0 M0])) := by
  unfold wp_X6_next at h
  refine g_of_v (by decide) (Nat.le_of_ble_eq_true rfl) ?_
  intro p e s m below meth c A Q hx hb hml hown ht hE hP hD hret ls hl
  have hK := hE.1
  have hS : va_S A s.heap s.heap [] := va_S.rf
  have hl : lv_has ls 2 [(0, .ref (a0 99))] := hl
  have J244 : ∀ (x1_j244 : Int32) (M0_j244 : Mo) (H : Heap) (locs : List Loc) (ls : Array Slot), wp_X6_next_J244 post x1_j244 M0_j244 → gP E (gW [bModel E a0 M0_j244]) H → va_D A (gW [bModel E a0 M0_j244]) → va_S A s.heap H locs → lv_has ls 2 [(0, .ref (a0 99)), (1, .int x1_j244)] → W p l e { frames := 2, cells := 0, slots := 0, locals := 45 } s m ([.ref (a0 99)] : List Value).toArray below meth c H locs 0 0 Q (F0 m 244 ls []) := by
    intro x1_j244 M0_j244 H locs ls h hP hD hS hl
    unfold wp_X6_next_J244 at h
    refine lv_aload_n hx hb dX6_next_244 rfl (lv_at hl 0 rfl) ?_
    refine lv_aload_n hx hb dX6_next_245 rfl (lv_at hl 0 rfl) ?_
    refine va_get (D := (E.1, E.2.1)) (ci := 6) (v := .int (M0_j244.1.1 20)) (C := RX6) (T := TX6) (N := 26) hx hb ht wu_X6 hown hK hP 0 rfl rfl 20 (by decide) (ht _ wk_X6_70) (fun _ h9 => h9) rfl dX6_next_246 ?_
    refine lv_aload_n hx hb dX6_next_249 rfl (lv_at hl 0 rfl) ?_
    refine va_get (D := (E.1, E.2.1)) (ci := 6) (v := .int (M0_j244.1.1 21)) (C := RX6) (T := TX6) (N := 26) hx hb ht wu_X6 hown hK hP 0 rfl rfl 21 (by decide) (ht _ wk_X6_73) (fun _ h9 => h9) rfl dX6_next_250 ?_
    refine lv_isub hx hb dX6_next_253 ?_
    refine lv_iconst (v := 4) hx hb dX6_next_254 (by decide) ?_
    refine lv_icmp_ge (tgt := 281) hx hb dX6_next_255 (by decide) (fun c_4 => ?_) (fun c_4 => ?_)
    · have h := h.1 c_4
      refine lv_iconst (v := (-1)) hx hb dX6_next_281 (by decide) ?_
      refine va_put (D := (E.1, E.2.1)) (ci := 6) (v := .int (-1)) (ty := .int) (C := RX6) (T := TX6) (N := 26) hx hb ht wu_X6 tyX6 tyX6_ok nmX6 hown hK hP hD hS 0 rfl rfl 22 (by decide) (ht _ wk_X6_76) (fun _ h9 => h9) rfl (by decide +kernel) rfl rfl (Nat.le_of_ble_eq_true rfl) dX6_next_282 (fun H locs hP hD hS => ?_)
      have hP : gP E (gW [bModel E a0 (pmf M0_j244 22 (-1))]) H := hP
      have hD : va_D A (gW [bModel E a0 (pmf M0_j244 22 (-1))]) := hD
      refine lv_goto (tgt := 313) hx hb dX6_next_285 (by decide) ?_
      exact hret (pmf M0_j244 22 (-1)) _ _ _ _ _ h rfl hP hD hS dX6_next_313
    · have h := h.2 c_4
      refine lv_iload_n hx hb dX6_next_258 rfl (lv_at hl 1 rfl) ?_
      refine lv_bipush (v := 48) hx hb dX6_next_259 (by decide) ?_
      refine lv_icmp_ne (tgt := 277) hx hb dX6_next_261 (by decide) (fun c_5 => ?_) (fun c_5 => ?_)
      · have h := h.1 c_5
        refine lv_iconst (v := 2) hx hb dX6_next_277 (by decide) ?_
        refine lv_goto (tgt := 282) hx hb dX6_next_278 (by decide) ?_
        refine va_put (D := (E.1, E.2.1)) (ci := 6) (v := .int 2) (ty := .int) (C := RX6) (T := TX6) (N := 26) hx hb ht wu_X6 tyX6 tyX6_ok nmX6 hown hK hP hD hS 0 rfl rfl 22 (by decide) (ht _ wk_X6_76) (fun _ h9 => h9) rfl (by decide +kernel) rfl rfl (Nat.le_of_ble_eq_true rfl) dX6_next_282 (fun H locs hP hD hS => ?_)
        have hP : gP E (gW [bModel E a0 (pmf M0_j244 22 2)]) H := hP
        have hD : va_D A (gW [bModel E a0 (pmf M0_j244 22 2)]) := hD
        refine lv_goto (tgt := 313) hx hb dX6_next_285 (by decide) ?_
        exact hret (pmf M0_j244 22 2) _ _ _ _ _ h rfl hP hD hS dX6_next_313
      · have h := h.2 c_5
        refine lv_aload_n hx hb dX6_next_264 rfl (lv_at hl 0 rfl) ?_
        refine va_get (D := (E.1, E.2.1)) (ci := 6) (v := .int (M0_j244.1.1 20)) (C := RX6) (T := TX6) (N := 26) hx hb ht wu_X6 hown hK hP 0 rfl rfl 20 (by decide) (ht _ wk_X6_70) (fun _ h9 => h9) rfl dX6_next_265 ?_
        refine lv_aload_n hx hb dX6_next_268 rfl (lv_at hl 0 rfl) ?_
        refine va_get (D := (E.1, E.2.1)) (ci := 6) (v := .int (M0_j244.1.1 21)) (C := RX6) (T := TX6) (N := 26) hx hb ht wu_X6 hown hK hP 0 rfl rfl 21 (by decide) (ht _ wk_X6_73) (fun _ h9 => h9) rfl dX6_next_269 ?_
        refine lv_isub hx hb dX6_next_272 ?_
        refine lv_iconst (v := 1) hx hb dX6_next_273 (by decide) ?_
        refine lv_icmp_ne (tgt := 281) hx hb dX6_next_274 (by decide) (fun c_6 => ?_) (fun c_6 => ?_)
        · have h := h.1 c_6
          refine lv_iconst (v := (-1)) hx hb dX6_next_281 (by decide) ?_
          refine va_put (D := (E.1, E.2.1)) (ci := 6) (v := .int (-1)) (ty := .int) (C := RX6) (T := TX6) (N := 26) hx hb ht wu_X6 tyX6 tyX6_ok nmX6 hown hK hP hD hS 0 rfl rfl 22 (by decide) (ht _ wk_X6_76) (fun _ h9 => h9) rfl (by decide +kernel) rfl rfl (Nat.le_of_ble_eq_true rfl) dX6_next_282 (fun H locs hP hD hS => ?_)
          have hP : gP E (gW [bModel E a0 (pmf M0_j244 22 (-1))]) H := hP
          have hD : va_D A (gW [bModel E a0 (pmf M0_j244 22 (-1))]) := hD
          refine lv_goto (tgt := 313) hx hb dX6_next_285 (by decide) ?_
          exact hret (pmf M0_j244 22 (-1)) _ _ _ _ _ h rfl hP hD hS dX6_next_313
        · have h := h.2 c_6
          refine lv_iconst (v := 2) hx hb dX6_next_277 (by decide) ?_
          refine lv_goto (tgt := 282) hx hb dX6_next_278 (by decide) ?_
          refine va_put (D := (E.1, E.2.1)) (ci := 6) (v := .int 2) (ty := .int) (C := RX6) (T := TX6) (N := 26) hx hb ht wu_X6 tyX6 tyX6_ok nmX6 hown hK hP hD hS 0 rfl rfl 22 (by decide) (ht _ wk_X6_76) (fun _ h9 => h9) rfl (by decide +kernel) rfl rfl (Nat.le_of_ble_eq_true rfl) dX6_next_282 (fun H locs hP hD hS => ?_)
          have hP : gP E (gW [bModel E a0 (pmf M0_j244 22 2)]) H := hP
          have hD : va_D A (gW [bModel E a0 (pmf M0_j244 22 2)]) := hD
          refine lv_goto (tgt := 313) hx hb dX6_next_285 (by decide) ?_
          exact hret (pmf M0_j244 22 2) _ _ _ _ _ h rfl hP hD hS dX6_next_313
  have J38 : ∀ (M0_j38 : Mo) (H : Heap) (locs : List Loc) (ls : Array Slot), wp_X6_next_J38 post M0_j38 → gP E (gW [bModel E a0 M0_j38]) H → va_D A (gW [bModel E a0 M0_j38]) → va_S A s.heap H locs → lv_has ls 2 [(0, .ref (a0 99))] → W p l e { frames := 2, cells := 0, slots := 0, locals := 45 } s m ([.ref (a0 99)] : List Value).toArray below meth c H locs 0 0 Q (F0 m 38 ls []) := by
    intro M0_j38 H locs ls h hP hD hS hl
    unfold wp_X6_next_J38 at h
    refine lv_aload_n hx hb dX6_next_38 rfl (lv_at hl 0 rfl) ?_
    refine lv_aload_n hx hb dX6_next_39 rfl (lv_at hl 0 rfl) ?_
    refine va_get (D := (E.1, E.2.1)) (ci := 6) (v := .int (M0_j38.1.1 20)) (C := RX6) (T := TX6) (N := 26) hx hb ht wu_X6 hown hK hP 0 rfl rfl 20 (by decide) (ht _ wk_X6_70) (fun _ h9 => h9) rfl dX6_next_40 ?_
    refine va_put (D := (E.1, E.2.1)) (ci := 6) (v := .int (M0_j38.1.1 20)) (ty := .int) (C := RX6) (T := TX6) (N := 26) hx hb ht wu_X6 tyX6 tyX6_ok nmX6 hown hK hP hD hS 0 rfl rfl 21 (by decide) (ht _ wk_X6_73) (fun _ h9 => h9) rfl (by decide +kernel) rfl rfl (Nat.le_of_ble_eq_true rfl) dX6_next_43 (fun H locs hP hD hS => ?_)
    have hP : gP E (gW [bModel E a0 (pmf M0_j38 21 (M0_j38.1.1 20))]) H := hP
    have hD : va_D A (gW [bModel E a0 (pmf M0_j38 21 (M0_j38.1.1 20))]) := hD
    refine lv_aload_n hx hb dX6_next_46 rfl (lv_at hl 0 rfl) ?_
    refine lv_iconst (v := 0) hx hb dX6_next_47 (by decide) ?_
    refine va_put (D := (E.1, E.2.1)) (ci := 6) (v := .int 0) (ty := .int) (C := RX6) (T := TX6) (N := 26) hx hb ht wu_X6 tyX6 tyX6_ok nmX6 hown hK hP hD hS 0 rfl rfl 22 (by decide) (ht _ wk_X6_76) (fun _ h9 => h9) rfl (by decide +kernel) rfl rfl (Nat.le_of_ble_eq_true rfl) dX6_next_48 (fun H locs hP hD hS => ?_)
    have hP : gP E (gW [bModel E a0 (pmf (pmf M0_j38 21 (M0_j38.1.1 20)) 22 0)]) H := hP
    have hD : va_D A (gW [bModel E a0 (pmf (pmf M0_j38 21 (M0_j38.1.1 20)) 22 0)]) := hD
    obtain ⟨M_46, eM_46⟩ : ∃ z : Mo, z = (pmf (pmf M0_j38 21 (M0_j38.1.1 20)) 22 0) := ⟨_, rfl⟩
    have h := h M_46 eM_46
    rw [← eM_46] at hP hD
    refine lv_aload_n hx hb dX6_next_51 rfl (lv_at hl 0 rfl) ?_
    refine lv_iconst (v := 0) hx hb dX6_next_52 (by decide) ?_
    refine va_put (D := (E.1, E.2.1)) (ci := 6) (v := .int 0) (ty := .int) (C := RX6) (T := TX6) (N := 26) hx hb ht wu_X6 tyX6 tyX6_ok nmX6 hown hK hP hD hS 0 rfl rfl 23 (by decide) (ht _ wk_X6_79) (fun _ h9 => h9) rfl (by decide +kernel) rfl rfl (Nat.le_of_ble_eq_true rfl) dX6_next_53 (fun H locs hP hD hS => ?_)
    have hP : gP E (gW [bModel E a0 (pmf M_46 23 0)]) H := hP
    have hD : va_D A (gW [bModel E a0 (pmf M_46 23 0)]) := hD
    refine lv_aload_n hx hb dX6_next_56 rfl (lv_at hl 0 rfl) ?_
    refine va_get (D := (E.1, E.2.1)) (ci := 6) (v := .int ((pmf M_46 23 0).1.1 20)) (C := RX6) (T := TX6) (N := 26) hx hb ht wu_X6 hown hK hP 0 rfl rfl 20 (by decide) (ht _ wk_X6_70) (fun _ h9 => h9) rfl dX6_next_57 ?_
    refine lv_aload_n hx hb dX6_next_60 rfl (lv_at hl 0 rfl) ?_
    refine va_get (D := (E.1, E.2.1)) (ci := 6) (v := .int ((pmf M_46 23 0).1.1 14)) (C := RX6) (T := TX6) (N := 26) hx hb ht wu_X6 hown hK hP 0 rfl rfl 14 (by decide) (ht _ wk_X6_59) (fun _ h9 => h9) rfl dX6_next_61 ?_
    refine lv_icmp_ne (tgt := 68) hx hb dX6_next_64 (by decide) (fun c_47 => ?_) (fun c_47 => ?_)
    · have h := h.1 c_47
      refine lv_aload_n hx hb dX6_next_68 rfl (lv_at hl 0 rfl) ?_
      refine va_get (D := (E.1, E.2.1)) (ci := 6) (v := .ref (a0 15)) (C := RX6) (T := TX6) (N := 26) hx hb ht wu_X6 hown hK hP 0 rfl rfl 15 (by decide) (ht _ wk_X6_38) (fun _ h9 => h9) rfl dX6_next_69 ?_
      refine lv_aload_n hx hb dX6_next_72 rfl (lv_at hl 0 rfl) ?_
      refine va_get (D := (E.1, E.2.1)) (ci := 6) (v := .int ((pmf M_46 23 0).1.1 20)) (C := RX6) (T := TX6) (N := 26) hx hb ht wu_X6 hown hK hP 0 rfl rfl 20 (by decide) (ht _ wk_X6_70) (fun _ h9 => h9) rfl dX6_next_73 ?_
      refine va_iald hx hb hK hP 9 0 rfl rfl h.1 dX6_next_76 ?_
      have h := h.2
      refine lv_topi (fun y_48 ey_48 => ?_)
      have h := h y_48 ey_48
      refine lv_istore_n (lv' := [(1, .int y_48), (0, .ref (a0 99))]) hx hb dX6_next_77 rfl hl (by decide) rfl (fun ls hl => ?_)
      refine lv_iload_n hx hb dX6_next_78 rfl (lv_at hl 0 rfl) ?_
      have p1 := gB (n := 1) (bs := [bModel E a0 (pmf M_46 23 0)]) (bc := []) (br := [bModel E a0 (pmf M_46 23 0)]) [0] rfl rfl (by decide)
      refine g_i (g_runS (As := [.int y_48]) (rest := []) ⟨hx, hb, hml, hown, ht⟩ hE (c_X6_isLetter E l y_48 _ h) ⟨rfl, rfl⟩ wk_X6_82 wt_X6_isLetter wn_X6 wc_X6_isLetter yd_X6_isLetter ⟨Nat.le_of_ble_eq_true rfl, Nat.le_of_ble_eq_true rfl⟩ hP hD p1 rfl rfl hl.1 rfl (lv_room (Nat.le_of_ble_eq_true rfl)) dX6_next_79 ⟨Nat.zero_le _, Nat.zero_le _⟩) hP hD hS p1 (fun r_49 _ w H locs h hw hP hD hS => ?_)
      subst hw
      clear p1
      have p2 := gB (n := 1) (bs := [bModel E a0 (pmf M_46 23 0)]) (bc := []) (br := [bModel E a0 (pmf M_46 23 0)]) [0] rfl rfl (by decide)
      have hP := gP_perm p2.symm hP
      have hD := gD_perm p2.symm hD
      clear p2
      refine lv_if_eq (tgt := 154) hx hb dX6_next_82 (by decide) (fun c_50 => ?_) (fun c_50 => ?_)
      · have h := h.1 c_50
        refine lv_iload_n hx hb dX6_next_154 rfl (lv_at hl 0 rfl) ?_
        have p1 := gB (n := 1) (bs := [bModel E a0 (pmf M_46 23 0)]) (bc := []) (br := [bModel E a0 (pmf M_46 23 0)]) [0] rfl rfl (by decide)
        refine g_i (g_runS (As := [.int y_48]) (rest := []) ⟨hx, hb, hml, hown, ht⟩ hE (c_X6_isFigure E l y_48 _ h) ⟨rfl, rfl⟩ wk_X6_86 wt_X6_isFigure wn_X6 wc_X6_isFigure yd_X6_isFigure ⟨Nat.le_of_ble_eq_true rfl, Nat.le_of_ble_eq_true rfl⟩ hP hD p1 rfl rfl hl.1 rfl (lv_room (Nat.le_of_ble_eq_true rfl)) dX6_next_155 ⟨Nat.zero_le _, Nat.zero_le _⟩) hP hD hS p1 (fun r_51 _ w H locs h hw hP hD hS => ?_)
        subst hw
        clear p1
        have p2 := gB (n := 1) (bs := [bModel E a0 (pmf M_46 23 0)]) (bc := []) (br := [bModel E a0 (pmf M_46 23 0)]) [0] rfl rfl (by decide)
        have hP := gP_perm p2.symm hP
        have hD := gD_perm p2.symm hD
        clear p2
        refine lv_if_eq (tgt := 288) hx hb dX6_next_158 (by decide) (fun c_52 => ?_) (fun c_52 => ?_)
        · have h := h.1 c_52
          refine lv_aload_n hx hb dX6_next_288 rfl (lv_at hl 1 rfl) ?_
          refine lv_dup hx hb dX6_next_289 rfl ?_
          refine va_get (D := (E.1, E.2.1)) (ci := 6) (v := .int ((pmf M_46 23 0).1.1 20)) (C := RX6) (T := TX6) (N := 26) hx hb ht wu_X6 hown hK hP 0 rfl rfl 20 (by decide) (ht _ wk_X6_70) (fun _ h9 => h9) rfl dX6_next_290 ?_
          refine lv_iconst (v := 1) hx hb dX6_next_293 (by decide) ?_
          refine lv_iadd hx hb dX6_next_294 ?_
          refine va_put (D := (E.1, E.2.1)) (ci := 6) (v := .int (((pmf M_46 23 0).1.1 20) + 1)) (ty := .int) (C := RX6) (T := TX6) (N := 26) hx hb ht wu_X6 tyX6 tyX6_ok nmX6 hown hK hP hD hS 0 rfl rfl 20 (by decide) (ht _ wk_X6_70) (fun _ h9 => h9) rfl (by decide +kernel) rfl rfl (Nat.le_of_ble_eq_true rfl) dX6_next_295 (fun H locs hP hD hS => ?_)
          have hP : gP E (gW [bModel E a0 (pmf (pmf M_46 23 0) 20 (((pmf M_46 23 0).1.1 20) + 1))]) H := hP
          have hD : va_D A (gW [bModel E a0 (pmf (pmf M_46 23 0) 20 (((pmf M_46 23 0).1.1 20) + 1))]) := hD
          obtain ⟨M_53, eM_53⟩ : ∃ z : Mo, z = (pmf (pmf M_46 23 0) 20 (((pmf M_46 23 0).1.1 20) + 1)) := ⟨_, rfl⟩
          have h := h M_53 eM_53
          rw [← eM_53] at hP hD
          refine lv_aload_n hx hb dX6_next_298 rfl (lv_at hl 1 rfl) ?_
          refine lv_iload_n hx hb dX6_next_299 rfl (lv_at hl 0 rfl) ?_
          refine lv_bipush (v := 59) hx hb dX6_next_300 (by decide) ?_
          refine lv_icmp_ne (tgt := 309) hx hb dX6_next_302 (by decide) (fun c_54 => ?_) (fun c_54 => ?_)
          · have h := h.1 c_54
            refine lv_iconst (v := (-1)) hx hb dX6_next_309 (by decide) ?_
            refine va_put (D := (E.1, E.2.1)) (ci := 6) (v := .int (-1)) (ty := .int) (C := RX6) (T := TX6) (N := 26) hx hb ht wu_X6 tyX6 tyX6_ok nmX6 hown hK hP hD hS 0 rfl rfl 22 (by decide) (ht _ wk_X6_76) (fun _ h9 => h9) rfl (by decide +kernel) rfl rfl (Nat.le_of_ble_eq_true rfl) dX6_next_310 (fun H locs hP hD hS => ?_)
            have hP : gP E (gW [bModel E a0 (pmf M_53 22 (-1))]) H := hP
            have hD : va_D A (gW [bModel E a0 (pmf M_53 22 (-1))]) := hD
            exact hret (pmf M_53 22 (-1)) _ _ _ _ _ h rfl hP hD hS dX6_next_313
          · have h := h.2 c_54
            refine lv_iconst (v := 3) hx hb dX6_next_305 (by decide) ?_
            refine lv_goto (tgt := 310) hx hb dX6_next_306 (by decide) ?_
            refine va_put (D := (E.1, E.2.1)) (ci := 6) (v := .int 3) (ty := .int) (C := RX6) (T := TX6) (N := 26) hx hb ht wu_X6 tyX6 tyX6_ok nmX6 hown hK hP hD hS 0 rfl rfl 22 (by decide) (ht _ wk_X6_76) (fun _ h9 => h9) rfl (by decide +kernel) rfl rfl (Nat.le_of_ble_eq_true rfl) dX6_next_310 (fun H locs hP hD hS => ?_)
            have hP : gP E (gW [bModel E a0 (pmf M_53 22 3)]) H := hP
            have hD : va_D A (gW [bModel E a0 (pmf M_53 22 3)]) := hD
            exact hret (pmf M_53 22 3) _ _ _ _ _ h rfl hP hD hS dX6_next_313
        · have h := h.2 c_52
          have L161 : ∀ (n161 : Nat) (M0_161 : Mo) (H : Heap) (locs : List Loc) (ls : Array Slot), wp_X6_next_L161 post y_48 n161 M0_161 → gP E (gW [bModel E a0 M0_161]) H → va_D A (gW [bModel E a0 M0_161]) → va_S A s.heap H locs → lv_has ls 2 [(0, .ref (a0 99)), (1, .int y_48)] → W p l e { frames := 2, cells := 0, slots := 0, locals := 45 } s m ([.ref (a0 99)] : List Value).toArray below meth c H locs 0 0 Q (F0 m 161 ls []) := by
            intro n161
            induction n161 with
            | zero => intro M0_161 H locs ls h; exact h.elim
            | succ n161 ih161 =>
              intro M0_161 H locs ls h hP hD hS hl
              rw [wp_X6_next_L161] at h
              refine lv_aload_n hx hb dX6_next_161 rfl (lv_at hl 0 rfl) ?_
              refine va_get (D := (E.1, E.2.1)) (ci := 6) (v := .int (M0_161.1.1 20)) (C := RX6) (T := TX6) (N := 26) hx hb ht wu_X6 hown hK hP 0 rfl rfl 20 (by decide) (ht _ wk_X6_70) (fun _ h9 => h9) rfl dX6_next_162 ?_
              refine lv_aload_n hx hb dX6_next_165 rfl (lv_at hl 0 rfl) ?_
              refine va_get (D := (E.1, E.2.1)) (ci := 6) (v := .int (M0_161.1.1 14)) (C := RX6) (T := TX6) (N := 26) hx hb ht wu_X6 hown hK hP 0 rfl rfl 14 (by decide) (ht _ wk_X6_59) (fun _ h9 => h9) rfl dX6_next_166 ?_
              refine lv_icmp_ge (tgt := 244) hx hb dX6_next_169 (by decide) (fun c_55 => ?_) (fun c_55 => ?_)
              · have h := h.1 c_55
                exact J244 y_48 M0_161 _ _ _ h hP hD hS (lv_sub hl [0, 1] rfl)
              · have h := h.2 c_55
                refine lv_aload_n hx hb dX6_next_172 rfl (lv_at hl 0 rfl) ?_
                refine va_get (D := (E.1, E.2.1)) (ci := 6) (v := .ref (a0 15)) (C := RX6) (T := TX6) (N := 26) hx hb ht wu_X6 hown hK hP 0 rfl rfl 15 (by decide) (ht _ wk_X6_38) (fun _ h9 => h9) rfl dX6_next_173 ?_
                refine lv_aload_n hx hb dX6_next_176 rfl (lv_at hl 0 rfl) ?_
                refine va_get (D := (E.1, E.2.1)) (ci := 6) (v := .int (M0_161.1.1 20)) (C := RX6) (T := TX6) (N := 26) hx hb ht wu_X6 hown hK hP 0 rfl rfl 20 (by decide) (ht _ wk_X6_70) (fun _ h9 => h9) rfl dX6_next_177 ?_
                refine va_iald hx hb hK hP 9 0 rfl rfl h.1 dX6_next_180 ?_
                have h := h.2
                have p1 := gB (n := 1) (bs := [bModel E a0 M0_161]) (bc := []) (br := [bModel E a0 M0_161]) [0] rfl rfl (by decide)
                refine g_i (g_runS (As := [.int (M0_161.1.2 15 (M0_161.1.1 20).toNatClampNeg)]) (rest := []) ⟨hx, hb, hml, hown, ht⟩ hE (c_X6_isFigure E l (M0_161.1.2 15 (M0_161.1.1 20).toNatClampNeg) _ h) ⟨rfl, rfl⟩ wk_X6_86 wt_X6_isFigure wn_X6 wc_X6_isFigure yd_X6_isFigure ⟨Nat.le_of_ble_eq_true rfl, Nat.le_of_ble_eq_true rfl⟩ hP hD p1 rfl rfl hl.1 rfl (lv_room (Nat.le_of_ble_eq_true rfl)) dX6_next_181 ⟨Nat.zero_le _, Nat.zero_le _⟩) hP hD hS p1 (fun r_56 _ w H locs h hw hP hD hS => ?_)
                subst hw
                clear p1
                have p2 := gB (n := 1) (bs := [bModel E a0 M0_161]) (bc := []) (br := [bModel E a0 M0_161]) [0] rfl rfl (by decide)
                have hP := gP_perm p2.symm hP
                have hD := gD_perm p2.symm hD
                clear p2
                refine lv_if_eq (tgt := 244) hx hb dX6_next_184 (by decide) (fun c_57 => ?_) (fun c_57 => ?_)
                · have h := h.1 c_57
                  exact J244 y_48 M0_161 _ _ _ h hP hD hS (lv_sub hl [0, 1] rfl)
                · have h := h.2 c_57
                  refine lv_aload_n hx hb dX6_next_187 rfl (lv_at hl 0 rfl) ?_
                  refine lv_aload_n hx hb dX6_next_188 rfl (lv_at hl 0 rfl) ?_
                  refine va_get (D := (E.1, E.2.1)) (ci := 6) (v := .int (M0_161.1.1 20)) (C := RX6) (T := TX6) (N := 26) hx hb ht wu_X6 hown hK hP 0 rfl rfl 20 (by decide) (ht _ wk_X6_70) (fun _ h9 => h9) rfl dX6_next_189 ?_
                  refine lv_aload_n hx hb dX6_next_192 rfl (lv_at hl 0 rfl) ?_
                  refine va_get (D := (E.1, E.2.1)) (ci := 6) (v := .int (M0_161.1.1 21)) (C := RX6) (T := TX6) (N := 26) hx hb ht wu_X6 hown hK hP 0 rfl rfl 21 (by decide) (ht _ wk_X6_73) (fun _ h9 => h9) rfl dX6_next_193 ?_
                  refine lv_isub hx hb dX6_next_196 ?_
                  refine lv_iconst (v := 3) hx hb dX6_next_197 (by decide) ?_
                  refine lv_icmp_ge (tgt := 224) hx hb dX6_next_198 (by decide) (fun c_58 => ?_) (fun c_58 => ?_)
                  · have h := h.1 c_58
                    refine lv_aload_n hx hb dX6_next_224 rfl (lv_at hl 0 rfl) ?_
                    refine va_get (D := (E.1, E.2.1)) (ci := 6) (v := .int (M0_161.1.1 23)) (C := RX6) (T := TX6) (N := 26) hx hb ht wu_X6 hown hK hP 0 rfl rfl 23 (by decide) (ht _ wk_X6_79) (fun _ h9 => h9) rfl dX6_next_225 ?_
                    refine va_put (D := (E.1, E.2.1)) (ci := 6) (v := .int (M0_161.1.1 23)) (ty := .int) (C := RX6) (T := TX6) (N := 26) hx hb ht wu_X6 tyX6 tyX6_ok nmX6 hown hK hP hD hS 0 rfl rfl 23 (by decide) (ht _ wk_X6_79) (fun _ h9 => h9) rfl (by decide +kernel) rfl rfl (Nat.le_of_ble_eq_true rfl) dX6_next_228 (fun H locs hP hD hS => ?_)
                    have hP : gP E (gW [bModel E a0 (pmf M0_161 23 (M0_161.1.1 23))]) H := hP
                    have hD : va_D A (gW [bModel E a0 (pmf M0_161 23 (M0_161.1.1 23))]) := hD
                    refine lv_aload_n hx hb dX6_next_231 rfl (lv_at hl 0 rfl) ?_
                    refine lv_dup hx hb dX6_next_232 rfl ?_
                    refine va_get (D := (E.1, E.2.1)) (ci := 6) (v := .int ((pmf M0_161 23 (M0_161.1.1 23)).1.1 20)) (C := RX6) (T := TX6) (N := 26) hx hb ht wu_X6 hown hK hP 0 rfl rfl 20 (by decide) (ht _ wk_X6_70) (fun _ h9 => h9) rfl dX6_next_233 ?_
                    refine lv_iconst (v := 1) hx hb dX6_next_236 (by decide) ?_
                    refine lv_iadd hx hb dX6_next_237 ?_
                    refine va_put (D := (E.1, E.2.1)) (ci := 6) (v := .int (((pmf M0_161 23 (M0_161.1.1 23)).1.1 20) + 1)) (ty := .int) (C := RX6) (T := TX6) (N := 26) hx hb ht wu_X6 tyX6 tyX6_ok nmX6 hown hK hP hD hS 0 rfl rfl 20 (by decide) (ht _ wk_X6_70) (fun _ h9 => h9) rfl (by decide +kernel) rfl rfl (Nat.le_of_ble_eq_true rfl) dX6_next_238 (fun H locs hP hD hS => ?_)
                    have hP : gP E (gW [bModel E a0 (pmf (pmf M0_161 23 (M0_161.1.1 23)) 20 (((pmf M0_161 23 (M0_161.1.1 23)).1.1 20) + 1))]) H := hP
                    have hD : va_D A (gW [bModel E a0 (pmf (pmf M0_161 23 (M0_161.1.1 23)) 20 (((pmf M0_161 23 (M0_161.1.1 23)).1.1 20) + 1))]) := hD
                    obtain ⟨M_59, eM_59⟩ : ∃ z : Mo, z = (pmf (pmf M0_161 23 (M0_161.1.1 23)) 20 (((pmf M0_161 23 (M0_161.1.1 23)).1.1 20) + 1)) := ⟨_, rfl⟩
                    have h := h M_59 eM_59
                    rw [← eM_59] at hP hD
                    refine lv_goto (tgt := 161) hx hb dX6_next_241 (by decide) ?_
                    exact ih161 M_59 _ _ _ h hP hD hS (lv_sub hl [0, 1] rfl)
                  · have h := h.2 c_58
                    refine lv_bipush (v := 10) hx hb dX6_next_201 (by decide) ?_
                    refine lv_aload_n hx hb dX6_next_203 rfl (lv_at hl 0 rfl) ?_
                    refine va_get (D := (E.1, E.2.1)) (ci := 6) (v := .int (M0_161.1.1 23)) (C := RX6) (T := TX6) (N := 26) hx hb ht wu_X6 hown hK hP 0 rfl rfl 23 (by decide) (ht _ wk_X6_79) (fun _ h9 => h9) rfl dX6_next_204 ?_
                    refine lv_imul hx hb dX6_next_207 ?_
                    refine lv_aload_n hx hb dX6_next_208 rfl (lv_at hl 0 rfl) ?_
                    refine va_get (D := (E.1, E.2.1)) (ci := 6) (v := .ref (a0 15)) (C := RX6) (T := TX6) (N := 26) hx hb ht wu_X6 hown hK hP 0 rfl rfl 15 (by decide) (ht _ wk_X6_38) (fun _ h9 => h9) rfl dX6_next_209 ?_
                    refine lv_aload_n hx hb dX6_next_212 rfl (lv_at hl 0 rfl) ?_
                    refine va_get (D := (E.1, E.2.1)) (ci := 6) (v := .int (M0_161.1.1 20)) (C := RX6) (T := TX6) (N := 26) hx hb ht wu_X6 hown hK hP 0 rfl rfl 20 (by decide) (ht _ wk_X6_70) (fun _ h9 => h9) rfl dX6_next_213 ?_
                    refine va_iald hx hb hK hP 9 0 rfl rfl h.1 dX6_next_216 ?_
                    have h := h.2
                    refine lv_iadd hx hb dX6_next_217 ?_
                    refine lv_bipush (v := 48) hx hb dX6_next_218 (by decide) ?_
                    refine lv_isub hx hb dX6_next_220 ?_
                    refine lv_goto (tgt := 228) hx hb dX6_next_221 (by decide) ?_
                    refine va_put (D := (E.1, E.2.1)) (ci := 6) (v := .int (((10 * (M0_161.1.1 23)) + (M0_161.1.2 15 (M0_161.1.1 20).toNatClampNeg)) - 48)) (ty := .int) (C := RX6) (T := TX6) (N := 26) hx hb ht wu_X6 tyX6 tyX6_ok nmX6 hown hK hP hD hS 0 rfl rfl 23 (by decide) (ht _ wk_X6_79) (fun _ h9 => h9) rfl (by decide +kernel) rfl rfl (Nat.le_of_ble_eq_true rfl) dX6_next_228 (fun H locs hP hD hS => ?_)
                    have hP : gP E (gW [bModel E a0 (pmf M0_161 23 (((10 * (M0_161.1.1 23)) + (M0_161.1.2 15 (M0_161.1.1 20).toNatClampNeg)) - 48))]) H := hP
                    have hD : va_D A (gW [bModel E a0 (pmf M0_161 23 (((10 * (M0_161.1.1 23)) + (M0_161.1.2 15 (M0_161.1.1 20).toNatClampNeg)) - 48))]) := hD
                    obtain ⟨M_60, eM_60⟩ : ∃ z : Mo, z = (pmf M0_161 23 (((10 * (M0_161.1.1 23)) + (M0_161.1.2 15 (M0_161.1.1 20).toNatClampNeg)) - 48)) := ⟨_, rfl⟩
                    have h := h M_60 eM_60
                    rw [← eM_60] at hP hD
                    refine lv_aload_n hx hb dX6_next_231 rfl (lv_at hl 0 rfl) ?_
                    refine lv_dup hx hb dX6_next_232 rfl ?_
                    refine va_get (D := (E.1, E.2.1)) (ci := 6) (v := .int (M_60.1.1 20)) (C := RX6) (T := TX6) (N := 26) hx hb ht wu_X6 hown hK hP 0 rfl rfl 20 (by decide) (ht _ wk_X6_70) (fun _ h9 => h9) rfl dX6_next_233 ?_
                    refine lv_iconst (v := 1) hx hb dX6_next_236 (by decide) ?_
                    refine lv_iadd hx hb dX6_next_237 ?_
                    refine va_put (D := (E.1, E.2.1)) (ci := 6) (v := .int ((M_60.1.1 20) + 1)) (ty := .int) (C := RX6) (T := TX6) (N := 26) hx hb ht wu_X6 tyX6 tyX6_ok nmX6 hown hK hP hD hS 0 rfl rfl 20 (by decide) (ht _ wk_X6_70) (fun _ h9 => h9) rfl (by decide +kernel) rfl rfl (Nat.le_of_ble_eq_true rfl) dX6_next_238 (fun H locs hP hD hS => ?_)
                    have hP : gP E (gW [bModel E a0 (pmf M_60 20 ((M_60.1.1 20) + 1))]) H := hP
                    have hD : va_D A (gW [bModel E a0 (pmf M_60 20 ((M_60.1.1 20) + 1))]) := hD
                    refine lv_goto (tgt := 161) hx hb dX6_next_241 (by decide) ?_
                    exact ih161 (pmf M_60 20 ((M_60.1.1 20) + 1)) _ _ _ h hP hD hS (lv_sub hl [0, 1] rfl)
          obtain ⟨n161, h⟩ := h
          exact L161 n161 (pmf M_46 23 0) _ _ _ h hP hD hS (lv_sub hl [1, 0] rfl)
      · have h := h.2 c_50
        have L85 : ∀ (n85 : Nat) (M0_85 : Mo) (H : Heap) (locs : List Loc) (ls : Array Slot), wp_X6_next_L85 post y_48 n85 M0_85 → gP E (gW [bModel E a0 M0_85]) H → va_D A (gW [bModel E a0 M0_85]) → va_S A s.heap H locs → lv_has ls 2 [(0, .ref (a0 99)), (1, .int y_48)] → W p l e { frames := 2, cells := 0, slots := 0, locals := 45 } s m ([.ref (a0 99)] : List Value).toArray below meth c H locs 0 0 Q (F0 m 85 ls []) := by
          intro n85
          induction n85 with
          | zero => intro M0_85 H locs ls h; exact h.elim
          | succ n85 ih85 =>
            intro M0_85 H locs ls h hP hD hS hl
            rw [wp_X6_next_L85] at h
            refine lv_aload_n hx hb dX6_next_85 rfl (lv_at hl 0 rfl) ?_
            refine va_get (D := (E.1, E.2.1)) (ci := 6) (v := .int (M0_85.1.1 20)) (C := RX6) (T := TX6) (N := 26) hx hb ht wu_X6 hown hK hP 0 rfl rfl 20 (by decide) (ht _ wk_X6_70) (fun _ h9 => h9) rfl dX6_next_86 ?_
            refine lv_aload_n hx hb dX6_next_89 rfl (lv_at hl 0 rfl) ?_
            refine va_get (D := (E.1, E.2.1)) (ci := 6) (v := .int (M0_85.1.1 14)) (C := RX6) (T := TX6) (N := 26) hx hb ht wu_X6 hown hK hP 0 rfl rfl 14 (by decide) (ht _ wk_X6_59) (fun _ h9 => h9) rfl dX6_next_90 ?_
            refine lv_icmp_ge (tgt := 124) hx hb dX6_next_93 (by decide) (fun c_61 => ?_) (fun c_61 => ?_)
            · have h := h.1 c_61
              refine lv_aload_n hx hb dX6_next_124 rfl (lv_at hl 0 rfl) ?_
              refine lv_iconst (v := 1) hx hb dX6_next_125 (by decide) ?_
              refine va_put (D := (E.1, E.2.1)) (ci := 6) (v := .int 1) (ty := .int) (C := RX6) (T := TX6) (N := 26) hx hb ht wu_X6 tyX6 tyX6_ok nmX6 hown hK hP hD hS 0 rfl rfl 22 (by decide) (ht _ wk_X6_76) (fun _ h9 => h9) rfl (by decide +kernel) rfl rfl (Nat.le_of_ble_eq_true rfl) dX6_next_126 (fun H locs hP hD hS => ?_)
              have hP : gP E (gW [bModel E a0 (pmf M0_85 22 1)]) H := hP
              have hD : va_D A (gW [bModel E a0 (pmf M0_85 22 1)]) := hD
              refine lv_aload_n hx hb dX6_next_129 rfl (lv_at hl 0 rfl) ?_
              refine lv_aload_n hx hb dX6_next_130 rfl (lv_at hl 0 rfl) ?_
              refine va_get (D := (E.1, E.2.1)) (ci := 6) (v := .int ((pmf M0_85 22 1).1.1 20)) (C := RX6) (T := TX6) (N := 26) hx hb ht wu_X6 hown hK hP 0 rfl rfl 20 (by decide) (ht _ wk_X6_70) (fun _ h9 => h9) rfl dX6_next_131 ?_
              refine lv_aload_n hx hb dX6_next_134 rfl (lv_at hl 0 rfl) ?_
              refine va_get (D := (E.1, E.2.1)) (ci := 6) (v := .int ((pmf M0_85 22 1).1.1 21)) (C := RX6) (T := TX6) (N := 26) hx hb ht wu_X6 hown hK hP 0 rfl rfl 21 (by decide) (ht _ wk_X6_73) (fun _ h9 => h9) rfl dX6_next_135 ?_
              refine lv_isub hx hb dX6_next_138 ?_
              refine lv_iconst (v := 1) hx hb dX6_next_139 (by decide) ?_
              refine lv_icmp_ne (tgt := 147) hx hb dX6_next_140 (by decide) (fun c_62 => ?_) (fun c_62 => ?_)
              · have h := h.1 c_62
                refine lv_iconst (v := 0) hx hb dX6_next_147 (by decide) ?_
                refine va_put (D := (E.1, E.2.1)) (ci := 6) (v := .int 0) (ty := .int) (C := RX6) (T := TX6) (N := 26) hx hb ht wu_X6 tyX6 tyX6_ok nmX6 hown hK hP hD hS 0 rfl rfl 23 (by decide) (ht _ wk_X6_79) (fun _ h9 => h9) rfl (by decide +kernel) rfl rfl (Nat.le_of_ble_eq_true rfl) dX6_next_148 (fun H locs hP hD hS => ?_)
                have hP : gP E (gW [bModel E a0 (pmf (pmf M0_85 22 1) 23 0)]) H := hP
                have hD : va_D A (gW [bModel E a0 (pmf (pmf M0_85 22 1) 23 0)]) := hD
                obtain ⟨M_63, eM_63⟩ : ∃ z : Mo, z = (pmf (pmf M0_85 22 1) 23 0) := ⟨_, rfl⟩
                have h := h M_63 eM_63
                rw [← eM_63] at hP hD
                refine lv_goto (tgt := 313) hx hb dX6_next_151 (by decide) ?_
                exact hret M_63 _ _ _ _ _ h rfl hP hD hS dX6_next_313
              · have h := h.2 c_62
                refine lv_iload_n hx hb dX6_next_143 rfl (lv_at hl 1 rfl) ?_
                refine lv_goto (tgt := 148) hx hb dX6_next_144 (by decide) ?_
                refine va_put (D := (E.1, E.2.1)) (ci := 6) (v := .int y_48) (ty := .int) (C := RX6) (T := TX6) (N := 26) hx hb ht wu_X6 tyX6 tyX6_ok nmX6 hown hK hP hD hS 0 rfl rfl 23 (by decide) (ht _ wk_X6_79) (fun _ h9 => h9) rfl (by decide +kernel) rfl rfl (Nat.le_of_ble_eq_true rfl) dX6_next_148 (fun H locs hP hD hS => ?_)
                have hP : gP E (gW [bModel E a0 (pmf (pmf M0_85 22 1) 23 y_48)]) H := hP
                have hD : va_D A (gW [bModel E a0 (pmf (pmf M0_85 22 1) 23 y_48)]) := hD
                obtain ⟨M_64, eM_64⟩ : ∃ z : Mo, z = (pmf (pmf M0_85 22 1) 23 y_48) := ⟨_, rfl⟩
                have h := h M_64 eM_64
                rw [← eM_64] at hP hD
                refine lv_goto (tgt := 313) hx hb dX6_next_151 (by decide) ?_
                exact hret M_64 _ _ _ _ _ h rfl hP hD hS dX6_next_313
            · have h := h.2 c_61
              refine lv_aload_n hx hb dX6_next_96 rfl (lv_at hl 0 rfl) ?_
              refine va_get (D := (E.1, E.2.1)) (ci := 6) (v := .ref (a0 15)) (C := RX6) (T := TX6) (N := 26) hx hb ht wu_X6 hown hK hP 0 rfl rfl 15 (by decide) (ht _ wk_X6_38) (fun _ h9 => h9) rfl dX6_next_97 ?_
              refine lv_aload_n hx hb dX6_next_100 rfl (lv_at hl 0 rfl) ?_
              refine va_get (D := (E.1, E.2.1)) (ci := 6) (v := .int (M0_85.1.1 20)) (C := RX6) (T := TX6) (N := 26) hx hb ht wu_X6 hown hK hP 0 rfl rfl 20 (by decide) (ht _ wk_X6_70) (fun _ h9 => h9) rfl dX6_next_101 ?_
              refine va_iald hx hb hK hP 9 0 rfl rfl h.1 dX6_next_104 ?_
              have h := h.2
              have p1 := gB (n := 1) (bs := [bModel E a0 M0_85]) (bc := []) (br := [bModel E a0 M0_85]) [0] rfl rfl (by decide)
              refine g_i (g_runS (As := [.int (M0_85.1.2 15 (M0_85.1.1 20).toNatClampNeg)]) (rest := []) ⟨hx, hb, hml, hown, ht⟩ hE (c_X6_isLetter E l (M0_85.1.2 15 (M0_85.1.1 20).toNatClampNeg) _ h) ⟨rfl, rfl⟩ wk_X6_82 wt_X6_isLetter wn_X6 wc_X6_isLetter yd_X6_isLetter ⟨Nat.le_of_ble_eq_true rfl, Nat.le_of_ble_eq_true rfl⟩ hP hD p1 rfl rfl hl.1 rfl (lv_room (Nat.le_of_ble_eq_true rfl)) dX6_next_105 ⟨Nat.zero_le _, Nat.zero_le _⟩) hP hD hS p1 (fun r_65 _ w H locs h hw hP hD hS => ?_)
              subst hw
              clear p1
              have p2 := gB (n := 1) (bs := [bModel E a0 M0_85]) (bc := []) (br := [bModel E a0 M0_85]) [0] rfl rfl (by decide)
              have hP := gP_perm p2.symm hP
              have hD := gD_perm p2.symm hD
              clear p2
              refine lv_if_eq (tgt := 124) hx hb dX6_next_108 (by decide) (fun c_66 => ?_) (fun c_66 => ?_)
              · have h := h.1 c_66
                refine lv_aload_n hx hb dX6_next_124 rfl (lv_at hl 0 rfl) ?_
                refine lv_iconst (v := 1) hx hb dX6_next_125 (by decide) ?_
                refine va_put (D := (E.1, E.2.1)) (ci := 6) (v := .int 1) (ty := .int) (C := RX6) (T := TX6) (N := 26) hx hb ht wu_X6 tyX6 tyX6_ok nmX6 hown hK hP hD hS 0 rfl rfl 22 (by decide) (ht _ wk_X6_76) (fun _ h9 => h9) rfl (by decide +kernel) rfl rfl (Nat.le_of_ble_eq_true rfl) dX6_next_126 (fun H locs hP hD hS => ?_)
                have hP : gP E (gW [bModel E a0 (pmf M0_85 22 1)]) H := hP
                have hD : va_D A (gW [bModel E a0 (pmf M0_85 22 1)]) := hD
                refine lv_aload_n hx hb dX6_next_129 rfl (lv_at hl 0 rfl) ?_
                refine lv_aload_n hx hb dX6_next_130 rfl (lv_at hl 0 rfl) ?_
                refine va_get (D := (E.1, E.2.1)) (ci := 6) (v := .int ((pmf M0_85 22 1).1.1 20)) (C := RX6) (T := TX6) (N := 26) hx hb ht wu_X6 hown hK hP 0 rfl rfl 20 (by decide) (ht _ wk_X6_70) (fun _ h9 => h9) rfl dX6_next_131 ?_
                refine lv_aload_n hx hb dX6_next_134 rfl (lv_at hl 0 rfl) ?_
                refine va_get (D := (E.1, E.2.1)) (ci := 6) (v := .int ((pmf M0_85 22 1).1.1 21)) (C := RX6) (T := TX6) (N := 26) hx hb ht wu_X6 hown hK hP 0 rfl rfl 21 (by decide) (ht _ wk_X6_73) (fun _ h9 => h9) rfl dX6_next_135 ?_
                refine lv_isub hx hb dX6_next_138 ?_
                refine lv_iconst (v := 1) hx hb dX6_next_139 (by decide) ?_
                refine lv_icmp_ne (tgt := 147) hx hb dX6_next_140 (by decide) (fun c_67 => ?_) (fun c_67 => ?_)
                · have h := h.1 c_67
                  refine lv_iconst (v := 0) hx hb dX6_next_147 (by decide) ?_
                  refine va_put (D := (E.1, E.2.1)) (ci := 6) (v := .int 0) (ty := .int) (C := RX6) (T := TX6) (N := 26) hx hb ht wu_X6 tyX6 tyX6_ok nmX6 hown hK hP hD hS 0 rfl rfl 23 (by decide) (ht _ wk_X6_79) (fun _ h9 => h9) rfl (by decide +kernel) rfl rfl (Nat.le_of_ble_eq_true rfl) dX6_next_148 (fun H locs hP hD hS => ?_)
                  have hP : gP E (gW [bModel E a0 (pmf (pmf M0_85 22 1) 23 0)]) H := hP
                  have hD : va_D A (gW [bModel E a0 (pmf (pmf M0_85 22 1) 23 0)]) := hD
                  obtain ⟨M_68, eM_68⟩ : ∃ z : Mo, z = (pmf (pmf M0_85 22 1) 23 0) := ⟨_, rfl⟩
                  have h := h M_68 eM_68
                  rw [← eM_68] at hP hD
                  refine lv_goto (tgt := 313) hx hb dX6_next_151 (by decide) ?_
                  exact hret M_68 _ _ _ _ _ h rfl hP hD hS dX6_next_313
                · have h := h.2 c_67
                  refine lv_iload_n hx hb dX6_next_143 rfl (lv_at hl 1 rfl) ?_
                  refine lv_goto (tgt := 148) hx hb dX6_next_144 (by decide) ?_
                  refine va_put (D := (E.1, E.2.1)) (ci := 6) (v := .int y_48) (ty := .int) (C := RX6) (T := TX6) (N := 26) hx hb ht wu_X6 tyX6 tyX6_ok nmX6 hown hK hP hD hS 0 rfl rfl 23 (by decide) (ht _ wk_X6_79) (fun _ h9 => h9) rfl (by decide +kernel) rfl rfl (Nat.le_of_ble_eq_true rfl) dX6_next_148 (fun H locs hP hD hS => ?_)
                  have hP : gP E (gW [bModel E a0 (pmf (pmf M0_85 22 1) 23 y_48)]) H := hP
                  have hD : va_D A (gW [bModel E a0 (pmf (pmf M0_85 22 1) 23 y_48)]) := hD
                  obtain ⟨M_69, eM_69⟩ : ∃ z : Mo, z = (pmf (pmf M0_85 22 1) 23 y_48) := ⟨_, rfl⟩
                  have h := h M_69 eM_69
                  rw [← eM_69] at hP hD
                  refine lv_goto (tgt := 313) hx hb dX6_next_151 (by decide) ?_
                  exact hret M_69 _ _ _ _ _ h rfl hP hD hS dX6_next_313
              · have h := h.2 c_66
                refine lv_aload_n hx hb dX6_next_111 rfl (lv_at hl 0 rfl) ?_
                refine lv_dup hx hb dX6_next_112 rfl ?_
                refine va_get (D := (E.1, E.2.1)) (ci := 6) (v := .int (M0_85.1.1 20)) (C := RX6) (T := TX6) (N := 26) hx hb ht wu_X6 hown hK hP 0 rfl rfl 20 (by decide) (ht _ wk_X6_70) (fun _ h9 => h9) rfl dX6_next_113 ?_
                refine lv_iconst (v := 1) hx hb dX6_next_116 (by decide) ?_
                refine lv_iadd hx hb dX6_next_117 ?_
                refine va_put (D := (E.1, E.2.1)) (ci := 6) (v := .int ((M0_85.1.1 20) + 1)) (ty := .int) (C := RX6) (T := TX6) (N := 26) hx hb ht wu_X6 tyX6 tyX6_ok nmX6 hown hK hP hD hS 0 rfl rfl 20 (by decide) (ht _ wk_X6_70) (fun _ h9 => h9) rfl (by decide +kernel) rfl rfl (Nat.le_of_ble_eq_true rfl) dX6_next_118 (fun H locs hP hD hS => ?_)
                have hP : gP E (gW [bModel E a0 (pmf M0_85 20 ((M0_85.1.1 20) + 1))]) H := hP
                have hD : va_D A (gW [bModel E a0 (pmf M0_85 20 ((M0_85.1.1 20) + 1))]) := hD
                refine lv_goto (tgt := 85) hx hb dX6_next_121 (by decide) ?_
                exact ih85 (pmf M0_85 20 ((M0_85.1.1 20) + 1)) _ _ _ h hP hD hS (lv_sub hl [0, 1] rfl)
        obtain ⟨n85, h⟩ := h
        exact L85 n85 (pmf M_46 23 0) _ _ _ h hP hD hS (lv_sub hl [1, 0] rfl)
    · have h := h.2 c_47
      exact hret (pmf M_46 23 0) _ _ _ _ _ h rfl hP hD hS dX6_next_67
  have L0 : ∀ (n0 : Nat) (M0_0 : Mo) (H : Heap) (locs : List Loc) (ls : Array Slot), wp_X6_next_L0 post n0 M0_0 → gP E (gW [bModel E a0 M0_0]) H → va_D A (gW [bModel E a0 M0_0]) → va_S A s.heap H locs → lv_has ls 2 [(0, .ref (a0 99))] → W p l e { frames := 2, cells := 0, slots := 0, locals := 45 } s m ([.ref (a0 99)] : List Value).toArray below meth c H locs 0 0 Q (F0 m 0 ls []) := by
    intro n0
    induction n0 with
    | zero => intro M0_0 H locs ls h; exact h.elim
    | succ n0 ih0 =>
      intro M0_0 H locs ls h hP hD hS hl
      rw [wp_X6_next_L0] at h
      refine lv_aload_n hx hb dX6_next_0 rfl (lv_at hl 0 rfl) ?_
      refine va_get (D := (E.1, E.2.1)) (ci := 6) (v := .int (M0_0.1.1 20)) (C := RX6) (T := TX6) (N := 26) hx hb ht wu_X6 hown hK hP 0 rfl rfl 20 (by decide) (ht _ wk_X6_70) (fun _ h9 => h9) rfl dX6_next_1 ?_
      refine lv_aload_n hx hb dX6_next_4 rfl (lv_at hl 0 rfl) ?_
      refine va_get (D := (E.1, E.2.1)) (ci := 6) (v := .int (M0_0.1.1 14)) (C := RX6) (T := TX6) (N := 26) hx hb ht wu_X6 hown hK hP 0 rfl rfl 14 (by decide) (ht _ wk_X6_59) (fun _ h9 => h9) rfl dX6_next_5 ?_
      refine lv_icmp_ge (tgt := 38) hx hb dX6_next_8 (by decide) (fun c_72 => ?_) (fun c_72 => ?_)
      · have h := h.1 c_72
        exact J38 M0_0 _ _ _ h hP hD hS (lv_sub hl [0] rfl)
      · have h := h.2 c_72
        refine lv_aload_n hx hb dX6_next_11 rfl (lv_at hl 0 rfl) ?_
        refine va_get (D := (E.1, E.2.1)) (ci := 6) (v := .ref (a0 15)) (C := RX6) (T := TX6) (N := 26) hx hb ht wu_X6 hown hK hP 0 rfl rfl 15 (by decide) (ht _ wk_X6_38) (fun _ h9 => h9) rfl dX6_next_12 ?_
        refine lv_aload_n hx hb dX6_next_15 rfl (lv_at hl 0 rfl) ?_
        refine va_get (D := (E.1, E.2.1)) (ci := 6) (v := .int (M0_0.1.1 20)) (C := RX6) (T := TX6) (N := 26) hx hb ht wu_X6 hown hK hP 0 rfl rfl 20 (by decide) (ht _ wk_X6_70) (fun _ h9 => h9) rfl dX6_next_16 ?_
        refine va_iald hx hb hK hP 9 0 rfl rfl h.1 dX6_next_19 ?_
        have h := h.2
        refine lv_bipush (v := 32) hx hb dX6_next_20 (by decide) ?_
        refine lv_icmp_ne (tgt := 38) hx hb dX6_next_22 (by decide) (fun c_73 => ?_) (fun c_73 => ?_)
        · have h := h.1 c_73
          exact J38 M0_0 _ _ _ h hP hD hS (lv_sub hl [0] rfl)
        · have h := h.2 c_73
          refine lv_aload_n hx hb dX6_next_25 rfl (lv_at hl 0 rfl) ?_
          refine lv_dup hx hb dX6_next_26 rfl ?_
          refine va_get (D := (E.1, E.2.1)) (ci := 6) (v := .int (M0_0.1.1 20)) (C := RX6) (T := TX6) (N := 26) hx hb ht wu_X6 hown hK hP 0 rfl rfl 20 (by decide) (ht _ wk_X6_70) (fun _ h9 => h9) rfl dX6_next_27 ?_
          refine lv_iconst (v := 1) hx hb dX6_next_30 (by decide) ?_
          refine lv_iadd hx hb dX6_next_31 ?_
          refine va_put (D := (E.1, E.2.1)) (ci := 6) (v := .int ((M0_0.1.1 20) + 1)) (ty := .int) (C := RX6) (T := TX6) (N := 26) hx hb ht wu_X6 tyX6 tyX6_ok nmX6 hown hK hP hD hS 0 rfl rfl 20 (by decide) (ht _ wk_X6_70) (fun _ h9 => h9) rfl (by decide +kernel) rfl rfl (Nat.le_of_ble_eq_true rfl) dX6_next_32 (fun H locs hP hD hS => ?_)
          have hP : gP E (gW [bModel E a0 (pmf M0_0 20 ((M0_0.1.1 20) + 1))]) H := hP
          have hD : va_D A (gW [bModel E a0 (pmf M0_0 20 ((M0_0.1.1 20) + 1))]) := hD
          refine lv_goto (tgt := 0) hx hb dX6_next_35 (by decide) ?_
          exact ih0 (pmf M0_0 20 ((M0_0.1.1 20) + 1)) _ _ _ h hP hD hS (lv_sub hl [0] rfl)
  obtain ⟨n0, h⟩ := h
  exact L0 n0 M0 _ _ _ h hP hD hS (lv_sub hl [0] rfl)
theorem dX6_isNumber_0 : decode cX6_isNumber 0 = .ok (.aload_n 0, 1) := by decide +kernel
theorem dX6_isNumber_1 : decode cX6_isNumber 1 = .ok (.invokevirtual 89, 3) := by decide +kernel
theorem dX6_isNumber_4 : decode cX6_isNumber 4 = .ok (.aload_n 0, 1) := by decide +kernel
theorem dX6_isNumber_5 : decode cX6_isNumber 5 = .ok (.getfield 76, 3) := by decide +kernel
theorem dX6_isNumber_8 : decode cX6_isNumber 8 = .ok (.iconst 2, 1) := by decide +kernel
theorem dX6_isNumber_9 : decode cX6_isNumber 9 = .ok (.if_icmp .ne 15, 3) := by decide +kernel
theorem dX6_isNumber_12 : decode cX6_isNumber 12 = .ok (.aload_n 0, 1) := by decide +kernel
theorem dX6_isNumber_13 : decode cX6_isNumber 13 = .ok (.getfield 79, 3) := by decide +kernel
theorem dX6_isNumber_16 : decode cX6_isNumber 16 = .ok (.iload_n 1, 1) := by decide +kernel
theorem dX6_isNumber_17 : decode cX6_isNumber 17 = .ok (.if_icmp .gt 7, 3) := by decide +kernel
theorem dX6_isNumber_20 : decode cX6_isNumber 20 = .ok (.iconst 1, 1) := by decide +kernel
theorem dX6_isNumber_21 : decode cX6_isNumber 21 = .ok (.goto 4, 3) := by decide +kernel
theorem dX6_isNumber_24 : decode cX6_isNumber 24 = .ok (.iconst 0, 1) := by decide +kernel
theorem dX6_isNumber_25 : decode cX6_isNumber 25 = .ok (.ireturn, 1) := by decide +kernel
set_option maxHeartbeats 4000000 in
set_option maxRecDepth 100000 in
theorem c_X6_isNumber (E : GE) (l : Launch) (a0 : Nat → Nat) (M0 : Mo) (x1 : Int32) (post : Int32 → Mo → Prop) (h : wp_X6_isNumber M0 x1 post) : Met l yX6_isNumber (wz yX6_isNumber cX6_isNumber 2 (some .boolean)) { frames := 3, cells := 0, slots := 0, locals := 66 } (gPc E [.ref (a0 99), .int x1] (gW [bModel E a0 M0])) (gQi E (gW [bModel E a0 M0]) (fun r (u : Mo) => post r u) (fun (u : Mo) w => w = gW [bModel E a0 u])) 0 0 (gIn (gW [bModel E a0 M0])) := by
  unfold wp_X6_isNumber at h
  refine g_of_z (by decide) (Nat.le_of_ble_eq_true rfl) ?_
  intro p e s m below meth c A Q hx hb hml hown ht hE hP hD hret ls hl
  have hK := hE.1
  have hS : va_S A s.heap s.heap [] := va_S.rf
  have hl : lv_has ls 2 [(0, .ref (a0 99)), (1, .int x1)] := hl
  refine lv_aload_n hx hb dX6_isNumber_0 rfl (lv_at hl 0 rfl) ?_
  have p1 := gB (n := 1) (bs := [bModel E a0 M0]) (bc := [bModel E a0 M0]) (br := []) [0] rfl rfl (by decide)
  refine g_v (g_runV (As := []) (rest := []) ⟨hx, hb, hml, hown, ht⟩ hE (c_X6_next E l a0 M0 _ h) ⟨rfl, rfl⟩ wk_X6_89 wi_X6_next ws_X6_next wn_X6 wc_X6_next yd_X6_next ⟨Nat.le_of_ble_eq_true rfl, Nat.le_of_ble_eq_true rfl⟩ hP hD p1 (ci := 6) rfl rfl rfl rfl rfl hl.1 rfl (lv_room (Nat.le_of_ble_eq_true rfl)) dX6_isNumber_1 ⟨Nat.zero_le _, Nat.zero_le _⟩) hP hD hS p1 (fun M_1 w H locs h hw hP hD hS => ?_)
  subst hw
  clear p1
  have p2 := gB (n := 1) (bs := [bModel E a0 M_1]) (bc := [bModel E a0 M_1]) (br := []) [0] rfl rfl (by decide)
  have hP := gP_perm p2.symm hP
  have hD := gD_perm p2.symm hD
  clear p2
  refine lv_aload_n hx hb dX6_isNumber_4 rfl (lv_at hl 0 rfl) ?_
  refine va_get (D := (E.1, E.2.1)) (ci := 6) (v := .int (M_1.1.1 22)) (C := RX6) (T := TX6) (N := 26) hx hb ht wu_X6 hown hK hP 0 rfl rfl 22 (by decide) (ht _ wk_X6_76) (fun _ h9 => h9) rfl dX6_isNumber_5 ?_
  refine lv_iconst (v := 2) hx hb dX6_isNumber_8 (by decide) ?_
  refine lv_icmp_ne (tgt := 24) hx hb dX6_isNumber_9 (by decide) (fun c_2 => ?_) (fun c_2 => ?_)
  · have h := h.1 c_2
    refine lv_iconst (v := 0) hx hb dX6_isNumber_24 (by decide) ?_
    exact hret 0 M_1 _ _ _ _ _ rfl h rfl hP hD hS dX6_isNumber_25
  · have h := h.2 c_2
    refine lv_aload_n hx hb dX6_isNumber_12 rfl (lv_at hl 0 rfl) ?_
    refine va_get (D := (E.1, E.2.1)) (ci := 6) (v := .int (M_1.1.1 23)) (C := RX6) (T := TX6) (N := 26) hx hb ht wu_X6 hown hK hP 0 rfl rfl 23 (by decide) (ht _ wk_X6_79) (fun _ h9 => h9) rfl dX6_isNumber_13 ?_
    refine lv_iload_n hx hb dX6_isNumber_16 rfl (lv_at hl 1 rfl) ?_
    refine lv_icmp_gt (tgt := 24) hx hb dX6_isNumber_17 (by decide) (fun c_3 => ?_) (fun c_3 => ?_)
    · have h := h.1 c_3
      refine lv_iconst (v := 0) hx hb dX6_isNumber_24 (by decide) ?_
      exact hret 0 M_1 _ _ _ _ _ rfl h rfl hP hD hS dX6_isNumber_25
    · have h := h.2 c_3
      refine lv_iconst (v := 1) hx hb dX6_isNumber_20 (by decide) ?_
      refine lv_goto (tgt := 25) hx hb dX6_isNumber_21 (by decide) ?_
      exact hret 1 M_1 _ _ _ _ _ rfl h rfl hP hD hS dX6_isNumber_25
theorem dX6_isEnd_0 : decode cX6_isEnd 0 = .ok (.aload_n 0, 1) := by decide +kernel
theorem dX6_isEnd_1 : decode cX6_isEnd 1 = .ok (.invokevirtual 89, 3) := by decide +kernel
theorem dX6_isEnd_4 : decode cX6_isEnd 4 = .ok (.aload_n 0, 1) := by decide +kernel
theorem dX6_isEnd_5 : decode cX6_isEnd 5 = .ok (.getfield 76, 3) := by decide +kernel
theorem dX6_isEnd_8 : decode cX6_isEnd 8 = .ok (.iconst 3, 1) := by decide +kernel
theorem dX6_isEnd_9 : decode cX6_isEnd 9 = .ok (.if_icmp .ne 7, 3) := by decide +kernel
theorem dX6_isEnd_12 : decode cX6_isEnd 12 = .ok (.iconst 1, 1) := by decide +kernel
theorem dX6_isEnd_13 : decode cX6_isEnd 13 = .ok (.goto 4, 3) := by decide +kernel
theorem dX6_isEnd_16 : decode cX6_isEnd 16 = .ok (.iconst 0, 1) := by decide +kernel
theorem dX6_isEnd_17 : decode cX6_isEnd 17 = .ok (.ireturn, 1) := by decide +kernel
set_option maxHeartbeats 4000000 in
set_option maxRecDepth 100000 in
theorem c_X6_isEnd (E : GE) (l : Launch) (a0 : Nat → Nat) (M0 : Mo) (post : Int32 → Mo → Prop) (h : wp_X6_isEnd M0 post) : Met l yX6_isEnd (wz yX6_isEnd cX6_isEnd 1 (some .boolean)) { frames := 3, cells := 0, slots := 0, locals := 66 } (gPc E [.ref (a0 99)] (gW [bModel E a0 M0])) (gQi E (gW [bModel E a0 M0]) (fun r (u : Mo) => post r u) (fun (u : Mo) w => w = gW [bModel E a0 u])) 0 0 (gIn (gW [bModel E a0 M0])) := by
  unfold wp_X6_isEnd at h
  refine g_of_z (by decide) (Nat.le_of_ble_eq_true rfl) ?_
  intro p e s m below meth c A Q hx hb hml hown ht hE hP hD hret ls hl
  have hK := hE.1
  have hS : va_S A s.heap s.heap [] := va_S.rf
  have hl : lv_has ls 1 [(0, .ref (a0 99))] := hl
  refine lv_aload_n hx hb dX6_isEnd_0 rfl (lv_at hl 0 rfl) ?_
  have p1 := gB (n := 1) (bs := [bModel E a0 M0]) (bc := [bModel E a0 M0]) (br := []) [0] rfl rfl (by decide)
  refine g_v (g_runV (As := []) (rest := []) ⟨hx, hb, hml, hown, ht⟩ hE (c_X6_next E l a0 M0 _ h) ⟨rfl, rfl⟩ wk_X6_89 wi_X6_next ws_X6_next wn_X6 wc_X6_next yd_X6_next ⟨Nat.le_of_ble_eq_true rfl, Nat.le_of_ble_eq_true rfl⟩ hP hD p1 (ci := 6) rfl rfl rfl rfl rfl hl.1 rfl (lv_room (Nat.le_of_ble_eq_true rfl)) dX6_isEnd_1 ⟨Nat.zero_le _, Nat.zero_le _⟩) hP hD hS p1 (fun M_1 w H locs h hw hP hD hS => ?_)
  subst hw
  clear p1
  have p2 := gB (n := 1) (bs := [bModel E a0 M_1]) (bc := [bModel E a0 M_1]) (br := []) [0] rfl rfl (by decide)
  have hP := gP_perm p2.symm hP
  have hD := gD_perm p2.symm hD
  clear p2
  refine lv_aload_n hx hb dX6_isEnd_4 rfl (lv_at hl 0 rfl) ?_
  refine va_get (D := (E.1, E.2.1)) (ci := 6) (v := .int (M_1.1.1 22)) (C := RX6) (T := TX6) (N := 26) hx hb ht wu_X6 hown hK hP 0 rfl rfl 22 (by decide) (ht _ wk_X6_76) (fun _ h9 => h9) rfl dX6_isEnd_5 ?_
  refine lv_iconst (v := 3) hx hb dX6_isEnd_8 (by decide) ?_
  refine lv_icmp_ne (tgt := 16) hx hb dX6_isEnd_9 (by decide) (fun c_2 => ?_) (fun c_2 => ?_)
  · have h := h.1 c_2
    refine lv_iconst (v := 0) hx hb dX6_isEnd_16 (by decide) ?_
    exact hret 0 M_1 _ _ _ _ _ rfl h rfl hP hD hS dX6_isEnd_17
  · have h := h.2 c_2
    refine lv_iconst (v := 1) hx hb dX6_isEnd_12 (by decide) ?_
    refine lv_goto (tgt := 17) hx hb dX6_isEnd_13 (by decide) ?_
    exact hret 1 M_1 _ _ _ _ _ rfl h rfl hP hD hS dX6_isEnd_17
theorem dX6_item_0 : decode cX6_item 0 = .ok (.aload_n 0, 1) := by decide +kernel
theorem dX6_item_1 : decode cX6_item 1 = .ok (.getfield 76, 3) := by decide +kernel
theorem dX6_item_4 : decode cX6_item 4 = .ok (.iconst 1, 1) := by decide +kernel
theorem dX6_item_5 : decode cX6_item 5 = .ok (.if_icmp .ne 10, 3) := by decide +kernel
theorem dX6_item_8 : decode cX6_item 8 = .ok (.aload_n 0, 1) := by decide +kernel
theorem dX6_item_9 : decode cX6_item 9 = .ok (.getfield 79, 3) := by decide +kernel
theorem dX6_item_12 : decode cX6_item 12 = .ok (.goto 4, 3) := by decide +kernel
theorem dX6_item_15 : decode cX6_item 15 = .ok (.iconst 0, 1) := by decide +kernel
theorem dX6_item_16 : decode cX6_item 16 = .ok (.istore_n 2, 1) := by decide +kernel
theorem dX6_item_17 : decode cX6_item 17 = .ok (.iload_n 2, 1) := by decide +kernel
theorem dX6_item_18 : decode cX6_item 18 = .ok (.bipush 110, 2) := by decide +kernel
theorem dX6_item_20 : decode cX6_item 20 = .ok (.if_icmp .ne 54, 3) := by decide +kernel
theorem dX6_item_23 : decode cX6_item 23 = .ok (.iload_n 1, 1) := by decide +kernel
theorem dX6_item_24 : decode cX6_item 24 = .ok (.ifCond .eq 50, 3) := by decide +kernel
theorem dX6_item_27 : decode cX6_item 27 = .ok (.aload_n 0, 1) := by decide +kernel
theorem dX6_item_28 : decode cX6_item 28 = .ok (.bipush 6, 2) := by decide +kernel
theorem dX6_item_30 : decode cX6_item 30 = .ok (.invokevirtual 92, 3) := by decide +kernel
theorem dX6_item_33 : decode cX6_item 33 = .ok (.ifCond .eq 14, 3) := by decide +kernel
theorem dX6_item_36 : decode cX6_item 36 = .ok (.aload_n 0, 1) := by decide +kernel
theorem dX6_item_37 : decode cX6_item 37 = .ok (.getfield 79, 3) := by decide +kernel
theorem dX6_item_40 : decode cX6_item 40 = .ok (.ifCond .le 7, 3) := by decide +kernel
theorem dX6_item_43 : decode cX6_item 43 = .ok (.iconst 1, 1) := by decide +kernel
theorem dX6_item_44 : decode cX6_item 44 = .ok (.goto 4, 3) := by decide +kernel
theorem dX6_item_47 : decode cX6_item 47 = .ok (.iconst 0, 1) := by decide +kernel
theorem dX6_item_48 : decode cX6_item 48 = .ok (.istore_n 3, 1) := by decide +kernel
theorem dX6_item_49 : decode cX6_item 49 = .ok (.aload_n 0, 1) := by decide +kernel
theorem dX6_item_50 : decode cX6_item 50 = .ok (.aload_n 0, 1) := by decide +kernel
theorem dX6_item_51 : decode cX6_item 51 = .ok (.getfield 79, 3) := by decide +kernel
theorem dX6_item_54 : decode cX6_item 54 = .ok (.putfield 95, 3) := by decide +kernel
theorem dX6_item_57 : decode cX6_item 57 = .ok (.iload_n 3, 1) := by decide +kernel
theorem dX6_item_58 : decode cX6_item 58 = .ok (.ifCond .eq 14, 3) := by decide +kernel
theorem dX6_item_61 : decode cX6_item 61 = .ok (.aload_n 0, 1) := by decide +kernel
theorem dX6_item_62 : decode cX6_item 62 = .ok (.invokevirtual 98, 3) := by decide +kernel
theorem dX6_item_65 : decode cX6_item 65 = .ok (.ifCond .eq 7, 3) := by decide +kernel
theorem dX6_item_68 : decode cX6_item 68 = .ok (.iconst 1, 1) := by decide +kernel
theorem dX6_item_69 : decode cX6_item 69 = .ok (.goto 4, 3) := by decide +kernel
theorem dX6_item_72 : decode cX6_item 72 = .ok (.iconst 0, 1) := by decide +kernel
theorem dX6_item_73 : decode cX6_item 73 = .ok (.ireturn, 1) := by decide +kernel
theorem dX6_item_74 : decode cX6_item 74 = .ok (.iload_n 2, 1) := by decide +kernel
theorem dX6_item_75 : decode cX6_item 75 = .ok (.bipush 108, 2) := by decide +kernel
theorem dX6_item_77 : decode cX6_item 77 = .ok (.if_icmp .ne 68, 3) := by decide +kernel
theorem dX6_item_80 : decode cX6_item 80 = .ok (.aload_n 0, 1) := by decide +kernel
theorem dX6_item_81 : decode cX6_item 81 = .ok (.getfield 102, 3) := by decide +kernel
theorem dX6_item_84 : decode cX6_item 84 = .ok (.bipush 8, 2) := by decide +kernel
theorem dX6_item_86 : decode cX6_item 86 = .ok (.if_icmp .ge 59, 3) := by decide +kernel
theorem dX6_item_89 : decode cX6_item 89 = .ok (.aload_n 0, 1) := by decide +kernel
theorem dX6_item_90 : decode cX6_item 90 = .ok (.sipush 999, 3) := by decide +kernel
theorem dX6_item_93 : decode cX6_item 93 = .ok (.invokevirtual 92, 3) := by decide +kernel
theorem dX6_item_96 : decode cX6_item 96 = .ok (.ifCond .ne 5, 3) := by decide +kernel
theorem dX6_item_99 : decode cX6_item 99 = .ok (.iconst 0, 1) := by decide +kernel
theorem dX6_item_100 : decode cX6_item 100 = .ok (.ireturn, 1) := by decide +kernel
theorem dX6_item_101 : decode cX6_item 101 = .ok (.aload_n 0, 1) := by decide +kernel
theorem dX6_item_102 : decode cX6_item 102 = .ok (.getfield 20, 3) := by decide +kernel
theorem dX6_item_105 : decode cX6_item 105 = .ok (.bipush 10, 2) := by decide +kernel
theorem dX6_item_107 : decode cX6_item 107 = .ok (.aload_n 0, 1) := by decide +kernel
theorem dX6_item_108 : decode cX6_item 108 = .ok (.getfield 102, 3) := by decide +kernel
theorem dX6_item_111 : decode cX6_item 111 = .ok (.iadd, 1) := by decide +kernel
theorem dX6_item_112 : decode cX6_item 112 = .ok (.aload_n 0, 1) := by decide +kernel
theorem dX6_item_113 : decode cX6_item 113 = .ok (.getfield 79, 3) := by decide +kernel
theorem dX6_item_116 : decode cX6_item 116 = .ok (.iastore, 1) := by decide +kernel
theorem dX6_item_117 : decode cX6_item 117 = .ok (.aload_n 0, 1) := by decide +kernel
theorem dX6_item_118 : decode cX6_item 118 = .ok (.getfield 20, 3) := by decide +kernel
theorem dX6_item_121 : decode cX6_item 121 = .ok (.aload_n 0, 1) := by decide +kernel
theorem dX6_item_122 : decode cX6_item 122 = .ok (.getfield 102, 3) := by decide +kernel
theorem dX6_item_125 : decode cX6_item 125 = .ok (.aload_n 0, 1) := by decide +kernel
theorem dX6_item_126 : decode cX6_item 126 = .ok (.getfield 102, 3) := by decide +kernel
theorem dX6_item_129 : decode cX6_item 129 = .ok (.iastore, 1) := by decide +kernel
theorem dX6_item_130 : decode cX6_item 130 = .ok (.aload_n 0, 1) := by decide +kernel
theorem dX6_item_131 : decode cX6_item 131 = .ok (.dup, 1) := by decide +kernel
theorem dX6_item_132 : decode cX6_item 132 = .ok (.getfield 102, 3) := by decide +kernel
theorem dX6_item_135 : decode cX6_item 135 = .ok (.iconst 1, 1) := by decide +kernel
theorem dX6_item_136 : decode cX6_item 136 = .ok (.iadd, 1) := by decide +kernel
theorem dX6_item_137 : decode cX6_item 137 = .ok (.putfield 102, 3) := by decide +kernel
theorem dX6_item_140 : decode cX6_item 140 = .ok (.aload_n 0, 1) := by decide +kernel
theorem dX6_item_141 : decode cX6_item 141 = .ok (.invokevirtual 98, 3) := by decide +kernel
theorem dX6_item_144 : decode cX6_item 144 = .ok (.ireturn, 1) := by decide +kernel
theorem dX6_item_145 : decode cX6_item 145 = .ok (.iload_n 2, 1) := by decide +kernel
theorem dX6_item_146 : decode cX6_item 146 = .ok (.bipush 107, 2) := by decide +kernel
theorem dX6_item_148 : decode cX6_item 148 = .ok (.if_icmp .eq 9, 3) := by decide +kernel
theorem dX6_item_151 : decode cX6_item 151 = .ok (.iload_n 2, 1) := by decide +kernel
theorem dX6_item_152 : decode cX6_item 152 = .ok (.bipush 102, 2) := by decide +kernel
theorem dX6_item_154 : decode cX6_item 154 = .ok (.if_icmp .ne 16, 3) := by decide +kernel
theorem dX6_item_157 : decode cX6_item 157 = .ok (.aload_n 0, 1) := by decide +kernel
theorem dX6_item_158 : decode cX6_item 158 = .ok (.aload_n 0, 1) := by decide +kernel
theorem dX6_item_159 : decode cX6_item 159 = .ok (.getfield 95, 3) := by decide +kernel
theorem dX6_item_162 : decode cX6_item 162 = .ok (.iconst 1, 1) := by decide +kernel
theorem dX6_item_163 : decode cX6_item 163 = .ok (.isub, 1) := by decide +kernel
theorem dX6_item_164 : decode cX6_item 164 = .ok (.invokevirtual 92, 3) := by decide +kernel
theorem dX6_item_167 : decode cX6_item 167 = .ok (.ifCond .ne 5, 3) := by decide +kernel
theorem dX6_item_170 : decode cX6_item 170 = .ok (.iconst 0, 1) := by decide +kernel
theorem dX6_item_171 : decode cX6_item 171 = .ok (.ireturn, 1) := by decide +kernel
theorem dX6_item_172 : decode cX6_item 172 = .ok (.aload_n 0, 1) := by decide +kernel
theorem dX6_item_173 : decode cX6_item 173 = .ok (.getfield 79, 3) := by decide +kernel
theorem dX6_item_176 : decode cX6_item 176 = .ok (.istore_n 3, 1) := by decide +kernel
theorem dX6_item_177 : decode cX6_item 177 = .ok (.iload_n 2, 1) := by decide +kernel
theorem dX6_item_178 : decode cX6_item 178 = .ok (.bipush 107, 2) := by decide +kernel
theorem dX6_item_180 : decode cX6_item 180 = .ok (.if_icmp .ne 41, 3) := by decide +kernel
theorem dX6_item_183 : decode cX6_item 183 = .ok (.aload_n 0, 1) := by decide +kernel
theorem dX6_item_184 : decode cX6_item 184 = .ok (.aload_n 0, 1) := by decide +kernel
theorem dX6_item_185 : decode cX6_item 185 = .ok (.getfield 102, 3) := by decide +kernel
theorem dX6_item_188 : decode cX6_item 188 = .ok (.iconst 1, 1) := by decide +kernel
theorem dX6_item_189 : decode cX6_item 189 = .ok (.isub, 1) := by decide +kernel
theorem dX6_item_190 : decode cX6_item 190 = .ok (.invokevirtual 92, 3) := by decide +kernel
theorem dX6_item_193 : decode cX6_item 193 = .ok (.ifCond .ne 5, 3) := by decide +kernel
theorem dX6_item_196 : decode cX6_item 196 = .ok (.iconst 0, 1) := by decide +kernel
theorem dX6_item_197 : decode cX6_item 197 = .ok (.ireturn, 1) := by decide +kernel
theorem dX6_item_198 : decode cX6_item 198 = .ok (.aload_n 0, 1) := by decide +kernel
theorem dX6_item_199 : decode cX6_item 199 = .ok (.getfield 20, 3) := by decide +kernel
theorem dX6_item_202 : decode cX6_item 202 = .ok (.bipush 26, 2) := by decide +kernel
theorem dX6_item_204 : decode cX6_item 204 = .ok (.iload_n 3, 1) := by decide +kernel
theorem dX6_item_205 : decode cX6_item 205 = .ok (.iadd, 1) := by decide +kernel
theorem dX6_item_206 : decode cX6_item 206 = .ok (.dup2, 1) := by decide +kernel
theorem dX6_item_207 : decode cX6_item 207 = .ok (.iaload, 1) := by decide +kernel
theorem dX6_item_208 : decode cX6_item 208 = .ok (.iconst 1, 1) := by decide +kernel
theorem dX6_item_209 : decode cX6_item 209 = .ok (.aload_n 0, 1) := by decide +kernel
theorem dX6_item_210 : decode cX6_item 210 = .ok (.getfield 79, 3) := by decide +kernel
theorem dX6_item_213 : decode cX6_item 213 = .ok (.ishl, 1) := by decide +kernel
theorem dX6_item_214 : decode cX6_item 214 = .ok (.ior, 1) := by decide +kernel
theorem dX6_item_215 : decode cX6_item 215 = .ok (.iastore, 1) := by decide +kernel
theorem dX6_item_216 : decode cX6_item 216 = .ok (.aload_n 0, 1) := by decide +kernel
theorem dX6_item_217 : decode cX6_item 217 = .ok (.invokevirtual 98, 3) := by decide +kernel
theorem dX6_item_220 : decode cX6_item 220 = .ok (.ireturn, 1) := by decide +kernel
theorem dX6_item_221 : decode cX6_item 221 = .ok (.aload_n 0, 1) := by decide +kernel
theorem dX6_item_222 : decode cX6_item 222 = .ok (.aload_n 0, 1) := by decide +kernel
theorem dX6_item_223 : decode cX6_item 223 = .ok (.getfield 95, 3) := by decide +kernel
theorem dX6_item_226 : decode cX6_item 226 = .ok (.iconst 1, 1) := by decide +kernel
theorem dX6_item_227 : decode cX6_item 227 = .ok (.isub, 1) := by decide +kernel
theorem dX6_item_228 : decode cX6_item 228 = .ok (.invokevirtual 92, 3) := by decide +kernel
theorem dX6_item_231 : decode cX6_item 231 = .ok (.ifCond .eq 11, 3) := by decide +kernel
theorem dX6_item_234 : decode cX6_item 234 = .ok (.aload_n 0, 1) := by decide +kernel
theorem dX6_item_235 : decode cX6_item 235 = .ok (.getfield 79, 3) := by decide +kernel
theorem dX6_item_238 : decode cX6_item 238 = .ok (.iload_n 3, 1) := by decide +kernel
theorem dX6_item_239 : decode cX6_item 239 = .ok (.if_icmp .ne 5, 3) := by decide +kernel
theorem dX6_item_242 : decode cX6_item 242 = .ok (.iconst 0, 1) := by decide +kernel
theorem dX6_item_243 : decode cX6_item 243 = .ok (.ireturn, 1) := by decide +kernel
theorem dX6_item_244 : decode cX6_item 244 = .ok (.aload_n 0, 1) := by decide +kernel
theorem dX6_item_245 : decode cX6_item 245 = .ok (.getfield 17, 3) := by decide +kernel
theorem dX6_item_248 : decode cX6_item 248 = .ok (.iload_n 3, 1) := by decide +kernel
theorem dX6_item_249 : decode cX6_item 249 = .ok (.dup2, 1) := by decide +kernel
theorem dX6_item_250 : decode cX6_item 250 = .ok (.iaload, 1) := by decide +kernel
theorem dX6_item_251 : decode cX6_item 251 = .ok (.iconst 1, 1) := by decide +kernel
theorem dX6_item_252 : decode cX6_item 252 = .ok (.aload_n 0, 1) := by decide +kernel
theorem dX6_item_253 : decode cX6_item 253 = .ok (.getfield 79, 3) := by decide +kernel
theorem dX6_item_256 : decode cX6_item 256 = .ok (.ishl, 1) := by decide +kernel
theorem dX6_item_257 : decode cX6_item 257 = .ok (.ior, 1) := by decide +kernel
theorem dX6_item_258 : decode cX6_item 258 = .ok (.iastore, 1) := by decide +kernel
theorem dX6_item_259 : decode cX6_item 259 = .ok (.aload_n 0, 1) := by decide +kernel
theorem dX6_item_260 : decode cX6_item 260 = .ok (.getfield 17, 3) := by decide +kernel
theorem dX6_item_263 : decode cX6_item 263 = .ok (.aload_n 0, 1) := by decide +kernel
theorem dX6_item_264 : decode cX6_item 264 = .ok (.getfield 79, 3) := by decide +kernel
theorem dX6_item_267 : decode cX6_item 267 = .ok (.dup2, 1) := by decide +kernel
theorem dX6_item_268 : decode cX6_item 268 = .ok (.iaload, 1) := by decide +kernel
theorem dX6_item_269 : decode cX6_item 269 = .ok (.iconst 1, 1) := by decide +kernel
theorem dX6_item_270 : decode cX6_item 270 = .ok (.iload_n 3, 1) := by decide +kernel
theorem dX6_item_271 : decode cX6_item 271 = .ok (.ishl, 1) := by decide +kernel
theorem dX6_item_272 : decode cX6_item 272 = .ok (.ior, 1) := by decide +kernel
theorem dX6_item_273 : decode cX6_item 273 = .ok (.iastore, 1) := by decide +kernel
theorem dX6_item_274 : decode cX6_item 274 = .ok (.aload_n 0, 1) := by decide +kernel
theorem dX6_item_275 : decode cX6_item 275 = .ok (.invokevirtual 98, 3) := by decide +kernel
theorem dX6_item_278 : decode cX6_item 278 = .ok (.ireturn, 1) := by decide +kernel
set_option maxHeartbeats 4000000 in
set_option maxRecDepth 100000 in
theorem c_X6_item (E : GE) (l : Launch) (a0 : Nat → Nat) (M0 : Mo) (x1 : Int32) (post : Int32 → Mo → Prop) (h : wp_X6_item M0 x1 post) : Met l yX6_item (wz yX6_item cX6_item 4 (some .boolean)) { frames := 4, cells := 0, slots := 0, locals := 87 } (gPc E [.ref (a0 99), .int x1] (gW [bModel E a0 M0])) (gQi E (gW [bModel E a0 M0]) (fun r (u : Mo) => post r u) (fun (u : Mo) w => w = gW [bModel E a0 u])) 0 0 (gIn (gW [bModel E a0 M0])) := by
  unfold wp_X6_item at h
  refine g_of_z (by decide) (Nat.le_of_ble_eq_true rfl) ?_
  intro p e s m below meth c A Q hx hb hml hown ht hE hP hD hret ls hl
  have hK := hE.1
  have hS : va_S A s.heap s.heap [] := va_S.rf
  have hl : lv_has ls 4 [(0, .ref (a0 99)), (1, .int x1)] := hl
  have J157 : ∀ (x1_j157 : Int32) (x2_j157 : Int32) (M0_j157 : Mo) (H : Heap) (locs : List Loc) (ls : Array Slot), wp_X6_item_J157 post x1_j157 x2_j157 M0_j157 → gP E (gW [bModel E a0 M0_j157]) H → va_D A (gW [bModel E a0 M0_j157]) → va_S A s.heap H locs → lv_has ls 4 [(0, .ref (a0 99)), (1, .int x1_j157), (2, .int x2_j157)] → W p l e { frames := 4, cells := 0, slots := 0, locals := 87 } s m ([.ref (a0 99), .int x1] : List Value).toArray below meth c H locs 0 0 Q (F0 m 157 ls []) := by
    intro x1_j157 x2_j157 M0_j157 H locs ls h hP hD hS hl
    unfold wp_X6_item_J157 at h
    refine lv_aload_n hx hb dX6_item_157 rfl (lv_at hl 0 rfl) ?_
    refine lv_aload_n hx hb dX6_item_158 rfl (lv_at hl 0 rfl) ?_
    refine va_get (D := (E.1, E.2.1)) (ci := 6) (v := .int (M0_j157.1.1 3)) (C := RX6) (T := TX6) (N := 26) hx hb ht wu_X6 hown hK hP 0 rfl rfl 3 (by decide) (ht _ wk_X6_95) (fun _ h9 => h9) rfl dX6_item_159 ?_
    refine lv_iconst (v := 1) hx hb dX6_item_162 (by decide) ?_
    refine lv_isub hx hb dX6_item_163 ?_
    have p1 := gB (n := 1) (bs := [bModel E a0 M0_j157]) (bc := [bModel E a0 M0_j157]) (br := []) [0] rfl rfl (by decide)
    refine g_i (g_runV (As := [.int ((M0_j157.1.1 3) - 1)]) (rest := []) ⟨hx, hb, hml, hown, ht⟩ hE (c_X6_isNumber E l a0 M0_j157 ((M0_j157.1.1 3) - 1) _ h) ⟨rfl, rfl⟩ wk_X6_92 wi_X6_isNumber ws_X6_isNumber wn_X6 wc_X6_isNumber yd_X6_isNumber ⟨Nat.le_of_ble_eq_true rfl, Nat.le_of_ble_eq_true rfl⟩ hP hD p1 (ci := 6) rfl rfl rfl rfl rfl hl.1 rfl (lv_room (Nat.le_of_ble_eq_true rfl)) dX6_item_164 ⟨Nat.zero_le _, Nat.zero_le _⟩) hP hD hS p1 (fun r_19 M_20 w H locs h hw hP hD hS => ?_)
    subst hw
    clear p1
    have p2 := gB (n := 1) (bs := [bModel E a0 M_20]) (bc := [bModel E a0 M_20]) (br := []) [0] rfl rfl (by decide)
    have hP := gP_perm p2.symm hP
    have hD := gD_perm p2.symm hD
    clear p2
    refine lv_if_ne (tgt := 172) hx hb dX6_item_167 (by decide) (fun c_21 => ?_) (fun c_21 => ?_)
    · have h := h.1 c_21
      refine lv_aload_n hx hb dX6_item_172 rfl (lv_at hl 0 rfl) ?_
      refine va_get (D := (E.1, E.2.1)) (ci := 6) (v := .int (M_20.1.1 23)) (C := RX6) (T := TX6) (N := 26) hx hb ht wu_X6 hown hK hP 0 rfl rfl 23 (by decide) (ht _ wk_X6_79) (fun _ h9 => h9) rfl dX6_item_173 ?_
      refine lv_istore_n (lv' := [(3, .int (M_20.1.1 23)), (0, .ref (a0 99)), (1, .int x1_j157), (2, .int x2_j157)]) hx hb dX6_item_176 rfl hl (by decide) rfl (fun ls hl => ?_)
      refine lv_iload_n hx hb dX6_item_177 rfl (lv_at hl 3 rfl) ?_
      refine lv_bipush (v := 107) hx hb dX6_item_178 (by decide) ?_
      refine lv_icmp_ne (tgt := 221) hx hb dX6_item_180 (by decide) (fun c_22 => ?_) (fun c_22 => ?_)
      · have h := h.1 c_22
        refine lv_aload_n hx hb dX6_item_221 rfl (lv_at hl 1 rfl) ?_
        refine lv_aload_n hx hb dX6_item_222 rfl (lv_at hl 1 rfl) ?_
        refine va_get (D := (E.1, E.2.1)) (ci := 6) (v := .int (M_20.1.1 3)) (C := RX6) (T := TX6) (N := 26) hx hb ht wu_X6 hown hK hP 0 rfl rfl 3 (by decide) (ht _ wk_X6_95) (fun _ h9 => h9) rfl dX6_item_223 ?_
        refine lv_iconst (v := 1) hx hb dX6_item_226 (by decide) ?_
        refine lv_isub hx hb dX6_item_227 ?_
        have p1 := gB (n := 1) (bs := [bModel E a0 M_20]) (bc := [bModel E a0 M_20]) (br := []) [0] rfl rfl (by decide)
        refine g_i (g_runV (As := [.int ((M_20.1.1 3) - 1)]) (rest := []) ⟨hx, hb, hml, hown, ht⟩ hE (c_X6_isNumber E l a0 M_20 ((M_20.1.1 3) - 1) _ h) ⟨rfl, rfl⟩ wk_X6_92 wi_X6_isNumber ws_X6_isNumber wn_X6 wc_X6_isNumber yd_X6_isNumber ⟨Nat.le_of_ble_eq_true rfl, Nat.le_of_ble_eq_true rfl⟩ hP hD p1 (ci := 6) rfl rfl rfl rfl rfl hl.1 rfl (lv_room (Nat.le_of_ble_eq_true rfl)) dX6_item_228 ⟨Nat.zero_le _, Nat.zero_le _⟩) hP hD hS p1 (fun r_23 M_24 w H locs h hw hP hD hS => ?_)
        subst hw
        clear p1
        have p2 := gB (n := 1) (bs := [bModel E a0 M_24]) (bc := [bModel E a0 M_24]) (br := []) [0] rfl rfl (by decide)
        have hP := gP_perm p2.symm hP
        have hD := gD_perm p2.symm hD
        clear p2
        refine lv_if_eq (tgt := 242) hx hb dX6_item_231 (by decide) (fun c_25 => ?_) (fun c_25 => ?_)
        · have h := h.1 c_25
          refine lv_iconst (v := 0) hx hb dX6_item_242 (by decide) ?_
          exact hret 0 M_24 _ _ _ _ _ rfl h rfl hP hD hS dX6_item_243
        · have h := h.2 c_25
          refine lv_aload_n hx hb dX6_item_234 rfl (lv_at hl 1 rfl) ?_
          refine va_get (D := (E.1, E.2.1)) (ci := 6) (v := .int (M_24.1.1 23)) (C := RX6) (T := TX6) (N := 26) hx hb ht wu_X6 hown hK hP 0 rfl rfl 23 (by decide) (ht _ wk_X6_79) (fun _ h9 => h9) rfl dX6_item_235 ?_
          refine lv_iload_n hx hb dX6_item_238 rfl (lv_at hl 0 rfl) ?_
          refine lv_icmp_ne (tgt := 244) hx hb dX6_item_239 (by decide) (fun c_26 => ?_) (fun c_26 => ?_)
          · have h := h.1 c_26
            refine lv_aload_n hx hb dX6_item_244 rfl (lv_at hl 1 rfl) ?_
            refine va_get (D := (E.1, E.2.1)) (ci := 6) (v := .ref (a0 5)) (C := RX6) (T := TX6) (N := 26) hx hb ht wu_X6 hown hK hP 0 rfl rfl 5 (by decide) (ht _ wk_X6_17) (fun _ h9 => h9) rfl dX6_item_245 ?_
            refine lv_iload_n hx hb dX6_item_248 rfl (lv_at hl 0 rfl) ?_
            refine lv_dup2_11 hx hb dX6_item_249 rfl rfl ?_
            refine va_iald hx hb hK hP 2 0 rfl rfl h.1 dX6_item_250 ?_
            have h := h.2
            refine lv_iconst (v := 1) hx hb dX6_item_251 (by decide) ?_
            refine lv_aload_n hx hb dX6_item_252 rfl (lv_at hl 1 rfl) ?_
            refine va_get (D := (E.1, E.2.1)) (ci := 6) (v := .int (M_24.1.1 23)) (C := RX6) (T := TX6) (N := 26) hx hb ht wu_X6 hown hK hP 0 rfl rfl 23 (by decide) (ht _ wk_X6_79) (fun _ h9 => h9) rfl dX6_item_253 ?_
            refine lv_ishl hx hb dX6_item_256 ?_
            refine lv_ior hx hb dX6_item_257 ?_
            refine va_iast hx hb hK hP hD hS 2 0 rfl rfl h.1 dX6_item_258 (fun H locs hP hD hS => ?_)
            have h := h.2
            have hP : gP E (gW [bModel E a0 (pma M_24 5 ((M_20.1.1 23).toNatClampNeg) ((M_24.1.2 5 (M_20.1.1 23).toNatClampNeg) ||| ((1 : Int32) <<< ((M_24.1.1 23) &&& 31))))]) H := hP
            have hD : va_D A (gW [bModel E a0 (pma M_24 5 ((M_20.1.1 23).toNatClampNeg) ((M_24.1.2 5 (M_20.1.1 23).toNatClampNeg) ||| ((1 : Int32) <<< ((M_24.1.1 23) &&& 31))))]) := hD
            obtain ⟨M_27, eM_27⟩ : ∃ z : Mo, z = (pma M_24 5 ((M_20.1.1 23).toNatClampNeg) ((M_24.1.2 5 (M_20.1.1 23).toNatClampNeg) ||| ((1 : Int32) <<< ((M_24.1.1 23) &&& 31)))) := ⟨_, rfl⟩
            have h := h M_27 eM_27
            rw [← eM_27] at hP hD
            refine lv_aload_n hx hb dX6_item_259 rfl (lv_at hl 1 rfl) ?_
            refine va_get (D := (E.1, E.2.1)) (ci := 6) (v := .ref (a0 5)) (C := RX6) (T := TX6) (N := 26) hx hb ht wu_X6 hown hK hP 0 rfl rfl 5 (by decide) (ht _ wk_X6_17) (fun _ h9 => h9) rfl dX6_item_260 ?_
            refine lv_aload_n hx hb dX6_item_263 rfl (lv_at hl 1 rfl) ?_
            refine va_get (D := (E.1, E.2.1)) (ci := 6) (v := .int (M_27.1.1 23)) (C := RX6) (T := TX6) (N := 26) hx hb ht wu_X6 hown hK hP 0 rfl rfl 23 (by decide) (ht _ wk_X6_79) (fun _ h9 => h9) rfl dX6_item_264 ?_
            refine lv_dup2_11 hx hb dX6_item_267 rfl rfl ?_
            refine va_iald hx hb hK hP 2 0 rfl rfl h.1 dX6_item_268 ?_
            have h := h.2
            refine lv_iconst (v := 1) hx hb dX6_item_269 (by decide) ?_
            refine lv_iload_n hx hb dX6_item_270 rfl (lv_at hl 0 rfl) ?_
            refine lv_ishl hx hb dX6_item_271 ?_
            refine lv_ior hx hb dX6_item_272 ?_
            refine va_iast hx hb hK hP hD hS 2 0 rfl rfl h.1 dX6_item_273 (fun H locs hP hD hS => ?_)
            have h := h.2
            have hP : gP E (gW [bModel E a0 (pma M_27 5 ((M_27.1.1 23).toNatClampNeg) ((M_27.1.2 5 (M_27.1.1 23).toNatClampNeg) ||| ((1 : Int32) <<< ((M_20.1.1 23) &&& 31))))]) H := hP
            have hD : va_D A (gW [bModel E a0 (pma M_27 5 ((M_27.1.1 23).toNatClampNeg) ((M_27.1.2 5 (M_27.1.1 23).toNatClampNeg) ||| ((1 : Int32) <<< ((M_20.1.1 23) &&& 31))))]) := hD
            obtain ⟨M_28, eM_28⟩ : ∃ z : Mo, z = (pma M_27 5 ((M_27.1.1 23).toNatClampNeg) ((M_27.1.2 5 (M_27.1.1 23).toNatClampNeg) ||| ((1 : Int32) <<< ((M_20.1.1 23) &&& 31)))) := ⟨_, rfl⟩
            have h := h M_28 eM_28
            rw [← eM_28] at hP hD
            refine lv_aload_n hx hb dX6_item_274 rfl (lv_at hl 1 rfl) ?_
            have p1 := gB (n := 1) (bs := [bModel E a0 M_28]) (bc := [bModel E a0 M_28]) (br := []) [0] rfl rfl (by decide)
            refine g_i (g_runV (As := []) (rest := []) ⟨hx, hb, hml, hown, ht⟩ hE (c_X6_isEnd E l a0 M_28 _ h) ⟨rfl, rfl⟩ wk_X6_98 wi_X6_isEnd ws_X6_isEnd wn_X6 wc_X6_isEnd yd_X6_isEnd ⟨Nat.le_of_ble_eq_true rfl, Nat.le_of_ble_eq_true rfl⟩ hP hD p1 (ci := 6) rfl rfl rfl rfl rfl hl.1 rfl (lv_room (Nat.le_of_ble_eq_true rfl)) dX6_item_275 ⟨Nat.zero_le _, Nat.zero_le _⟩) hP hD hS p1 (fun r_29 M_30 w H locs h hw hP hD hS => ?_)
            subst hw
            clear p1
            have p2 := gB (n := 1) (bs := [bModel E a0 M_30]) (bc := [bModel E a0 M_30]) (br := []) [0] rfl rfl (by decide)
            have hP := gP_perm p2.symm hP
            have hD := gD_perm p2.symm hD
            clear p2
            exact hret r_29 M_30 _ _ _ _ _ h.1 h.2 rfl hP hD hS dX6_item_278
          · have h := h.2 c_26
            refine lv_iconst (v := 0) hx hb dX6_item_242 (by decide) ?_
            exact hret 0 M_24 _ _ _ _ _ rfl h rfl hP hD hS dX6_item_243
      · have h := h.2 c_22
        refine lv_aload_n hx hb dX6_item_183 rfl (lv_at hl 1 rfl) ?_
        refine lv_aload_n hx hb dX6_item_184 rfl (lv_at hl 1 rfl) ?_
        refine va_get (D := (E.1, E.2.1)) (ci := 6) (v := .int (M_20.1.1 4)) (C := RX6) (T := TX6) (N := 26) hx hb ht wu_X6 hown hK hP 0 rfl rfl 4 (by decide) (ht _ wk_X6_102) (fun _ h9 => h9) rfl dX6_item_185 ?_
        refine lv_iconst (v := 1) hx hb dX6_item_188 (by decide) ?_
        refine lv_isub hx hb dX6_item_189 ?_
        have p1 := gB (n := 1) (bs := [bModel E a0 M_20]) (bc := [bModel E a0 M_20]) (br := []) [0] rfl rfl (by decide)
        refine g_i (g_runV (As := [.int ((M_20.1.1 4) - 1)]) (rest := []) ⟨hx, hb, hml, hown, ht⟩ hE (c_X6_isNumber E l a0 M_20 ((M_20.1.1 4) - 1) _ h) ⟨rfl, rfl⟩ wk_X6_92 wi_X6_isNumber ws_X6_isNumber wn_X6 wc_X6_isNumber yd_X6_isNumber ⟨Nat.le_of_ble_eq_true rfl, Nat.le_of_ble_eq_true rfl⟩ hP hD p1 (ci := 6) rfl rfl rfl rfl rfl hl.1 rfl (lv_room (Nat.le_of_ble_eq_true rfl)) dX6_item_190 ⟨Nat.zero_le _, Nat.zero_le _⟩) hP hD hS p1 (fun r_31 M_32 w H locs h hw hP hD hS => ?_)
        subst hw
        clear p1
        have p2 := gB (n := 1) (bs := [bModel E a0 M_32]) (bc := [bModel E a0 M_32]) (br := []) [0] rfl rfl (by decide)
        have hP := gP_perm p2.symm hP
        have hD := gD_perm p2.symm hD
        clear p2
        refine lv_if_ne (tgt := 198) hx hb dX6_item_193 (by decide) (fun c_33 => ?_) (fun c_33 => ?_)
        · have h := h.1 c_33
          refine lv_aload_n hx hb dX6_item_198 rfl (lv_at hl 1 rfl) ?_
          refine va_get (D := (E.1, E.2.1)) (ci := 6) (v := .ref (a0 6)) (C := RX6) (T := TX6) (N := 26) hx hb ht wu_X6 hown hK hP 0 rfl rfl 6 (by decide) (ht _ wk_X6_20) (fun _ h9 => h9) rfl dX6_item_199 ?_
          refine lv_bipush (v := 26) hx hb dX6_item_202 (by decide) ?_
          refine lv_iload_n hx hb dX6_item_204 rfl (lv_at hl 0 rfl) ?_
          refine lv_iadd hx hb dX6_item_205 ?_
          refine lv_dup2_11 hx hb dX6_item_206 rfl rfl ?_
          refine va_iald hx hb hK hP 3 0 rfl rfl h.1 dX6_item_207 ?_
          have h := h.2
          refine lv_iconst (v := 1) hx hb dX6_item_208 (by decide) ?_
          refine lv_aload_n hx hb dX6_item_209 rfl (lv_at hl 1 rfl) ?_
          refine va_get (D := (E.1, E.2.1)) (ci := 6) (v := .int (M_32.1.1 23)) (C := RX6) (T := TX6) (N := 26) hx hb ht wu_X6 hown hK hP 0 rfl rfl 23 (by decide) (ht _ wk_X6_79) (fun _ h9 => h9) rfl dX6_item_210 ?_
          refine lv_ishl hx hb dX6_item_213 ?_
          refine lv_ior hx hb dX6_item_214 ?_
          refine va_iast hx hb hK hP hD hS 3 0 rfl rfl h.1 dX6_item_215 (fun H locs hP hD hS => ?_)
          have h := h.2
          have hP : gP E (gW [bModel E a0 (pma M_32 6 ((26 + (M_20.1.1 23)).toNatClampNeg) ((M_32.1.2 6 (26 + (M_20.1.1 23)).toNatClampNeg) ||| ((1 : Int32) <<< ((M_32.1.1 23) &&& 31))))]) H := hP
          have hD : va_D A (gW [bModel E a0 (pma M_32 6 ((26 + (M_20.1.1 23)).toNatClampNeg) ((M_32.1.2 6 (26 + (M_20.1.1 23)).toNatClampNeg) ||| ((1 : Int32) <<< ((M_32.1.1 23) &&& 31))))]) := hD
          obtain ⟨M_34, eM_34⟩ : ∃ z : Mo, z = (pma M_32 6 ((26 + (M_20.1.1 23)).toNatClampNeg) ((M_32.1.2 6 (26 + (M_20.1.1 23)).toNatClampNeg) ||| ((1 : Int32) <<< ((M_32.1.1 23) &&& 31)))) := ⟨_, rfl⟩
          have h := h M_34 eM_34
          rw [← eM_34] at hP hD
          refine lv_aload_n hx hb dX6_item_216 rfl (lv_at hl 1 rfl) ?_
          have p1 := gB (n := 1) (bs := [bModel E a0 M_34]) (bc := [bModel E a0 M_34]) (br := []) [0] rfl rfl (by decide)
          refine g_i (g_runV (As := []) (rest := []) ⟨hx, hb, hml, hown, ht⟩ hE (c_X6_isEnd E l a0 M_34 _ h) ⟨rfl, rfl⟩ wk_X6_98 wi_X6_isEnd ws_X6_isEnd wn_X6 wc_X6_isEnd yd_X6_isEnd ⟨Nat.le_of_ble_eq_true rfl, Nat.le_of_ble_eq_true rfl⟩ hP hD p1 (ci := 6) rfl rfl rfl rfl rfl hl.1 rfl (lv_room (Nat.le_of_ble_eq_true rfl)) dX6_item_217 ⟨Nat.zero_le _, Nat.zero_le _⟩) hP hD hS p1 (fun r_35 M_36 w H locs h hw hP hD hS => ?_)
          subst hw
          clear p1
          have p2 := gB (n := 1) (bs := [bModel E a0 M_36]) (bc := [bModel E a0 M_36]) (br := []) [0] rfl rfl (by decide)
          have hP := gP_perm p2.symm hP
          have hD := gD_perm p2.symm hD
          clear p2
          exact hret r_35 M_36 _ _ _ _ _ h.1 h.2 rfl hP hD hS dX6_item_220
        · have h := h.2 c_33
          refine lv_iconst (v := 0) hx hb dX6_item_196 (by decide) ?_
          exact hret 0 M_32 _ _ _ _ _ rfl h rfl hP hD hS dX6_item_197
    · have h := h.2 c_21
      refine lv_iconst (v := 0) hx hb dX6_item_170 (by decide) ?_
      exact hret 0 M_20 _ _ _ _ _ rfl h rfl hP hD hS dX6_item_171
  have J145 : ∀ (x1_j145 : Int32) (x2_j145 : Int32) (M0_j145 : Mo) (H : Heap) (locs : List Loc) (ls : Array Slot), wp_X6_item_J145 post x1_j145 x2_j145 M0_j145 → gP E (gW [bModel E a0 M0_j145]) H → va_D A (gW [bModel E a0 M0_j145]) → va_S A s.heap H locs → lv_has ls 4 [(0, .ref (a0 99)), (1, .int x1_j145), (2, .int x2_j145)] → W p l e { frames := 4, cells := 0, slots := 0, locals := 87 } s m ([.ref (a0 99), .int x1] : List Value).toArray below meth c H locs 0 0 Q (F0 m 145 ls []) := by
    intro x1_j145 x2_j145 M0_j145 H locs ls h hP hD hS hl
    unfold wp_X6_item_J145 at h
    refine lv_iload_n hx hb dX6_item_145 rfl (lv_at hl 2 rfl) ?_
    refine lv_bipush (v := 107) hx hb dX6_item_146 (by decide) ?_
    refine lv_icmp_eq (tgt := 157) hx hb dX6_item_148 (by decide) (fun c_39 => ?_) (fun c_39 => ?_)
    · have h := h.1 c_39
      exact J157 x1_j145 x2_j145 M0_j145 _ _ _ h hP hD hS (lv_sub hl [0, 1, 2] rfl)
    · have h := h.2 c_39
      refine lv_iload_n hx hb dX6_item_151 rfl (lv_at hl 2 rfl) ?_
      refine lv_bipush (v := 102) hx hb dX6_item_152 (by decide) ?_
      refine lv_icmp_ne (tgt := 170) hx hb dX6_item_154 (by decide) (fun c_40 => ?_) (fun c_40 => ?_)
      · have h := h.1 c_40
        refine lv_iconst (v := 0) hx hb dX6_item_170 (by decide) ?_
        exact hret 0 M0_j145 _ _ _ _ _ rfl h rfl hP hD hS dX6_item_171
      · have h := h.2 c_40
        exact J157 x1_j145 x2_j145 M0_j145 _ _ _ h hP hD hS (lv_sub hl [0, 1, 2] rfl)
  have J74 : ∀ (x1_j74 : Int32) (x2_j74 : Int32) (M0_j74 : Mo) (H : Heap) (locs : List Loc) (ls : Array Slot), wp_X6_item_J74 post x1_j74 x2_j74 M0_j74 → gP E (gW [bModel E a0 M0_j74]) H → va_D A (gW [bModel E a0 M0_j74]) → va_S A s.heap H locs → lv_has ls 4 [(0, .ref (a0 99)), (1, .int x1_j74), (2, .int x2_j74)] → W p l e { frames := 4, cells := 0, slots := 0, locals := 87 } s m ([.ref (a0 99), .int x1] : List Value).toArray below meth c H locs 0 0 Q (F0 m 74 ls []) := by
    intro x1_j74 x2_j74 M0_j74 H locs ls h hP hD hS hl
    unfold wp_X6_item_J74 at h
    refine lv_iload_n hx hb dX6_item_74 rfl (lv_at hl 2 rfl) ?_
    refine lv_bipush (v := 108) hx hb dX6_item_75 (by decide) ?_
    refine lv_icmp_ne (tgt := 145) hx hb dX6_item_77 (by decide) (fun c_50 => ?_) (fun c_50 => ?_)
    · have h := h.1 c_50
      exact J145 x1_j74 x2_j74 M0_j74 _ _ _ h hP hD hS (lv_sub hl [0, 1, 2] rfl)
    · have h := h.2 c_50
      refine lv_aload_n hx hb dX6_item_80 rfl (lv_at hl 0 rfl) ?_
      refine va_get (D := (E.1, E.2.1)) (ci := 6) (v := .int (M0_j74.1.1 4)) (C := RX6) (T := TX6) (N := 26) hx hb ht wu_X6 hown hK hP 0 rfl rfl 4 (by decide) (ht _ wk_X6_102) (fun _ h9 => h9) rfl dX6_item_81 ?_
      refine lv_bipush (v := 8) hx hb dX6_item_84 (by decide) ?_
      refine lv_icmp_ge (tgt := 145) hx hb dX6_item_86 (by decide) (fun c_51 => ?_) (fun c_51 => ?_)
      · have h := h.1 c_51
        exact J145 x1_j74 x2_j74 M0_j74 _ _ _ h hP hD hS (lv_sub hl [0, 1, 2] rfl)
      · have h := h.2 c_51
        refine lv_aload_n hx hb dX6_item_89 rfl (lv_at hl 0 rfl) ?_
        refine lv_sipush (v := 999) hx hb dX6_item_90 (by decide) ?_
        have p1 := gB (n := 1) (bs := [bModel E a0 M0_j74]) (bc := [bModel E a0 M0_j74]) (br := []) [0] rfl rfl (by decide)
        refine g_i (g_runV (As := [.int 999]) (rest := []) ⟨hx, hb, hml, hown, ht⟩ hE (c_X6_isNumber E l a0 M0_j74 999 _ h) ⟨rfl, rfl⟩ wk_X6_92 wi_X6_isNumber ws_X6_isNumber wn_X6 wc_X6_isNumber yd_X6_isNumber ⟨Nat.le_of_ble_eq_true rfl, Nat.le_of_ble_eq_true rfl⟩ hP hD p1 (ci := 6) rfl rfl rfl rfl rfl hl.1 rfl (lv_room (Nat.le_of_ble_eq_true rfl)) dX6_item_93 ⟨Nat.zero_le _, Nat.zero_le _⟩) hP hD hS p1 (fun r_52 M_53 w H locs h hw hP hD hS => ?_)
        subst hw
        clear p1
        have p2 := gB (n := 1) (bs := [bModel E a0 M_53]) (bc := [bModel E a0 M_53]) (br := []) [0] rfl rfl (by decide)
        have hP := gP_perm p2.symm hP
        have hD := gD_perm p2.symm hD
        clear p2
        refine lv_if_ne (tgt := 101) hx hb dX6_item_96 (by decide) (fun c_54 => ?_) (fun c_54 => ?_)
        · have h := h.1 c_54
          refine lv_aload_n hx hb dX6_item_101 rfl (lv_at hl 0 rfl) ?_
          refine va_get (D := (E.1, E.2.1)) (ci := 6) (v := .ref (a0 6)) (C := RX6) (T := TX6) (N := 26) hx hb ht wu_X6 hown hK hP 0 rfl rfl 6 (by decide) (ht _ wk_X6_20) (fun _ h9 => h9) rfl dX6_item_102 ?_
          refine lv_bipush (v := 10) hx hb dX6_item_105 (by decide) ?_
          refine lv_aload_n hx hb dX6_item_107 rfl (lv_at hl 0 rfl) ?_
          refine va_get (D := (E.1, E.2.1)) (ci := 6) (v := .int (M_53.1.1 4)) (C := RX6) (T := TX6) (N := 26) hx hb ht wu_X6 hown hK hP 0 rfl rfl 4 (by decide) (ht _ wk_X6_102) (fun _ h9 => h9) rfl dX6_item_108 ?_
          refine lv_iadd hx hb dX6_item_111 ?_
          refine lv_aload_n hx hb dX6_item_112 rfl (lv_at hl 0 rfl) ?_
          refine va_get (D := (E.1, E.2.1)) (ci := 6) (v := .int (M_53.1.1 23)) (C := RX6) (T := TX6) (N := 26) hx hb ht wu_X6 hown hK hP 0 rfl rfl 23 (by decide) (ht _ wk_X6_79) (fun _ h9 => h9) rfl dX6_item_113 ?_
          refine va_iast hx hb hK hP hD hS 3 0 rfl rfl h.1 dX6_item_116 (fun H locs hP hD hS => ?_)
          have h := h.2
          have hP : gP E (gW [bModel E a0 (pma M_53 6 ((10 + (M_53.1.1 4)).toNatClampNeg) (M_53.1.1 23))]) H := hP
          have hD : va_D A (gW [bModel E a0 (pma M_53 6 ((10 + (M_53.1.1 4)).toNatClampNeg) (M_53.1.1 23))]) := hD
          obtain ⟨M_55, eM_55⟩ : ∃ z : Mo, z = (pma M_53 6 ((10 + (M_53.1.1 4)).toNatClampNeg) (M_53.1.1 23)) := ⟨_, rfl⟩
          have h := h M_55 eM_55
          rw [← eM_55] at hP hD
          refine lv_aload_n hx hb dX6_item_117 rfl (lv_at hl 0 rfl) ?_
          refine va_get (D := (E.1, E.2.1)) (ci := 6) (v := .ref (a0 6)) (C := RX6) (T := TX6) (N := 26) hx hb ht wu_X6 hown hK hP 0 rfl rfl 6 (by decide) (ht _ wk_X6_20) (fun _ h9 => h9) rfl dX6_item_118 ?_
          refine lv_aload_n hx hb dX6_item_121 rfl (lv_at hl 0 rfl) ?_
          refine va_get (D := (E.1, E.2.1)) (ci := 6) (v := .int (M_55.1.1 4)) (C := RX6) (T := TX6) (N := 26) hx hb ht wu_X6 hown hK hP 0 rfl rfl 4 (by decide) (ht _ wk_X6_102) (fun _ h9 => h9) rfl dX6_item_122 ?_
          refine lv_aload_n hx hb dX6_item_125 rfl (lv_at hl 0 rfl) ?_
          refine va_get (D := (E.1, E.2.1)) (ci := 6) (v := .int (M_55.1.1 4)) (C := RX6) (T := TX6) (N := 26) hx hb ht wu_X6 hown hK hP 0 rfl rfl 4 (by decide) (ht _ wk_X6_102) (fun _ h9 => h9) rfl dX6_item_126 ?_
          refine va_iast hx hb hK hP hD hS 3 0 rfl rfl h.1 dX6_item_129 (fun H locs hP hD hS => ?_)
          have h := h.2
          have hP : gP E (gW [bModel E a0 (pma M_55 6 ((M_55.1.1 4).toNatClampNeg) (M_55.1.1 4))]) H := hP
          have hD : va_D A (gW [bModel E a0 (pma M_55 6 ((M_55.1.1 4).toNatClampNeg) (M_55.1.1 4))]) := hD
          obtain ⟨M_56, eM_56⟩ : ∃ z : Mo, z = (pma M_55 6 ((M_55.1.1 4).toNatClampNeg) (M_55.1.1 4)) := ⟨_, rfl⟩
          have h := h M_56 eM_56
          rw [← eM_56] at hP hD
          refine lv_aload_n hx hb dX6_item_130 rfl (lv_at hl 0 rfl) ?_
          refine lv_dup hx hb dX6_item_131 rfl ?_
          refine va_get (D := (E.1, E.2.1)) (ci := 6) (v := .int (M_56.1.1 4)) (C := RX6) (T := TX6) (N := 26) hx hb ht wu_X6 hown hK hP 0 rfl rfl 4 (by decide) (ht _ wk_X6_102) (fun _ h9 => h9) rfl dX6_item_132 ?_
          refine lv_iconst (v := 1) hx hb dX6_item_135 (by decide) ?_
          refine lv_iadd hx hb dX6_item_136 ?_
          refine va_put (D := (E.1, E.2.1)) (ci := 6) (v := .int ((M_56.1.1 4) + 1)) (ty := .int) (C := RX6) (T := TX6) (N := 26) hx hb ht wu_X6 tyX6 tyX6_ok nmX6 hown hK hP hD hS 0 rfl rfl 4 (by decide) (ht _ wk_X6_102) (fun _ h9 => h9) rfl (by decide +kernel) rfl rfl (Nat.le_of_ble_eq_true rfl) dX6_item_137 (fun H locs hP hD hS => ?_)
          have hP : gP E (gW [bModel E a0 (pmf M_56 4 ((M_56.1.1 4) + 1))]) H := hP
          have hD : va_D A (gW [bModel E a0 (pmf M_56 4 ((M_56.1.1 4) + 1))]) := hD
          refine lv_aload_n hx hb dX6_item_140 rfl (lv_at hl 0 rfl) ?_
          have p1 := gB (n := 1) (bs := [bModel E a0 (pmf M_56 4 ((M_56.1.1 4) + 1))]) (bc := [bModel E a0 (pmf M_56 4 ((M_56.1.1 4) + 1))]) (br := []) [0] rfl rfl (by decide)
          refine g_i (g_runV (As := []) (rest := []) ⟨hx, hb, hml, hown, ht⟩ hE (c_X6_isEnd E l a0 (pmf M_56 4 ((M_56.1.1 4) + 1)) _ h) ⟨rfl, rfl⟩ wk_X6_98 wi_X6_isEnd ws_X6_isEnd wn_X6 wc_X6_isEnd yd_X6_isEnd ⟨Nat.le_of_ble_eq_true rfl, Nat.le_of_ble_eq_true rfl⟩ hP hD p1 (ci := 6) rfl rfl rfl rfl rfl hl.1 rfl (lv_room (Nat.le_of_ble_eq_true rfl)) dX6_item_141 ⟨Nat.zero_le _, Nat.zero_le _⟩) hP hD hS p1 (fun r_57 M_58 w H locs h hw hP hD hS => ?_)
          subst hw
          clear p1
          have p2 := gB (n := 1) (bs := [bModel E a0 M_58]) (bc := [bModel E a0 M_58]) (br := []) [0] rfl rfl (by decide)
          have hP := gP_perm p2.symm hP
          have hD := gD_perm p2.symm hD
          clear p2
          exact hret r_57 M_58 _ _ _ _ _ h.1 h.2 rfl hP hD hS dX6_item_144
        · have h := h.2 c_54
          refine lv_iconst (v := 0) hx hb dX6_item_99 (by decide) ?_
          exact hret 0 M_53 _ _ _ _ _ rfl h rfl hP hD hS dX6_item_100
  have J16 : ∀ (x1_j16 : Int32) (t0_j16 : Int32) (M0_j16 : Mo) (H : Heap) (locs : List Loc) (ls : Array Slot), wp_X6_item_J16 post x1_j16 t0_j16 M0_j16 → gP E (gW [bModel E a0 M0_j16]) H → va_D A (gW [bModel E a0 M0_j16]) → va_S A s.heap H locs → lv_has ls 4 [(0, .ref (a0 99)), (1, .int x1_j16)] → W p l e { frames := 4, cells := 0, slots := 0, locals := 87 } s m ([.ref (a0 99), .int x1] : List Value).toArray below meth c H locs 0 0 Q (F0 m 16 ls [.int t0_j16]) := by
    intro x1_j16 t0_j16 M0_j16 H locs ls h hP hD hS hl
    unfold wp_X6_item_J16 at h
    refine lv_istore_n (lv' := [(2, .int t0_j16), (0, .ref (a0 99)), (1, .int x1_j16)]) hx hb dX6_item_16 rfl hl (by decide) rfl (fun ls hl => ?_)
    refine lv_iload_n hx hb dX6_item_17 rfl (lv_at hl 0 rfl) ?_
    refine lv_bipush (v := 110) hx hb dX6_item_18 (by decide) ?_
    refine lv_icmp_ne (tgt := 74) hx hb dX6_item_20 (by decide) (fun c_77 => ?_) (fun c_77 => ?_)
    · have h := h.1 c_77
      exact J74 x1_j16 t0_j16 M0_j16 _ _ _ h hP hD hS (lv_sub hl [1, 2, 0] rfl)
    · have h := h.2 c_77
      refine lv_iload_n hx hb dX6_item_23 rfl (lv_at hl 2 rfl) ?_
      refine lv_if_eq (tgt := 74) hx hb dX6_item_24 (by decide) (fun c_78 => ?_) (fun c_78 => ?_)
      · have h := h.1 c_78
        exact J74 x1_j16 t0_j16 M0_j16 _ _ _ h hP hD hS (lv_sub hl [1, 2, 0] rfl)
      · have h := h.2 c_78
        refine lv_aload_n hx hb dX6_item_27 rfl (lv_at hl 1 rfl) ?_
        refine lv_bipush (v := 6) hx hb dX6_item_28 (by decide) ?_
        have p1 := gB (n := 1) (bs := [bModel E a0 M0_j16]) (bc := [bModel E a0 M0_j16]) (br := []) [0] rfl rfl (by decide)
        refine g_i (g_runV (As := [.int 6]) (rest := []) ⟨hx, hb, hml, hown, ht⟩ hE (c_X6_isNumber E l a0 M0_j16 6 _ h) ⟨rfl, rfl⟩ wk_X6_92 wi_X6_isNumber ws_X6_isNumber wn_X6 wc_X6_isNumber yd_X6_isNumber ⟨Nat.le_of_ble_eq_true rfl, Nat.le_of_ble_eq_true rfl⟩ hP hD p1 (ci := 6) rfl rfl rfl rfl rfl hl.1 rfl (lv_room (Nat.le_of_ble_eq_true rfl)) dX6_item_30 ⟨Nat.zero_le _, Nat.zero_le _⟩) hP hD hS p1 (fun r_79 M_80 w H locs h hw hP hD hS => ?_)
        subst hw
        clear p1
        have p2 := gB (n := 1) (bs := [bModel E a0 M_80]) (bc := [bModel E a0 M_80]) (br := []) [0] rfl rfl (by decide)
        have hP := gP_perm p2.symm hP
        have hD := gD_perm p2.symm hD
        clear p2
        refine lv_if_eq (tgt := 47) hx hb dX6_item_33 (by decide) (fun c_81 => ?_) (fun c_81 => ?_)
        · have h := h.1 c_81
          refine lv_iconst (v := 0) hx hb dX6_item_47 (by decide) ?_
          refine lv_istore_n (lv' := [(3, .int 0), (2, .int t0_j16), (0, .ref (a0 99)), (1, .int x1_j16)]) hx hb dX6_item_48 rfl hl (by decide) rfl (fun ls hl => ?_)
          refine lv_aload_n hx hb dX6_item_49 rfl (lv_at hl 2 rfl) ?_
          refine lv_aload_n hx hb dX6_item_50 rfl (lv_at hl 2 rfl) ?_
          refine va_get (D := (E.1, E.2.1)) (ci := 6) (v := .int (M_80.1.1 23)) (C := RX6) (T := TX6) (N := 26) hx hb ht wu_X6 hown hK hP 0 rfl rfl 23 (by decide) (ht _ wk_X6_79) (fun _ h9 => h9) rfl dX6_item_51 ?_
          refine va_put (D := (E.1, E.2.1)) (ci := 6) (v := .int (M_80.1.1 23)) (ty := .int) (C := RX6) (T := TX6) (N := 26) hx hb ht wu_X6 tyX6 tyX6_ok nmX6 hown hK hP hD hS 0 rfl rfl 3 (by decide) (ht _ wk_X6_95) (fun _ h9 => h9) rfl (by decide +kernel) rfl rfl (Nat.le_of_ble_eq_true rfl) dX6_item_54 (fun H locs hP hD hS => ?_)
          have hP : gP E (gW [bModel E a0 (pmf M_80 3 (M_80.1.1 23))]) H := hP
          have hD : va_D A (gW [bModel E a0 (pmf M_80 3 (M_80.1.1 23))]) := hD
          refine lv_iload_n hx hb dX6_item_57 rfl (lv_at hl 0 rfl) ?_
          refine lv_if_eq (tgt := 72) hx hb dX6_item_58 (by decide) (fun c_82 => ?_) (fun c_82 => ?_)
          · have h := h.1 c_82
            refine lv_iconst (v := 0) hx hb dX6_item_72 (by decide) ?_
            exact hret 0 (pmf M_80 3 (M_80.1.1 23)) _ _ _ _ _ rfl h rfl hP hD hS dX6_item_73
          · have h := h.2 c_82
            refine lv_aload_n hx hb dX6_item_61 rfl (lv_at hl 2 rfl) ?_
            have p1 := gB (n := 1) (bs := [bModel E a0 (pmf M_80 3 (M_80.1.1 23))]) (bc := [bModel E a0 (pmf M_80 3 (M_80.1.1 23))]) (br := []) [0] rfl rfl (by decide)
            refine g_i (g_runV (As := []) (rest := []) ⟨hx, hb, hml, hown, ht⟩ hE (c_X6_isEnd E l a0 (pmf M_80 3 (M_80.1.1 23)) _ h) ⟨rfl, rfl⟩ wk_X6_98 wi_X6_isEnd ws_X6_isEnd wn_X6 wc_X6_isEnd yd_X6_isEnd ⟨Nat.le_of_ble_eq_true rfl, Nat.le_of_ble_eq_true rfl⟩ hP hD p1 (ci := 6) rfl rfl rfl rfl rfl hl.1 rfl (lv_room (Nat.le_of_ble_eq_true rfl)) dX6_item_62 ⟨Nat.zero_le _, Nat.zero_le _⟩) hP hD hS p1 (fun r_83 M_84 w H locs h hw hP hD hS => ?_)
            subst hw
            clear p1
            have p2 := gB (n := 1) (bs := [bModel E a0 M_84]) (bc := [bModel E a0 M_84]) (br := []) [0] rfl rfl (by decide)
            have hP := gP_perm p2.symm hP
            have hD := gD_perm p2.symm hD
            clear p2
            refine lv_if_eq (tgt := 72) hx hb dX6_item_65 (by decide) (fun c_85 => ?_) (fun c_85 => ?_)
            · have h := h.1 c_85
              refine lv_iconst (v := 0) hx hb dX6_item_72 (by decide) ?_
              exact hret 0 M_84 _ _ _ _ _ rfl h rfl hP hD hS dX6_item_73
            · have h := h.2 c_85
              refine lv_iconst (v := 1) hx hb dX6_item_68 (by decide) ?_
              refine lv_goto (tgt := 73) hx hb dX6_item_69 (by decide) ?_
              exact hret 1 M_84 _ _ _ _ _ rfl h rfl hP hD hS dX6_item_73
        · have h := h.2 c_81
          refine lv_aload_n hx hb dX6_item_36 rfl (lv_at hl 1 rfl) ?_
          refine va_get (D := (E.1, E.2.1)) (ci := 6) (v := .int (M_80.1.1 23)) (C := RX6) (T := TX6) (N := 26) hx hb ht wu_X6 hown hK hP 0 rfl rfl 23 (by decide) (ht _ wk_X6_79) (fun _ h9 => h9) rfl dX6_item_37 ?_
          refine lv_if_le (tgt := 47) hx hb dX6_item_40 (by decide) (fun c_86 => ?_) (fun c_86 => ?_)
          · have h := h.1 c_86
            refine lv_iconst (v := 0) hx hb dX6_item_47 (by decide) ?_
            refine lv_istore_n (lv' := [(3, .int 0), (2, .int t0_j16), (0, .ref (a0 99)), (1, .int x1_j16)]) hx hb dX6_item_48 rfl hl (by decide) rfl (fun ls hl => ?_)
            refine lv_aload_n hx hb dX6_item_49 rfl (lv_at hl 2 rfl) ?_
            refine lv_aload_n hx hb dX6_item_50 rfl (lv_at hl 2 rfl) ?_
            refine va_get (D := (E.1, E.2.1)) (ci := 6) (v := .int (M_80.1.1 23)) (C := RX6) (T := TX6) (N := 26) hx hb ht wu_X6 hown hK hP 0 rfl rfl 23 (by decide) (ht _ wk_X6_79) (fun _ h9 => h9) rfl dX6_item_51 ?_
            refine va_put (D := (E.1, E.2.1)) (ci := 6) (v := .int (M_80.1.1 23)) (ty := .int) (C := RX6) (T := TX6) (N := 26) hx hb ht wu_X6 tyX6 tyX6_ok nmX6 hown hK hP hD hS 0 rfl rfl 3 (by decide) (ht _ wk_X6_95) (fun _ h9 => h9) rfl (by decide +kernel) rfl rfl (Nat.le_of_ble_eq_true rfl) dX6_item_54 (fun H locs hP hD hS => ?_)
            have hP : gP E (gW [bModel E a0 (pmf M_80 3 (M_80.1.1 23))]) H := hP
            have hD : va_D A (gW [bModel E a0 (pmf M_80 3 (M_80.1.1 23))]) := hD
            refine lv_iload_n hx hb dX6_item_57 rfl (lv_at hl 0 rfl) ?_
            refine lv_if_eq (tgt := 72) hx hb dX6_item_58 (by decide) (fun c_87 => ?_) (fun c_87 => ?_)
            · have h := h.1 c_87
              refine lv_iconst (v := 0) hx hb dX6_item_72 (by decide) ?_
              exact hret 0 (pmf M_80 3 (M_80.1.1 23)) _ _ _ _ _ rfl h rfl hP hD hS dX6_item_73
            · have h := h.2 c_87
              refine lv_aload_n hx hb dX6_item_61 rfl (lv_at hl 2 rfl) ?_
              have p1 := gB (n := 1) (bs := [bModel E a0 (pmf M_80 3 (M_80.1.1 23))]) (bc := [bModel E a0 (pmf M_80 3 (M_80.1.1 23))]) (br := []) [0] rfl rfl (by decide)
              refine g_i (g_runV (As := []) (rest := []) ⟨hx, hb, hml, hown, ht⟩ hE (c_X6_isEnd E l a0 (pmf M_80 3 (M_80.1.1 23)) _ h) ⟨rfl, rfl⟩ wk_X6_98 wi_X6_isEnd ws_X6_isEnd wn_X6 wc_X6_isEnd yd_X6_isEnd ⟨Nat.le_of_ble_eq_true rfl, Nat.le_of_ble_eq_true rfl⟩ hP hD p1 (ci := 6) rfl rfl rfl rfl rfl hl.1 rfl (lv_room (Nat.le_of_ble_eq_true rfl)) dX6_item_62 ⟨Nat.zero_le _, Nat.zero_le _⟩) hP hD hS p1 (fun r_88 M_89 w H locs h hw hP hD hS => ?_)
              subst hw
              clear p1
              have p2 := gB (n := 1) (bs := [bModel E a0 M_89]) (bc := [bModel E a0 M_89]) (br := []) [0] rfl rfl (by decide)
              have hP := gP_perm p2.symm hP
              have hD := gD_perm p2.symm hD
              clear p2
              refine lv_if_eq (tgt := 72) hx hb dX6_item_65 (by decide) (fun c_90 => ?_) (fun c_90 => ?_)
              · have h := h.1 c_90
                refine lv_iconst (v := 0) hx hb dX6_item_72 (by decide) ?_
                exact hret 0 M_89 _ _ _ _ _ rfl h rfl hP hD hS dX6_item_73
              · have h := h.2 c_90
                refine lv_iconst (v := 1) hx hb dX6_item_68 (by decide) ?_
                refine lv_goto (tgt := 73) hx hb dX6_item_69 (by decide) ?_
                exact hret 1 M_89 _ _ _ _ _ rfl h rfl hP hD hS dX6_item_73
          · have h := h.2 c_86
            refine lv_iconst (v := 1) hx hb dX6_item_43 (by decide) ?_
            refine lv_goto (tgt := 48) hx hb dX6_item_44 (by decide) ?_
            refine lv_istore_n (lv' := [(3, .int 1), (2, .int t0_j16), (0, .ref (a0 99)), (1, .int x1_j16)]) hx hb dX6_item_48 rfl hl (by decide) rfl (fun ls hl => ?_)
            refine lv_aload_n hx hb dX6_item_49 rfl (lv_at hl 2 rfl) ?_
            refine lv_aload_n hx hb dX6_item_50 rfl (lv_at hl 2 rfl) ?_
            refine va_get (D := (E.1, E.2.1)) (ci := 6) (v := .int (M_80.1.1 23)) (C := RX6) (T := TX6) (N := 26) hx hb ht wu_X6 hown hK hP 0 rfl rfl 23 (by decide) (ht _ wk_X6_79) (fun _ h9 => h9) rfl dX6_item_51 ?_
            refine va_put (D := (E.1, E.2.1)) (ci := 6) (v := .int (M_80.1.1 23)) (ty := .int) (C := RX6) (T := TX6) (N := 26) hx hb ht wu_X6 tyX6 tyX6_ok nmX6 hown hK hP hD hS 0 rfl rfl 3 (by decide) (ht _ wk_X6_95) (fun _ h9 => h9) rfl (by decide +kernel) rfl rfl (Nat.le_of_ble_eq_true rfl) dX6_item_54 (fun H locs hP hD hS => ?_)
            have hP : gP E (gW [bModel E a0 (pmf M_80 3 (M_80.1.1 23))]) H := hP
            have hD : va_D A (gW [bModel E a0 (pmf M_80 3 (M_80.1.1 23))]) := hD
            refine lv_iload_n hx hb dX6_item_57 rfl (lv_at hl 0 rfl) ?_
            refine lv_if_eq (tgt := 72) hx hb dX6_item_58 (by decide) (fun c_91 => ?_) (fun c_91 => ?_)
            · have h := h.1 c_91
              refine lv_iconst (v := 0) hx hb dX6_item_72 (by decide) ?_
              exact hret 0 (pmf M_80 3 (M_80.1.1 23)) _ _ _ _ _ rfl h rfl hP hD hS dX6_item_73
            · have h := h.2 c_91
              refine lv_aload_n hx hb dX6_item_61 rfl (lv_at hl 2 rfl) ?_
              have p1 := gB (n := 1) (bs := [bModel E a0 (pmf M_80 3 (M_80.1.1 23))]) (bc := [bModel E a0 (pmf M_80 3 (M_80.1.1 23))]) (br := []) [0] rfl rfl (by decide)
              refine g_i (g_runV (As := []) (rest := []) ⟨hx, hb, hml, hown, ht⟩ hE (c_X6_isEnd E l a0 (pmf M_80 3 (M_80.1.1 23)) _ h) ⟨rfl, rfl⟩ wk_X6_98 wi_X6_isEnd ws_X6_isEnd wn_X6 wc_X6_isEnd yd_X6_isEnd ⟨Nat.le_of_ble_eq_true rfl, Nat.le_of_ble_eq_true rfl⟩ hP hD p1 (ci := 6) rfl rfl rfl rfl rfl hl.1 rfl (lv_room (Nat.le_of_ble_eq_true rfl)) dX6_item_62 ⟨Nat.zero_le _, Nat.zero_le _⟩) hP hD hS p1 (fun r_92 M_93 w H locs h hw hP hD hS => ?_)
              subst hw
              clear p1
              have p2 := gB (n := 1) (bs := [bModel E a0 M_93]) (bc := [bModel E a0 M_93]) (br := []) [0] rfl rfl (by decide)
              have hP := gP_perm p2.symm hP
              have hD := gD_perm p2.symm hD
              clear p2
              refine lv_if_eq (tgt := 72) hx hb dX6_item_65 (by decide) (fun c_94 => ?_) (fun c_94 => ?_)
              · have h := h.1 c_94
                refine lv_iconst (v := 0) hx hb dX6_item_72 (by decide) ?_
                exact hret 0 M_93 _ _ _ _ _ rfl h rfl hP hD hS dX6_item_73
              · have h := h.2 c_94
                refine lv_iconst (v := 1) hx hb dX6_item_68 (by decide) ?_
                refine lv_goto (tgt := 73) hx hb dX6_item_69 (by decide) ?_
                exact hret 1 M_93 _ _ _ _ _ rfl h rfl hP hD hS dX6_item_73
  refine lv_aload_n hx hb dX6_item_0 rfl (lv_at hl 0 rfl) ?_
  refine va_get (D := (E.1, E.2.1)) (ci := 6) (v := .int (M0.1.1 22)) (C := RX6) (T := TX6) (N := 26) hx hb ht wu_X6 hown hK hP 0 rfl rfl 22 (by decide) (ht _ wk_X6_76) (fun _ h9 => h9) rfl dX6_item_1 ?_
  refine lv_iconst (v := 1) hx hb dX6_item_4 (by decide) ?_
  refine lv_icmp_ne (tgt := 15) hx hb dX6_item_5 (by decide) (fun c_95 => ?_) (fun c_95 => ?_)
  · have h := h.1 c_95
    refine lv_iconst (v := 0) hx hb dX6_item_15 (by decide) ?_
    exact J16 x1 0 M0 _ _ _ h hP hD hS (lv_sub hl [0, 1] rfl)
  · have h := h.2 c_95
    refine lv_aload_n hx hb dX6_item_8 rfl (lv_at hl 0 rfl) ?_
    refine va_get (D := (E.1, E.2.1)) (ci := 6) (v := .int (M0.1.1 23)) (C := RX6) (T := TX6) (N := 26) hx hb ht wu_X6 hown hK hP 0 rfl rfl 23 (by decide) (ht _ wk_X6_79) (fun _ h9 => h9) rfl dX6_item_9 ?_
    refine lv_goto (tgt := 16) hx hb dX6_item_12 (by decide) ?_
    exact J16 x1 (M0.1.1 23) M0 _ _ _ h hP hD hS (lv_sub hl [0, 1] rfl)
theorem dX6_gate_0 : decode cX6_gate 0 = .ok (.aload_n 0, 1) := by decide +kernel
theorem dX6_gate_1 : decode cX6_gate 1 = .ok (.iconst 3, 1) := by decide +kernel
theorem dX6_gate_2 : decode cX6_gate 2 = .ok (.putfield 95, 3) := by decide +kernel
theorem dX6_gate_5 : decode cX6_gate 5 = .ok (.aload_n 0, 1) := by decide +kernel
theorem dX6_gate_6 : decode cX6_gate 6 = .ok (.iconst 0, 1) := by decide +kernel
theorem dX6_gate_7 : decode cX6_gate 7 = .ok (.putfield 102, 3) := by decide +kernel
theorem dX6_gate_10 : decode cX6_gate 10 = .ok (.iconst 0, 1) := by decide +kernel
theorem dX6_gate_11 : decode cX6_gate 11 = .ok (.istore_n 1, 1) := by decide +kernel
theorem dX6_gate_12 : decode cX6_gate 12 = .ok (.iload_n 1, 1) := by decide +kernel
theorem dX6_gate_13 : decode cX6_gate 13 = .ok (.bipush 6, 2) := by decide +kernel
theorem dX6_gate_15 : decode cX6_gate 15 = .ok (.if_icmp .ge 16, 3) := by decide +kernel
theorem dX6_gate_18 : decode cX6_gate 18 = .ok (.aload_n 0, 1) := by decide +kernel
theorem dX6_gate_19 : decode cX6_gate 19 = .ok (.getfield 17, 3) := by decide +kernel
theorem dX6_gate_22 : decode cX6_gate 22 = .ok (.iload_n 1, 1) := by decide +kernel
theorem dX6_gate_23 : decode cX6_gate 23 = .ok (.iconst 0, 1) := by decide +kernel
theorem dX6_gate_24 : decode cX6_gate 24 = .ok (.iastore, 1) := by decide +kernel
theorem dX6_gate_25 : decode cX6_gate 25 = .ok (.iinc 1 1, 3) := by decide +kernel
theorem dX6_gate_28 : decode cX6_gate 28 = .ok (.goto (-16), 3) := by decide +kernel
theorem dX6_gate_31 : decode cX6_gate 31 = .ok (.iconst 0, 1) := by decide +kernel
theorem dX6_gate_32 : decode cX6_gate 32 = .ok (.istore_n 1, 1) := by decide +kernel
theorem dX6_gate_33 : decode cX6_gate 33 = .ok (.iload_n 1, 1) := by decide +kernel
theorem dX6_gate_34 : decode cX6_gate 34 = .ok (.bipush 32, 2) := by decide +kernel
theorem dX6_gate_36 : decode cX6_gate 36 = .ok (.if_icmp .ge 16, 3) := by decide +kernel
theorem dX6_gate_39 : decode cX6_gate 39 = .ok (.aload_n 0, 1) := by decide +kernel
theorem dX6_gate_40 : decode cX6_gate 40 = .ok (.getfield 20, 3) := by decide +kernel
theorem dX6_gate_43 : decode cX6_gate 43 = .ok (.iload_n 1, 1) := by decide +kernel
theorem dX6_gate_44 : decode cX6_gate 44 = .ok (.iconst 0, 1) := by decide +kernel
theorem dX6_gate_45 : decode cX6_gate 45 = .ok (.iastore, 1) := by decide +kernel
theorem dX6_gate_46 : decode cX6_gate 46 = .ok (.iinc 1 1, 3) := by decide +kernel
theorem dX6_gate_49 : decode cX6_gate 49 = .ok (.goto (-16), 3) := by decide +kernel
theorem dX6_gate_52 : decode cX6_gate 52 = .ok (.aload_n 0, 1) := by decide +kernel
theorem dX6_gate_53 : decode cX6_gate 53 = .ok (.iconst 0, 1) := by decide +kernel
theorem dX6_gate_54 : decode cX6_gate 54 = .ok (.putfield 70, 3) := by decide +kernel
theorem dX6_gate_57 : decode cX6_gate 57 = .ok (.iconst 0, 1) := by decide +kernel
theorem dX6_gate_58 : decode cX6_gate 58 = .ok (.istore_n 1, 1) := by decide +kernel
theorem dX6_gate_59 : decode cX6_gate 59 = .ok (.aload_n 0, 1) := by decide +kernel
theorem dX6_gate_60 : decode cX6_gate 60 = .ok (.invokevirtual 89, 3) := by decide +kernel
theorem dX6_gate_63 : decode cX6_gate 63 = .ok (.aload_n 0, 1) := by decide +kernel
theorem dX6_gate_64 : decode cX6_gate 64 = .ok (.getfield 76, 3) := by decide +kernel
theorem dX6_gate_67 : decode cX6_gate 67 = .ok (.ifCond .eq 37, 3) := by decide +kernel
theorem dX6_gate_70 : decode cX6_gate 70 = .ok (.aload_n 0, 1) := by decide +kernel
theorem dX6_gate_71 : decode cX6_gate 71 = .ok (.iload_n 1, 1) := by decide +kernel
theorem dX6_gate_72 : decode cX6_gate 72 = .ok (.ifCond .ne 7, 3) := by decide +kernel
theorem dX6_gate_75 : decode cX6_gate 75 = .ok (.iconst 1, 1) := by decide +kernel
theorem dX6_gate_76 : decode cX6_gate 76 = .ok (.goto 4, 3) := by decide +kernel
theorem dX6_gate_79 : decode cX6_gate 79 = .ok (.iconst 0, 1) := by decide +kernel
theorem dX6_gate_80 : decode cX6_gate 80 = .ok (.invokevirtual 105, 3) := by decide +kernel
theorem dX6_gate_83 : decode cX6_gate 83 = .ok (.ifCond .ne 11, 3) := by decide +kernel
theorem dX6_gate_86 : decode cX6_gate 86 = .ok (.bipush (-10), 2) := by decide +kernel
theorem dX6_gate_88 : decode cX6_gate 88 = .ok (.aload_n 0, 1) := by decide +kernel
theorem dX6_gate_89 : decode cX6_gate 89 = .ok (.getfield 73, 3) := by decide +kernel
theorem dX6_gate_92 : decode cX6_gate 92 = .ok (.isub, 1) := by decide +kernel
theorem dX6_gate_93 : decode cX6_gate 93 = .ok (.ireturn, 1) := by decide +kernel
theorem dX6_gate_94 : decode cX6_gate 94 = .ok (.iinc 1 1, 3) := by decide +kernel
theorem dX6_gate_97 : decode cX6_gate 97 = .ok (.aload_n 0, 1) := by decide +kernel
theorem dX6_gate_98 : decode cX6_gate 98 = .ok (.invokevirtual 89, 3) := by decide +kernel
theorem dX6_gate_101 : decode cX6_gate 101 = .ok (.goto (-38), 3) := by decide +kernel
theorem dX6_gate_104 : decode cX6_gate 104 = .ok (.aload_n 0, 1) := by decide +kernel
theorem dX6_gate_105 : decode cX6_gate 105 = .ok (.getfield 20, 3) := by decide +kernel
theorem dX6_gate_108 : decode cX6_gate 108 = .ok (.bipush 8, 2) := by decide +kernel
theorem dX6_gate_110 : decode cX6_gate 110 = .ok (.aload_n 0, 1) := by decide +kernel
theorem dX6_gate_111 : decode cX6_gate 111 = .ok (.getfield 102, 3) := by decide +kernel
theorem dX6_gate_114 : decode cX6_gate 114 = .ok (.iastore, 1) := by decide +kernel
theorem dX6_gate_115 : decode cX6_gate 115 = .ok (.aload_n 0, 1) := by decide +kernel
theorem dX6_gate_116 : decode cX6_gate 116 = .ok (.getfield 20, 3) := by decide +kernel
theorem dX6_gate_119 : decode cX6_gate 119 = .ok (.bipush 9, 2) := by decide +kernel
theorem dX6_gate_121 : decode cX6_gate 121 = .ok (.bipush (-9), 2) := by decide +kernel
theorem dX6_gate_123 : decode cX6_gate 123 = .ok (.iastore, 1) := by decide +kernel
theorem dX6_gate_124 : decode cX6_gate 124 = .ok (.aload_n 0, 1) := by decide +kernel
theorem dX6_gate_125 : decode cX6_gate 125 = .ok (.aload_n 0, 1) := by decide +kernel
theorem dX6_gate_126 : decode cX6_gate 126 = .ok (.getfield 95, 3) := by decide +kernel
theorem dX6_gate_129 : decode cX6_gate 129 = .ok (.putfield 7, 3) := by decide +kernel
theorem dX6_gate_132 : decode cX6_gate 132 = .ok (.aload_n 0, 1) := by decide +kernel
theorem dX6_gate_133 : decode cX6_gate 133 = .ok (.aload_n 0, 1) := by decide +kernel
theorem dX6_gate_134 : decode cX6_gate 134 = .ok (.getfield 102, 3) := by decide +kernel
theorem dX6_gate_137 : decode cX6_gate 137 = .ok (.putfield 109, 3) := by decide +kernel
theorem dX6_gate_140 : decode cX6_gate 140 = .ok (.iconst 0, 1) := by decide +kernel
theorem dX6_gate_141 : decode cX6_gate 141 = .ok (.istore_n 2, 1) := by decide +kernel
theorem dX6_gate_142 : decode cX6_gate 142 = .ok (.iload_n 2, 1) := by decide +kernel
theorem dX6_gate_143 : decode cX6_gate 143 = .ok (.bipush 6, 2) := by decide +kernel
theorem dX6_gate_145 : decode cX6_gate 145 = .ok (.if_icmp .ge 21, 3) := by decide +kernel
theorem dX6_gate_148 : decode cX6_gate 148 = .ok (.aload_n 0, 1) := by decide +kernel
theorem dX6_gate_149 : decode cX6_gate 149 = .ok (.getfield 13, 3) := by decide +kernel
theorem dX6_gate_152 : decode cX6_gate 152 = .ok (.iload_n 2, 1) := by decide +kernel
theorem dX6_gate_153 : decode cX6_gate 153 = .ok (.aload_n 0, 1) := by decide +kernel
theorem dX6_gate_154 : decode cX6_gate 154 = .ok (.getfield 17, 3) := by decide +kernel
theorem dX6_gate_157 : decode cX6_gate 157 = .ok (.iload_n 2, 1) := by decide +kernel
theorem dX6_gate_158 : decode cX6_gate 158 = .ok (.iaload, 1) := by decide +kernel
theorem dX6_gate_159 : decode cX6_gate 159 = .ok (.iastore, 1) := by decide +kernel
theorem dX6_gate_160 : decode cX6_gate 160 = .ok (.iinc 2 1, 3) := by decide +kernel
theorem dX6_gate_163 : decode cX6_gate 163 = .ok (.goto (-21), 3) := by decide +kernel
theorem dX6_gate_166 : decode cX6_gate 166 = .ok (.iconst 0, 1) := by decide +kernel
theorem dX6_gate_167 : decode cX6_gate 167 = .ok (.istore_n 2, 1) := by decide +kernel
theorem dX6_gate_168 : decode cX6_gate 168 = .ok (.iload_n 2, 1) := by decide +kernel
theorem dX6_gate_169 : decode cX6_gate 169 = .ok (.bipush 32, 2) := by decide +kernel
theorem dX6_gate_171 : decode cX6_gate 171 = .ok (.if_icmp .ge 21, 3) := by decide +kernel
theorem dX6_gate_174 : decode cX6_gate 174 = .ok (.aload_n 0, 1) := by decide +kernel
theorem dX6_gate_175 : decode cX6_gate 175 = .ok (.getfield 23, 3) := by decide +kernel
theorem dX6_gate_178 : decode cX6_gate 178 = .ok (.iload_n 2, 1) := by decide +kernel
theorem dX6_gate_179 : decode cX6_gate 179 = .ok (.aload_n 0, 1) := by decide +kernel
theorem dX6_gate_180 : decode cX6_gate 180 = .ok (.getfield 20, 3) := by decide +kernel
theorem dX6_gate_183 : decode cX6_gate 183 = .ok (.iload_n 2, 1) := by decide +kernel
theorem dX6_gate_184 : decode cX6_gate 184 = .ok (.iaload, 1) := by decide +kernel
theorem dX6_gate_185 : decode cX6_gate 185 = .ok (.iastore, 1) := by decide +kernel
theorem dX6_gate_186 : decode cX6_gate 186 = .ok (.iinc 2 1, 3) := by decide +kernel
theorem dX6_gate_189 : decode cX6_gate 189 = .ok (.goto (-21), 3) := by decide +kernel
theorem dX6_gate_192 : decode cX6_gate 192 = .ok (.aload_n 0, 1) := by decide +kernel
theorem dX6_gate_193 : decode cX6_gate 193 = .ok (.iconst 0, 1) := by decide +kernel
theorem dX6_gate_194 : decode cX6_gate 194 = .ok (.putfield 59, 3) := by decide +kernel
theorem dX6_gate_197 : decode cX6_gate 197 = .ok (.aload_n 0, 1) := by decide +kernel
theorem dX6_gate_198 : decode cX6_gate 198 = .ok (.iconst 0, 1) := by decide +kernel
theorem dX6_gate_199 : decode cX6_gate 199 = .ok (.putfield 112, 3) := by decide +kernel
theorem dX6_gate_202 : decode cX6_gate 202 = .ok (.aload_n 0, 1) := by decide +kernel
theorem dX6_gate_203 : decode cX6_gate 203 = .ok (.iconst 0, 1) := by decide +kernel
theorem dX6_gate_204 : decode cX6_gate 204 = .ok (.putfield 115, 3) := by decide +kernel
theorem dX6_gate_207 : decode cX6_gate 207 = .ok (.aload_n 0, 1) := by decide +kernel
theorem dX6_gate_208 : decode cX6_gate 208 = .ok (.iconst 0, 1) := by decide +kernel
theorem dX6_gate_209 : decode cX6_gate 209 = .ok (.putfield 118, 3) := by decide +kernel
theorem dX6_gate_212 : decode cX6_gate 212 = .ok (.iload_n 1, 1) := by decide +kernel
theorem dX6_gate_213 : decode cX6_gate 213 = .ok (.ireturn, 1) := by decide +kernel
set_option maxHeartbeats 4000000 in
set_option maxRecDepth 100000 in
theorem c_X6_gate (E : GE) (l : Launch) (a0 : Nat → Nat) (M0 : Mo) (post : Int32 → Mo → Prop) (h : wp_X6_gate M0 post) : Met l yX6_gate (wz yX6_gate cX6_gate 3 (some .int)) { frames := 5, cells := 0, slots := 0, locals := 110 } (gPc E [.ref (a0 99)] (gW [bModel E a0 M0])) (gQi E (gW [bModel E a0 M0]) (fun r (u : Mo) => post r u) (fun (u : Mo) w => w = gW [bModel E a0 u])) 0 0 (gIn (gW [bModel E a0 M0])) := by
  unfold wp_X6_gate at h
  refine g_of_i (by decide) (Nat.le_of_ble_eq_true rfl) ?_
  intro p e s m below meth c A Q hx hb hml hown ht hE hP hD hret ls hl
  have hK := hE.1
  have hS : va_S A s.heap s.heap [] := va_S.rf
  have hl : lv_has ls 3 [(0, .ref (a0 99))] := hl
  refine lv_aload_n hx hb dX6_gate_0 rfl (lv_at hl 0 rfl) ?_
  refine lv_iconst (v := 3) hx hb dX6_gate_1 (by decide) ?_
  refine va_put (D := (E.1, E.2.1)) (ci := 6) (v := .int 3) (ty := .int) (C := RX6) (T := TX6) (N := 26) hx hb ht wu_X6 tyX6 tyX6_ok nmX6 hown hK hP hD hS 0 rfl rfl 3 (by decide) (ht _ wk_X6_95) (fun _ h9 => h9) rfl (by decide +kernel) rfl rfl (Nat.le_of_ble_eq_true rfl) dX6_gate_2 (fun H locs hP hD hS => ?_)
  have hP : gP E (gW [bModel E a0 (pmf M0 3 3)]) H := hP
  have hD : va_D A (gW [bModel E a0 (pmf M0 3 3)]) := hD
  refine lv_aload_n hx hb dX6_gate_5 rfl (lv_at hl 0 rfl) ?_
  refine lv_iconst (v := 0) hx hb dX6_gate_6 (by decide) ?_
  refine va_put (D := (E.1, E.2.1)) (ci := 6) (v := .int 0) (ty := .int) (C := RX6) (T := TX6) (N := 26) hx hb ht wu_X6 tyX6 tyX6_ok nmX6 hown hK hP hD hS 0 rfl rfl 4 (by decide) (ht _ wk_X6_102) (fun _ h9 => h9) rfl (by decide +kernel) rfl rfl (Nat.le_of_ble_eq_true rfl) dX6_gate_7 (fun H locs hP hD hS => ?_)
  have hP : gP E (gW [bModel E a0 (pmf (pmf M0 3 3) 4 0)]) H := hP
  have hD : va_D A (gW [bModel E a0 (pmf (pmf M0 3 3) 4 0)]) := hD
  obtain ⟨M_1, eM_1⟩ : ∃ z : Mo, z = (pmf (pmf M0 3 3) 4 0) := ⟨_, rfl⟩
  have h := h M_1 eM_1
  rw [← eM_1] at hP hD
  refine lv_iconst (v := 0) hx hb dX6_gate_10 (by decide) ?_
  refine lv_istore_n (lv' := [(1, .int 0), (0, .ref (a0 99))]) hx hb dX6_gate_11 rfl hl (by decide) rfl (fun ls hl => ?_)
  have L12 : ∀ (n12 : Nat) (x1_12 : Int32) (M0_12 : Mo) (H : Heap) (locs : List Loc) (ls : Array Slot), wp_X6_gate_L12 post n12 x1_12 M0_12 → gP E (gW [bModel E a0 M0_12]) H → va_D A (gW [bModel E a0 M0_12]) → va_S A s.heap H locs → lv_has ls 3 [(0, .ref (a0 99)), (1, .int x1_12)] → W p l e { frames := 5, cells := 0, slots := 0, locals := 110 } s m ([.ref (a0 99)] : List Value).toArray below meth c H locs 0 0 Q (F0 m 12 ls []) := by
    intro n12
    induction n12 with
    | zero => intro x1_12 M0_12 H locs ls h; exact h.elim
    | succ n12 ih12 =>
      intro x1_12 M0_12 H locs ls h hP hD hS hl
      rw [wp_X6_gate_L12] at h
      refine lv_iload_n hx hb dX6_gate_12 rfl (lv_at hl 1 rfl) ?_
      refine lv_bipush (v := 6) hx hb dX6_gate_13 (by decide) ?_
      refine lv_icmp_ge (tgt := 31) hx hb dX6_gate_15 (by decide) (fun c_71 => ?_) (fun c_71 => ?_)
      · have h := h.1 c_71
        refine lv_iconst (v := 0) hx hb dX6_gate_31 (by decide) ?_
        refine lv_istore_n (lv' := [(1, .int 0), (0, .ref (a0 99))]) hx hb dX6_gate_32 rfl hl (by decide) rfl (fun ls hl => ?_)
        have L33 : ∀ (n33 : Nat) (x1_33 : Int32) (M0_33 : Mo) (H : Heap) (locs : List Loc) (ls : Array Slot), wp_X6_gate_L33 post n33 x1_33 M0_33 → gP E (gW [bModel E a0 M0_33]) H → va_D A (gW [bModel E a0 M0_33]) → va_S A s.heap H locs → lv_has ls 3 [(0, .ref (a0 99)), (1, .int x1_33)] → W p l e { frames := 5, cells := 0, slots := 0, locals := 110 } s m ([.ref (a0 99)] : List Value).toArray below meth c H locs 0 0 Q (F0 m 33 ls []) := by
          intro n33
          induction n33 with
          | zero => intro x1_33 M0_33 H locs ls h; exact h.elim
          | succ n33 ih33 =>
            intro x1_33 M0_33 H locs ls h hP hD hS hl
            rw [wp_X6_gate_L33] at h
            refine lv_iload_n hx hb dX6_gate_33 rfl (lv_at hl 1 rfl) ?_
            refine lv_bipush (v := 32) hx hb dX6_gate_34 (by decide) ?_
            refine lv_icmp_ge (tgt := 52) hx hb dX6_gate_36 (by decide) (fun c_72 => ?_) (fun c_72 => ?_)
            · have h := h.1 c_72
              refine lv_aload_n hx hb dX6_gate_52 rfl (lv_at hl 0 rfl) ?_
              refine lv_iconst (v := 0) hx hb dX6_gate_53 (by decide) ?_
              refine va_put (D := (E.1, E.2.1)) (ci := 6) (v := .int 0) (ty := .int) (C := RX6) (T := TX6) (N := 26) hx hb ht wu_X6 tyX6 tyX6_ok nmX6 hown hK hP hD hS 0 rfl rfl 20 (by decide) (ht _ wk_X6_70) (fun _ h9 => h9) rfl (by decide +kernel) rfl rfl (Nat.le_of_ble_eq_true rfl) dX6_gate_54 (fun H locs hP hD hS => ?_)
              have hP : gP E (gW [bModel E a0 (pmf M0_33 20 0)]) H := hP
              have hD : va_D A (gW [bModel E a0 (pmf M0_33 20 0)]) := hD
              refine lv_iconst (v := 0) hx hb dX6_gate_57 (by decide) ?_
              refine lv_istore_n (lv' := [(1, .int 0), (0, .ref (a0 99))]) hx hb dX6_gate_58 rfl hl (by decide) rfl (fun ls hl => ?_)
              refine lv_aload_n hx hb dX6_gate_59 rfl (lv_at hl 1 rfl) ?_
              have p1 := gB (n := 1) (bs := [bModel E a0 (pmf M0_33 20 0)]) (bc := [bModel E a0 (pmf M0_33 20 0)]) (br := []) [0] rfl rfl (by decide)
              refine g_v (g_runV (As := []) (rest := []) ⟨hx, hb, hml, hown, ht⟩ hE (c_X6_next E l a0 (pmf M0_33 20 0) _ h) ⟨rfl, rfl⟩ wk_X6_89 wi_X6_next ws_X6_next wn_X6 wc_X6_next yd_X6_next ⟨Nat.le_of_ble_eq_true rfl, Nat.le_of_ble_eq_true rfl⟩ hP hD p1 (ci := 6) rfl rfl rfl rfl rfl hl.1 rfl (lv_room (Nat.le_of_ble_eq_true rfl)) dX6_gate_60 ⟨Nat.zero_le _, Nat.zero_le _⟩) hP hD hS p1 (fun M_73 w H locs h hw hP hD hS => ?_)
              subst hw
              clear p1
              have p2 := gB (n := 1) (bs := [bModel E a0 M_73]) (bc := [bModel E a0 M_73]) (br := []) [0] rfl rfl (by decide)
              have hP := gP_perm p2.symm hP
              have hD := gD_perm p2.symm hD
              clear p2
              have L63 : ∀ (n63 : Nat) (x1_63 : Int32) (M0_63 : Mo) (H : Heap) (locs : List Loc) (ls : Array Slot), wp_X6_gate_L63 post n63 x1_63 M0_63 → gP E (gW [bModel E a0 M0_63]) H → va_D A (gW [bModel E a0 M0_63]) → va_S A s.heap H locs → lv_has ls 3 [(0, .ref (a0 99)), (1, .int x1_63)] → W p l e { frames := 5, cells := 0, slots := 0, locals := 110 } s m ([.ref (a0 99)] : List Value).toArray below meth c H locs 0 0 Q (F0 m 63 ls []) := by
                intro n63
                induction n63 with
                | zero => intro x1_63 M0_63 H locs ls h; exact h.elim
                | succ n63 ih63 =>
                  intro x1_63 M0_63 H locs ls h hP hD hS hl
                  rw [wp_X6_gate_L63] at h
                  refine lv_aload_n hx hb dX6_gate_63 rfl (lv_at hl 0 rfl) ?_
                  refine va_get (D := (E.1, E.2.1)) (ci := 6) (v := .int (M0_63.1.1 22)) (C := RX6) (T := TX6) (N := 26) hx hb ht wu_X6 hown hK hP 0 rfl rfl 22 (by decide) (ht _ wk_X6_76) (fun _ h9 => h9) rfl dX6_gate_64 ?_
                  refine lv_if_eq (tgt := 104) hx hb dX6_gate_67 (by decide) (fun c_74 => ?_) (fun c_74 => ?_)
                  · have h := h.1 c_74
                    refine lv_aload_n hx hb dX6_gate_104 rfl (lv_at hl 0 rfl) ?_
                    refine va_get (D := (E.1, E.2.1)) (ci := 6) (v := .ref (a0 6)) (C := RX6) (T := TX6) (N := 26) hx hb ht wu_X6 hown hK hP 0 rfl rfl 6 (by decide) (ht _ wk_X6_20) (fun _ h9 => h9) rfl dX6_gate_105 ?_
                    refine lv_bipush (v := 8) hx hb dX6_gate_108 (by decide) ?_
                    refine lv_aload_n hx hb dX6_gate_110 rfl (lv_at hl 0 rfl) ?_
                    refine va_get (D := (E.1, E.2.1)) (ci := 6) (v := .int (M0_63.1.1 4)) (C := RX6) (T := TX6) (N := 26) hx hb ht wu_X6 hown hK hP 0 rfl rfl 4 (by decide) (ht _ wk_X6_102) (fun _ h9 => h9) rfl dX6_gate_111 ?_
                    refine va_iast hx hb hK hP hD hS 3 0 rfl rfl (by unfold vp_in; decide) dX6_gate_114 (fun H locs hP hD hS => ?_)
                    have hP : gP E (gW [bModel E a0 (pma M0_63 6 8 (M0_63.1.1 4))]) H := hP
                    have hD : va_D A (gW [bModel E a0 (pma M0_63 6 8 (M0_63.1.1 4))]) := hD
                    refine lv_aload_n hx hb dX6_gate_115 rfl (lv_at hl 0 rfl) ?_
                    refine va_get (D := (E.1, E.2.1)) (ci := 6) (v := .ref (a0 6)) (C := RX6) (T := TX6) (N := 26) hx hb ht wu_X6 hown hK hP 0 rfl rfl 6 (by decide) (ht _ wk_X6_20) (fun _ h9 => h9) rfl dX6_gate_116 ?_
                    refine lv_bipush (v := 9) hx hb dX6_gate_119 (by decide) ?_
                    refine lv_bipush (v := (-9)) hx hb dX6_gate_121 (by decide) ?_
                    refine va_iast hx hb hK hP hD hS 3 0 rfl rfl (by unfold vp_in; decide) dX6_gate_123 (fun H locs hP hD hS => ?_)
                    have hP : gP E (gW [bModel E a0 (pma (pma M0_63 6 8 (M0_63.1.1 4)) 6 9 (-9))]) H := hP
                    have hD : va_D A (gW [bModel E a0 (pma (pma M0_63 6 8 (M0_63.1.1 4)) 6 9 (-9))]) := hD
                    obtain ⟨M_75, eM_75⟩ : ∃ z : Mo, z = (pma (pma M0_63 6 8 (M0_63.1.1 4)) 6 9 (-9)) := ⟨_, rfl⟩
                    have h := h M_75 eM_75
                    rw [← eM_75] at hP hD
                    refine lv_aload_n hx hb dX6_gate_124 rfl (lv_at hl 0 rfl) ?_
                    refine lv_aload_n hx hb dX6_gate_125 rfl (lv_at hl 0 rfl) ?_
                    refine va_get (D := (E.1, E.2.1)) (ci := 6) (v := .int (M_75.1.1 3)) (C := RX6) (T := TX6) (N := 26) hx hb ht wu_X6 hown hK hP 0 rfl rfl 3 (by decide) (ht _ wk_X6_95) (fun _ h9 => h9) rfl dX6_gate_126 ?_
                    refine va_put (D := (E.1, E.2.1)) (ci := 6) (v := .int (M_75.1.1 3)) (ty := .int) (C := RX6) (T := TX6) (N := 26) hx hb ht wu_X6 tyX6 tyX6_ok nmX6 hown hK hP hD hS 0 rfl rfl 0 (by decide) (ht _ wk_X6_7) (fun _ h9 => h9) rfl (by decide +kernel) rfl rfl (Nat.le_of_ble_eq_true rfl) dX6_gate_129 (fun H locs hP hD hS => ?_)
                    have hP : gP E (gW [bModel E a0 (pmf M_75 0 (M_75.1.1 3))]) H := hP
                    have hD : va_D A (gW [bModel E a0 (pmf M_75 0 (M_75.1.1 3))]) := hD
                    refine lv_aload_n hx hb dX6_gate_132 rfl (lv_at hl 0 rfl) ?_
                    refine lv_aload_n hx hb dX6_gate_133 rfl (lv_at hl 0 rfl) ?_
                    refine va_get (D := (E.1, E.2.1)) (ci := 6) (v := .int ((pmf M_75 0 (M_75.1.1 3)).1.1 4)) (C := RX6) (T := TX6) (N := 26) hx hb ht wu_X6 hown hK hP 0 rfl rfl 4 (by decide) (ht _ wk_X6_102) (fun _ h9 => h9) rfl dX6_gate_134 ?_
                    refine va_put (D := (E.1, E.2.1)) (ci := 6) (v := .int ((pmf M_75 0 (M_75.1.1 3)).1.1 4)) (ty := .int) (C := RX6) (T := TX6) (N := 26) hx hb ht wu_X6 tyX6 tyX6_ok nmX6 hown hK hP hD hS 0 rfl rfl 1 (by decide) (ht _ wk_X6_109) (fun _ h9 => h9) rfl (by decide +kernel) rfl rfl (Nat.le_of_ble_eq_true rfl) dX6_gate_137 (fun H locs hP hD hS => ?_)
                    have hP : gP E (gW [bModel E a0 (pmf (pmf M_75 0 (M_75.1.1 3)) 1 ((pmf M_75 0 (M_75.1.1 3)).1.1 4))]) H := hP
                    have hD : va_D A (gW [bModel E a0 (pmf (pmf M_75 0 (M_75.1.1 3)) 1 ((pmf M_75 0 (M_75.1.1 3)).1.1 4))]) := hD
                    obtain ⟨M_76, eM_76⟩ : ∃ z : Mo, z = (pmf (pmf M_75 0 (M_75.1.1 3)) 1 ((pmf M_75 0 (M_75.1.1 3)).1.1 4)) := ⟨_, rfl⟩
                    have h := h M_76 eM_76
                    rw [← eM_76] at hP hD
                    refine lv_iconst (v := 0) hx hb dX6_gate_140 (by decide) ?_
                    refine lv_istore_n (lv' := [(2, .int 0), (0, .ref (a0 99)), (1, .int x1_63)]) hx hb dX6_gate_141 rfl hl (by decide) rfl (fun ls hl => ?_)
                    have L142 : ∀ (n142 : Nat) (x2_142 : Int32) (M0_142 : Mo) (H : Heap) (locs : List Loc) (ls : Array Slot), wp_X6_gate_L142 post x1_63 n142 x2_142 M0_142 → gP E (gW [bModel E a0 M0_142]) H → va_D A (gW [bModel E a0 M0_142]) → va_S A s.heap H locs → lv_has ls 3 [(0, .ref (a0 99)), (1, .int x1_63), (2, .int x2_142)] → W p l e { frames := 5, cells := 0, slots := 0, locals := 110 } s m ([.ref (a0 99)] : List Value).toArray below meth c H locs 0 0 Q (F0 m 142 ls []) := by
                      intro n142
                      induction n142 with
                      | zero => intro x2_142 M0_142 H locs ls h; exact h.elim
                      | succ n142 ih142 =>
                        intro x2_142 M0_142 H locs ls h hP hD hS hl
                        rw [wp_X6_gate_L142] at h
                        refine lv_iload_n hx hb dX6_gate_142 rfl (lv_at hl 2 rfl) ?_
                        refine lv_bipush (v := 6) hx hb dX6_gate_143 (by decide) ?_
                        refine lv_icmp_ge (tgt := 166) hx hb dX6_gate_145 (by decide) (fun c_77 => ?_) (fun c_77 => ?_)
                        · have h := h.1 c_77
                          refine lv_iconst (v := 0) hx hb dX6_gate_166 (by decide) ?_
                          refine lv_istore_n (lv' := [(2, .int 0), (0, .ref (a0 99)), (1, .int x1_63)]) hx hb dX6_gate_167 rfl hl (by decide) rfl (fun ls hl => ?_)
                          have L168 : ∀ (n168 : Nat) (x2_168 : Int32) (M0_168 : Mo) (H : Heap) (locs : List Loc) (ls : Array Slot), wp_X6_gate_L168 post x1_63 n168 x2_168 M0_168 → gP E (gW [bModel E a0 M0_168]) H → va_D A (gW [bModel E a0 M0_168]) → va_S A s.heap H locs → lv_has ls 3 [(0, .ref (a0 99)), (1, .int x1_63), (2, .int x2_168)] → W p l e { frames := 5, cells := 0, slots := 0, locals := 110 } s m ([.ref (a0 99)] : List Value).toArray below meth c H locs 0 0 Q (F0 m 168 ls []) := by
                            intro n168
                            induction n168 with
                            | zero => intro x2_168 M0_168 H locs ls h; exact h.elim
                            | succ n168 ih168 =>
                              intro x2_168 M0_168 H locs ls h hP hD hS hl
                              rw [wp_X6_gate_L168] at h
                              refine lv_iload_n hx hb dX6_gate_168 rfl (lv_at hl 2 rfl) ?_
                              refine lv_bipush (v := 32) hx hb dX6_gate_169 (by decide) ?_
                              refine lv_icmp_ge (tgt := 192) hx hb dX6_gate_171 (by decide) (fun c_78 => ?_) (fun c_78 => ?_)
                              · have h := h.1 c_78
                                refine lv_aload_n hx hb dX6_gate_192 rfl (lv_at hl 0 rfl) ?_
                                refine lv_iconst (v := 0) hx hb dX6_gate_193 (by decide) ?_
                                refine va_put (D := (E.1, E.2.1)) (ci := 6) (v := .int 0) (ty := .int) (C := RX6) (T := TX6) (N := 26) hx hb ht wu_X6 tyX6 tyX6_ok nmX6 hown hK hP hD hS 0 rfl rfl 14 (by decide) (ht _ wk_X6_59) (fun _ h9 => h9) rfl (by decide +kernel) rfl rfl (Nat.le_of_ble_eq_true rfl) dX6_gate_194 (fun H locs hP hD hS => ?_)
                                have hP : gP E (gW [bModel E a0 (pmf M0_168 14 0)]) H := hP
                                have hD : va_D A (gW [bModel E a0 (pmf M0_168 14 0)]) := hD
                                refine lv_aload_n hx hb dX6_gate_197 rfl (lv_at hl 0 rfl) ?_
                                refine lv_iconst (v := 0) hx hb dX6_gate_198 (by decide) ?_
                                refine va_put (D := (E.1, E.2.1)) (ci := 6) (v := .int 0) (ty := .int) (C := RX6) (T := TX6) (N := 26) hx hb ht wu_X6 tyX6 tyX6_ok nmX6 hown hK hP hD hS 0 rfl rfl 9 (by decide) (ht _ wk_X6_112) (fun _ h9 => h9) rfl (by decide +kernel) rfl rfl (Nat.le_of_ble_eq_true rfl) dX6_gate_199 (fun H locs hP hD hS => ?_)
                                have hP : gP E (gW [bModel E a0 (pmf (pmf M0_168 14 0) 9 0)]) H := hP
                                have hD : va_D A (gW [bModel E a0 (pmf (pmf M0_168 14 0) 9 0)]) := hD
                                obtain ⟨M_79, eM_79⟩ : ∃ z : Mo, z = (pmf (pmf M0_168 14 0) 9 0) := ⟨_, rfl⟩
                                have h := h M_79 eM_79
                                rw [← eM_79] at hP hD
                                refine lv_aload_n hx hb dX6_gate_202 rfl (lv_at hl 0 rfl) ?_
                                refine lv_iconst (v := 0) hx hb dX6_gate_203 (by decide) ?_
                                refine va_put (D := (E.1, E.2.1)) (ci := 6) (v := .int 0) (ty := .int) (C := RX6) (T := TX6) (N := 26) hx hb ht wu_X6 tyX6 tyX6_ok nmX6 hown hK hP hD hS 0 rfl rfl 10 (by decide) (ht _ wk_X6_115) (fun _ h9 => h9) rfl (by decide +kernel) rfl rfl (Nat.le_of_ble_eq_true rfl) dX6_gate_204 (fun H locs hP hD hS => ?_)
                                have hP : gP E (gW [bModel E a0 (pmf M_79 10 0)]) H := hP
                                have hD : va_D A (gW [bModel E a0 (pmf M_79 10 0)]) := hD
                                refine lv_aload_n hx hb dX6_gate_207 rfl (lv_at hl 0 rfl) ?_
                                refine lv_iconst (v := 0) hx hb dX6_gate_208 (by decide) ?_
                                refine va_put (D := (E.1, E.2.1)) (ci := 6) (v := .int 0) (ty := .int) (C := RX6) (T := TX6) (N := 26) hx hb ht wu_X6 tyX6 tyX6_ok nmX6 hown hK hP hD hS 0 rfl rfl 16 (by decide) (ht _ wk_X6_118) (fun _ h9 => h9) rfl (by decide +kernel) rfl rfl (Nat.le_of_ble_eq_true rfl) dX6_gate_209 (fun H locs hP hD hS => ?_)
                                have hP : gP E (gW [bModel E a0 (pmf (pmf M_79 10 0) 16 0)]) H := hP
                                have hD : va_D A (gW [bModel E a0 (pmf (pmf M_79 10 0) 16 0)]) := hD
                                obtain ⟨M_80, eM_80⟩ : ∃ z : Mo, z = (pmf (pmf M_79 10 0) 16 0) := ⟨_, rfl⟩
                                have h := h M_80 eM_80
                                rw [← eM_80] at hP hD
                                refine lv_iload_n hx hb dX6_gate_212 rfl (lv_at hl 1 rfl) ?_
                                exact hret x1_63 M_80 _ _ _ _ _ h rfl hP hD hS dX6_gate_213
                              · have h := h.2 c_78
                                refine lv_aload_n hx hb dX6_gate_174 rfl (lv_at hl 0 rfl) ?_
                                refine va_get (D := (E.1, E.2.1)) (ci := 6) (v := .ref (a0 7)) (C := RX6) (T := TX6) (N := 26) hx hb ht wu_X6 hown hK hP 0 rfl rfl 7 (by decide) (ht _ wk_X6_23) (fun _ h9 => h9) rfl dX6_gate_175 ?_
                                refine lv_iload_n hx hb dX6_gate_178 rfl (lv_at hl 2 rfl) ?_
                                refine lv_aload_n hx hb dX6_gate_179 rfl (lv_at hl 0 rfl) ?_
                                refine va_get (D := (E.1, E.2.1)) (ci := 6) (v := .ref (a0 6)) (C := RX6) (T := TX6) (N := 26) hx hb ht wu_X6 hown hK hP 0 rfl rfl 6 (by decide) (ht _ wk_X6_20) (fun _ h9 => h9) rfl dX6_gate_180 ?_
                                refine lv_iload_n hx hb dX6_gate_183 rfl (lv_at hl 2 rfl) ?_
                                refine va_iald hx hb hK hP 3 0 rfl rfl h.1 dX6_gate_184 ?_
                                have h := h.2
                                refine va_iast hx hb hK hP hD hS 4 0 rfl rfl h.1 dX6_gate_185 (fun H locs hP hD hS => ?_)
                                have h := h.2
                                have hP : gP E (gW [bModel E a0 (pma M0_168 7 (x2_168.toNatClampNeg) (M0_168.1.2 6 x2_168.toNatClampNeg))]) H := hP
                                have hD : va_D A (gW [bModel E a0 (pma M0_168 7 (x2_168.toNatClampNeg) (M0_168.1.2 6 x2_168.toNatClampNeg))]) := hD
                                obtain ⟨M_81, eM_81⟩ : ∃ z : Mo, z = (pma M0_168 7 (x2_168.toNatClampNeg) (M0_168.1.2 6 x2_168.toNatClampNeg)) := ⟨_, rfl⟩
                                have h := h M_81 eM_81
                                rw [← eM_81] at hP hD
                                refine lv_iinc (v := (x2_168 + 1)) (lv' := [(2, .int (x2_168 + 1)), (0, .ref (a0 99)), (1, .int x1_63)]) hx hb dX6_gate_186 hl (k := 2) rfl rfl (by decide) rfl (fun ls hl => ?_)
                                refine lv_goto (tgt := 168) hx hb dX6_gate_189 (by decide) ?_
                                exact ih168 (x2_168 + 1) M_81 _ _ _ h hP hD hS (lv_sub hl [1, 2, 0] rfl)
                          obtain ⟨n168, h⟩ := h
                          exact L168 n168 0 M0_142 _ _ _ h hP hD hS (lv_sub hl [1, 2, 0] rfl)
                        · have h := h.2 c_77
                          refine lv_aload_n hx hb dX6_gate_148 rfl (lv_at hl 0 rfl) ?_
                          refine va_get (D := (E.1, E.2.1)) (ci := 6) (v := .ref (a0 2)) (C := RX6) (T := TX6) (N := 26) hx hb ht wu_X6 hown hK hP 0 rfl rfl 2 (by decide) (ht _ wk_X6_13) (fun _ h9 => h9) rfl dX6_gate_149 ?_
                          refine lv_iload_n hx hb dX6_gate_152 rfl (lv_at hl 2 rfl) ?_
                          refine lv_aload_n hx hb dX6_gate_153 rfl (lv_at hl 0 rfl) ?_
                          refine va_get (D := (E.1, E.2.1)) (ci := 6) (v := .ref (a0 5)) (C := RX6) (T := TX6) (N := 26) hx hb ht wu_X6 hown hK hP 0 rfl rfl 5 (by decide) (ht _ wk_X6_17) (fun _ h9 => h9) rfl dX6_gate_154 ?_
                          refine lv_iload_n hx hb dX6_gate_157 rfl (lv_at hl 2 rfl) ?_
                          refine va_iald hx hb hK hP 2 0 rfl rfl h.1 dX6_gate_158 ?_
                          have h := h.2
                          refine va_iast hx hb hK hP hD hS 1 0 rfl rfl h.1 dX6_gate_159 (fun H locs hP hD hS => ?_)
                          have h := h.2
                          have hP : gP E (gW [bModel E a0 (pma M0_142 2 (x2_142.toNatClampNeg) (M0_142.1.2 5 x2_142.toNatClampNeg))]) H := hP
                          have hD : va_D A (gW [bModel E a0 (pma M0_142 2 (x2_142.toNatClampNeg) (M0_142.1.2 5 x2_142.toNatClampNeg))]) := hD
                          obtain ⟨M_82, eM_82⟩ : ∃ z : Mo, z = (pma M0_142 2 (x2_142.toNatClampNeg) (M0_142.1.2 5 x2_142.toNatClampNeg)) := ⟨_, rfl⟩
                          have h := h M_82 eM_82
                          rw [← eM_82] at hP hD
                          refine lv_iinc (v := (x2_142 + 1)) (lv' := [(2, .int (x2_142 + 1)), (0, .ref (a0 99)), (1, .int x1_63)]) hx hb dX6_gate_160 hl (k := 2) rfl rfl (by decide) rfl (fun ls hl => ?_)
                          refine lv_goto (tgt := 142) hx hb dX6_gate_163 (by decide) ?_
                          exact ih142 (x2_142 + 1) M_82 _ _ _ h hP hD hS (lv_sub hl [1, 2, 0] rfl)
                    obtain ⟨n142, h⟩ := h
                    exact L142 n142 0 M_76 _ _ _ h hP hD hS (lv_sub hl [1, 2, 0] rfl)
                  · have h := h.2 c_74
                    refine lv_aload_n hx hb dX6_gate_70 rfl (lv_at hl 0 rfl) ?_
                    refine lv_iload_n hx hb dX6_gate_71 rfl (lv_at hl 1 rfl) ?_
                    refine lv_if_ne (tgt := 79) hx hb dX6_gate_72 (by decide) (fun c_83 => ?_) (fun c_83 => ?_)
                    · have h := h.1 c_83
                      refine lv_iconst (v := 0) hx hb dX6_gate_79 (by decide) ?_
                      have p1 := gB (n := 1) (bs := [bModel E a0 M0_63]) (bc := [bModel E a0 M0_63]) (br := []) [0] rfl rfl (by decide)
                      refine g_i (g_runV (As := [.int 0]) (rest := []) ⟨hx, hb, hml, hown, ht⟩ hE (c_X6_item E l a0 M0_63 0 _ h) ⟨rfl, rfl⟩ wk_X6_105 wi_X6_item ws_X6_item wn_X6 wc_X6_item yd_X6_item ⟨Nat.le_of_ble_eq_true rfl, Nat.le_of_ble_eq_true rfl⟩ hP hD p1 (ci := 6) rfl rfl rfl rfl rfl hl.1 rfl (lv_room (Nat.le_of_ble_eq_true rfl)) dX6_gate_80 ⟨Nat.zero_le _, Nat.zero_le _⟩) hP hD hS p1 (fun r_84 M_85 w H locs h hw hP hD hS => ?_)
                      subst hw
                      clear p1
                      have p2 := gB (n := 1) (bs := [bModel E a0 M_85]) (bc := [bModel E a0 M_85]) (br := []) [0] rfl rfl (by decide)
                      have hP := gP_perm p2.symm hP
                      have hD := gD_perm p2.symm hD
                      clear p2
                      refine lv_if_ne (tgt := 94) hx hb dX6_gate_83 (by decide) (fun c_86 => ?_) (fun c_86 => ?_)
                      · have h := h.1 c_86
                        refine lv_iinc (v := (x1_63 + 1)) (lv' := [(1, .int (x1_63 + 1)), (0, .ref (a0 99))]) hx hb dX6_gate_94 hl (k := 1) rfl rfl (by decide) rfl (fun ls hl => ?_)
                        refine lv_aload_n hx hb dX6_gate_97 rfl (lv_at hl 1 rfl) ?_
                        have p1 := gB (n := 1) (bs := [bModel E a0 M_85]) (bc := [bModel E a0 M_85]) (br := []) [0] rfl rfl (by decide)
                        refine g_v (g_runV (As := []) (rest := []) ⟨hx, hb, hml, hown, ht⟩ hE (c_X6_next E l a0 M_85 _ h) ⟨rfl, rfl⟩ wk_X6_89 wi_X6_next ws_X6_next wn_X6 wc_X6_next yd_X6_next ⟨Nat.le_of_ble_eq_true rfl, Nat.le_of_ble_eq_true rfl⟩ hP hD p1 (ci := 6) rfl rfl rfl rfl rfl hl.1 rfl (lv_room (Nat.le_of_ble_eq_true rfl)) dX6_gate_98 ⟨Nat.zero_le _, Nat.zero_le _⟩) hP hD hS p1 (fun M_87 w H locs h hw hP hD hS => ?_)
                        subst hw
                        clear p1
                        have p2 := gB (n := 1) (bs := [bModel E a0 M_87]) (bc := [bModel E a0 M_87]) (br := []) [0] rfl rfl (by decide)
                        have hP := gP_perm p2.symm hP
                        have hD := gD_perm p2.symm hD
                        clear p2
                        refine lv_goto (tgt := 63) hx hb dX6_gate_101 (by decide) ?_
                        exact ih63 (x1_63 + 1) M_87 _ _ _ h hP hD hS (lv_sub hl [1, 0] rfl)
                      · have h := h.2 c_86
                        refine lv_bipush (v := (-10)) hx hb dX6_gate_86 (by decide) ?_
                        refine lv_aload_n hx hb dX6_gate_88 rfl (lv_at hl 0 rfl) ?_
                        refine va_get (D := (E.1, E.2.1)) (ci := 6) (v := .int (M_85.1.1 21)) (C := RX6) (T := TX6) (N := 26) hx hb ht wu_X6 hown hK hP 0 rfl rfl 21 (by decide) (ht _ wk_X6_73) (fun _ h9 => h9) rfl dX6_gate_89 ?_
                        refine lv_isub hx hb dX6_gate_92 ?_
                        exact hret ((-10) - (M_85.1.1 21)) M_85 _ _ _ _ _ h rfl hP hD hS dX6_gate_93
                    · have h := h.2 c_83
                      refine lv_iconst (v := 1) hx hb dX6_gate_75 (by decide) ?_
                      refine lv_goto (tgt := 80) hx hb dX6_gate_76 (by decide) ?_
                      have p1 := gB (n := 1) (bs := [bModel E a0 M0_63]) (bc := [bModel E a0 M0_63]) (br := []) [0] rfl rfl (by decide)
                      refine g_i (g_runV (As := [.int 1]) (rest := []) ⟨hx, hb, hml, hown, ht⟩ hE (c_X6_item E l a0 M0_63 1 _ h) ⟨rfl, rfl⟩ wk_X6_105 wi_X6_item ws_X6_item wn_X6 wc_X6_item yd_X6_item ⟨Nat.le_of_ble_eq_true rfl, Nat.le_of_ble_eq_true rfl⟩ hP hD p1 (ci := 6) rfl rfl rfl rfl rfl hl.1 rfl (lv_room (Nat.le_of_ble_eq_true rfl)) dX6_gate_80 ⟨Nat.zero_le _, Nat.zero_le _⟩) hP hD hS p1 (fun r_88 M_89 w H locs h hw hP hD hS => ?_)
                      subst hw
                      clear p1
                      have p2 := gB (n := 1) (bs := [bModel E a0 M_89]) (bc := [bModel E a0 M_89]) (br := []) [0] rfl rfl (by decide)
                      have hP := gP_perm p2.symm hP
                      have hD := gD_perm p2.symm hD
                      clear p2
                      refine lv_if_ne (tgt := 94) hx hb dX6_gate_83 (by decide) (fun c_90 => ?_) (fun c_90 => ?_)
                      · have h := h.1 c_90
                        refine lv_iinc (v := (x1_63 + 1)) (lv' := [(1, .int (x1_63 + 1)), (0, .ref (a0 99))]) hx hb dX6_gate_94 hl (k := 1) rfl rfl (by decide) rfl (fun ls hl => ?_)
                        refine lv_aload_n hx hb dX6_gate_97 rfl (lv_at hl 1 rfl) ?_
                        have p1 := gB (n := 1) (bs := [bModel E a0 M_89]) (bc := [bModel E a0 M_89]) (br := []) [0] rfl rfl (by decide)
                        refine g_v (g_runV (As := []) (rest := []) ⟨hx, hb, hml, hown, ht⟩ hE (c_X6_next E l a0 M_89 _ h) ⟨rfl, rfl⟩ wk_X6_89 wi_X6_next ws_X6_next wn_X6 wc_X6_next yd_X6_next ⟨Nat.le_of_ble_eq_true rfl, Nat.le_of_ble_eq_true rfl⟩ hP hD p1 (ci := 6) rfl rfl rfl rfl rfl hl.1 rfl (lv_room (Nat.le_of_ble_eq_true rfl)) dX6_gate_98 ⟨Nat.zero_le _, Nat.zero_le _⟩) hP hD hS p1 (fun M_91 w H locs h hw hP hD hS => ?_)
                        subst hw
                        clear p1
                        have p2 := gB (n := 1) (bs := [bModel E a0 M_91]) (bc := [bModel E a0 M_91]) (br := []) [0] rfl rfl (by decide)
                        have hP := gP_perm p2.symm hP
                        have hD := gD_perm p2.symm hD
                        clear p2
                        refine lv_goto (tgt := 63) hx hb dX6_gate_101 (by decide) ?_
                        exact ih63 (x1_63 + 1) M_91 _ _ _ h hP hD hS (lv_sub hl [1, 0] rfl)
                      · have h := h.2 c_90
                        refine lv_bipush (v := (-10)) hx hb dX6_gate_86 (by decide) ?_
                        refine lv_aload_n hx hb dX6_gate_88 rfl (lv_at hl 0 rfl) ?_
                        refine va_get (D := (E.1, E.2.1)) (ci := 6) (v := .int (M_89.1.1 21)) (C := RX6) (T := TX6) (N := 26) hx hb ht wu_X6 hown hK hP 0 rfl rfl 21 (by decide) (ht _ wk_X6_73) (fun _ h9 => h9) rfl dX6_gate_89 ?_
                        refine lv_isub hx hb dX6_gate_92 ?_
                        exact hret ((-10) - (M_89.1.1 21)) M_89 _ _ _ _ _ h rfl hP hD hS dX6_gate_93
              obtain ⟨n63, h⟩ := h
              exact L63 n63 0 M_73 _ _ _ h hP hD hS (lv_sub hl [1, 0] rfl)
            · have h := h.2 c_72
              refine lv_aload_n hx hb dX6_gate_39 rfl (lv_at hl 0 rfl) ?_
              refine va_get (D := (E.1, E.2.1)) (ci := 6) (v := .ref (a0 6)) (C := RX6) (T := TX6) (N := 26) hx hb ht wu_X6 hown hK hP 0 rfl rfl 6 (by decide) (ht _ wk_X6_20) (fun _ h9 => h9) rfl dX6_gate_40 ?_
              refine lv_iload_n hx hb dX6_gate_43 rfl (lv_at hl 1 rfl) ?_
              refine lv_iconst (v := 0) hx hb dX6_gate_44 (by decide) ?_
              refine va_iast hx hb hK hP hD hS 3 0 rfl rfl h.1 dX6_gate_45 (fun H locs hP hD hS => ?_)
              have h := h.2
              have hP : gP E (gW [bModel E a0 (pma M0_33 6 (x1_33.toNatClampNeg) 0)]) H := hP
              have hD : va_D A (gW [bModel E a0 (pma M0_33 6 (x1_33.toNatClampNeg) 0)]) := hD
              refine lv_iinc (v := (x1_33 + 1)) (lv' := [(1, .int (x1_33 + 1)), (0, .ref (a0 99))]) hx hb dX6_gate_46 hl (k := 1) rfl rfl (by decide) rfl (fun ls hl => ?_)
              refine lv_goto (tgt := 33) hx hb dX6_gate_49 (by decide) ?_
              exact ih33 (x1_33 + 1) (pma M0_33 6 (x1_33.toNatClampNeg) 0) _ _ _ h hP hD hS (lv_sub hl [1, 0] rfl)
        obtain ⟨n33, h⟩ := h
        exact L33 n33 0 M0_12 _ _ _ h hP hD hS (lv_sub hl [1, 0] rfl)
      · have h := h.2 c_71
        refine lv_aload_n hx hb dX6_gate_18 rfl (lv_at hl 0 rfl) ?_
        refine va_get (D := (E.1, E.2.1)) (ci := 6) (v := .ref (a0 5)) (C := RX6) (T := TX6) (N := 26) hx hb ht wu_X6 hown hK hP 0 rfl rfl 5 (by decide) (ht _ wk_X6_17) (fun _ h9 => h9) rfl dX6_gate_19 ?_
        refine lv_iload_n hx hb dX6_gate_22 rfl (lv_at hl 1 rfl) ?_
        refine lv_iconst (v := 0) hx hb dX6_gate_23 (by decide) ?_
        refine va_iast hx hb hK hP hD hS 2 0 rfl rfl h.1 dX6_gate_24 (fun H locs hP hD hS => ?_)
        have h := h.2
        have hP : gP E (gW [bModel E a0 (pma M0_12 5 (x1_12.toNatClampNeg) 0)]) H := hP
        have hD : va_D A (gW [bModel E a0 (pma M0_12 5 (x1_12.toNatClampNeg) 0)]) := hD
        refine lv_iinc (v := (x1_12 + 1)) (lv' := [(1, .int (x1_12 + 1)), (0, .ref (a0 99))]) hx hb dX6_gate_25 hl (k := 1) rfl rfl (by decide) rfl (fun ls hl => ?_)
        refine lv_goto (tgt := 12) hx hb dX6_gate_28 (by decide) ?_
        exact ih12 (x1_12 + 1) (pma M0_12 5 (x1_12.toNatClampNeg) 0) _ _ _ h hP hD hS (lv_sub hl [1, 0] rfl)
  obtain ⟨n12, h⟩ := h
  exact L12 n12 0 M_1 _ _ _ h hP hD hS (lv_sub hl [1, 0] rfl)
theorem dX6_isLock_0 : decode cX6_isLock 0 = .ok (.iload_n 1, 1) := by decide +kernel
theorem dX6_isLock_1 : decode cX6_isLock 1 = .ok (.i2l, 1) := by decide +kernel
theorem dX6_isLock_2 : decode cX6_isLock 2 = .ok (.lconst 0, 1) := by decide +kernel
theorem dX6_isLock_3 : decode cX6_isLock 3 = .ok (.aload_n 0, 1) := by decide +kernel
theorem dX6_isLock_4 : decode cX6_isLock 4 = .ok (.getfield 109, 3) := by decide +kernel
theorem dX6_isLock_7 : decode cX6_isLock 7 = .ok (.iconst 1, 1) := by decide +kernel
theorem dX6_isLock_8 : decode cX6_isLock 8 = .ok (.isub, 1) := by decide +kernel
theorem dX6_isLock_9 : decode cX6_isLock 9 = .ok (.i2l, 1) := by decide +kernel
theorem dX6_isLock_10 : decode cX6_isLock 10 = .ok (.invokestatic 55, 3) := by decide +kernel
theorem dX6_isLock_13 : decode cX6_isLock 13 = .ok (.ireturn, 1) := by decide +kernel
set_option maxHeartbeats 4000000 in
set_option maxRecDepth 100000 in
theorem c_X6_isLock (E : GE) (l : Launch) (a0 : Nat → Nat) (M0 : Mo) (x1 : Int32) (post : Int32 → Prop) (h : wp_X6_isLock M0 x1 post) : Met l yX6_isLock (wz yX6_isLock cX6_isLock 2 (some .boolean)) { frames := 1, cells := 0, slots := 0, locals := 25 } (gPc E [.ref (a0 99), .int x1] (gW [bModel E a0 M0])) (gQi E (gW [bModel E a0 M0]) (fun r (_ : Unit) => post r) (fun (_ : Unit) w => w = gW [bModel E a0 M0])) 0 0 (gIn (gW [bModel E a0 M0])) := by
  unfold wp_X6_isLock at h
  refine g_of_z (by decide) (Nat.le_of_ble_eq_true rfl) ?_
  intro p e s m below meth c A Q hx hb hml hown ht hE hP hD hret ls hl
  have hK := hE.1
  have hS : va_S A s.heap s.heap [] := va_S.rf
  have hl : lv_has ls 2 [(0, .ref (a0 99)), (1, .int x1)] := hl
  refine lv_iload_n hx hb dX6_isLock_0 rfl (lv_at hl 1 rfl) ?_
  refine lv_i2l (v := x1.toInt64) hx hb dX6_isLock_1 rfl ?_
  refine lv_lconst (v := 0) hx hb dX6_isLock_2 (by decide) ?_
  refine lv_aload_n hx hb dX6_isLock_3 rfl (lv_at hl 0 rfl) ?_
  refine va_get (D := (E.1, E.2.1)) (ci := 6) (v := .int (M0.1.1 1)) (C := RX6) (T := TX6) (N := 26) hx hb ht wu_X6 hown hK hP 0 rfl rfl 1 (by decide) (ht _ wk_X6_109) (fun _ h9 => h9) rfl dX6_isLock_4 ?_
  refine lv_iconst (v := 1) hx hb dX6_isLock_7 (by decide) ?_
  refine lv_isub hx hb dX6_isLock_8 ?_
  refine lv_i2l (v := ((M0.1.1 1) - 1).toInt64) hx hb dX6_isLock_9 rfl ?_
  have p1 := gB (n := 1) (bs := [bModel E a0 M0]) (bc := []) (br := [bModel E a0 M0]) [0] rfl rfl (by decide)
  refine g_i (g_runS (As := [.long (x1.toInt64), .long 0, .long (((M0.1.1 1) - 1).toInt64)]) (rest := []) ⟨hx, hb, hml, hown, ht⟩ hE (c_X6_in E l (x1.toInt64) 0 (((M0.1.1 1) - 1).toInt64) _ h) ⟨rfl, rfl⟩ wk_X6_55 wt_X6_in wn_X6 wc_X6_in yd_X6_in ⟨Nat.le_of_ble_eq_true rfl, Nat.le_of_ble_eq_true rfl⟩ hP hD p1 rfl rfl hl.1 rfl (lv_room (Nat.le_of_ble_eq_true rfl)) dX6_isLock_10 ⟨Nat.zero_le _, Nat.zero_le _⟩) hP hD hS p1 (fun r_1 _ w H locs h hw hP hD hS => ?_)
  subst hw
  clear p1
  have p2 := gB (n := 1) (bs := [bModel E a0 M0]) (bc := []) (br := [bModel E a0 M0]) [0] rfl rfl (by decide)
  have hP := gP_perm p2.symm hP
  have hD := gD_perm p2.symm hD
  clear p2
  exact hret r_1 () _ _ _ _ _ h.1 h.2 rfl hP hD hS dX6_isLock_13
theorem dX6_isOne_0 : decode cX6_isOne 0 = .ok (.iload_n 1, 1) := by decide +kernel
theorem dX6_isOne_1 : decode cX6_isOne 1 = .ok (.i2l, 1) := by decide +kernel
theorem dX6_isOne_2 : decode cX6_isOne 2 = .ok (.lconst 0, 1) := by decide +kernel
theorem dX6_isOne_3 : decode cX6_isOne 3 = .ok (.aload_n 0, 1) := by decide +kernel
theorem dX6_isOne_4 : decode cX6_isOne 4 = .ok (.getfield 7, 3) := by decide +kernel
theorem dX6_isOne_7 : decode cX6_isOne 7 = .ok (.iconst 1, 1) := by decide +kernel
theorem dX6_isOne_8 : decode cX6_isOne 8 = .ok (.isub, 1) := by decide +kernel
theorem dX6_isOne_9 : decode cX6_isOne 9 = .ok (.i2l, 1) := by decide +kernel
theorem dX6_isOne_10 : decode cX6_isOne 10 = .ok (.invokestatic 55, 3) := by decide +kernel
theorem dX6_isOne_13 : decode cX6_isOne 13 = .ok (.ireturn, 1) := by decide +kernel
set_option maxHeartbeats 4000000 in
set_option maxRecDepth 100000 in
theorem c_X6_isOne (E : GE) (l : Launch) (a0 : Nat → Nat) (M0 : Mo) (x1 : Int32) (post : Int32 → Prop) (h : wp_X6_isOne M0 x1 post) : Met l yX6_isOne (wz yX6_isOne cX6_isOne 2 (some .boolean)) { frames := 1, cells := 0, slots := 0, locals := 25 } (gPc E [.ref (a0 99), .int x1] (gW [bModel E a0 M0])) (gQi E (gW [bModel E a0 M0]) (fun r (_ : Unit) => post r) (fun (_ : Unit) w => w = gW [bModel E a0 M0])) 0 0 (gIn (gW [bModel E a0 M0])) := by
  unfold wp_X6_isOne at h
  refine g_of_z (by decide) (Nat.le_of_ble_eq_true rfl) ?_
  intro p e s m below meth c A Q hx hb hml hown ht hE hP hD hret ls hl
  have hK := hE.1
  have hS : va_S A s.heap s.heap [] := va_S.rf
  have hl : lv_has ls 2 [(0, .ref (a0 99)), (1, .int x1)] := hl
  refine lv_iload_n hx hb dX6_isOne_0 rfl (lv_at hl 1 rfl) ?_
  refine lv_i2l (v := x1.toInt64) hx hb dX6_isOne_1 rfl ?_
  refine lv_lconst (v := 0) hx hb dX6_isOne_2 (by decide) ?_
  refine lv_aload_n hx hb dX6_isOne_3 rfl (lv_at hl 0 rfl) ?_
  refine va_get (D := (E.1, E.2.1)) (ci := 6) (v := .int (M0.1.1 0)) (C := RX6) (T := TX6) (N := 26) hx hb ht wu_X6 hown hK hP 0 rfl rfl 0 (by decide) (ht _ wk_X6_7) (fun _ h9 => h9) rfl dX6_isOne_4 ?_
  refine lv_iconst (v := 1) hx hb dX6_isOne_7 (by decide) ?_
  refine lv_isub hx hb dX6_isOne_8 ?_
  refine lv_i2l (v := ((M0.1.1 0) - 1).toInt64) hx hb dX6_isOne_9 rfl ?_
  have p1 := gB (n := 1) (bs := [bModel E a0 M0]) (bc := []) (br := [bModel E a0 M0]) [0] rfl rfl (by decide)
  refine g_i (g_runS (As := [.long (x1.toInt64), .long 0, .long (((M0.1.1 0) - 1).toInt64)]) (rest := []) ⟨hx, hb, hml, hown, ht⟩ hE (c_X6_in E l (x1.toInt64) 0 (((M0.1.1 0) - 1).toInt64) _ h) ⟨rfl, rfl⟩ wk_X6_55 wt_X6_in wn_X6 wc_X6_in yd_X6_in ⟨Nat.le_of_ble_eq_true rfl, Nat.le_of_ble_eq_true rfl⟩ hP hD p1 rfl rfl hl.1 rfl (lv_room (Nat.le_of_ble_eq_true rfl)) dX6_isOne_10 ⟨Nat.zero_le _, Nat.zero_le _⟩) hP hD hS p1 (fun r_1 _ w H locs h hw hP hD hS => ?_)
  subst hw
  clear p1
  have p2 := gB (n := 1) (bs := [bModel E a0 M0]) (bc := []) (br := [bModel E a0 M0]) [0] rfl rfl (by decide)
  have hP := gP_perm p2.symm hP
  have hD := gD_perm p2.symm hD
  clear p2
  exact hret r_1 () _ _ _ _ _ h.1 h.2 rfl hP hD hS dX6_isOne_13
theorem dX6_placeOf_0 : decode cX6_placeOf 0 = .ok (.bipush (-9), 2) := by decide +kernel
theorem dX6_placeOf_2 : decode cX6_placeOf 2 = .ok (.istore_n 2, 1) := by decide +kernel
theorem dX6_placeOf_3 : decode cX6_placeOf 3 = .ok (.iconst 0, 1) := by decide +kernel
theorem dX6_placeOf_4 : decode cX6_placeOf 4 = .ok (.istore_n 3, 1) := by decide +kernel
theorem dX6_placeOf_5 : decode cX6_placeOf 5 = .ok (.iload_n 3, 1) := by decide +kernel
theorem dX6_placeOf_6 : decode cX6_placeOf 6 = .ok (.aload_n 0, 1) := by decide +kernel
theorem dX6_placeOf_7 : decode cX6_placeOf 7 = .ok (.getfield 23, 3) := by decide +kernel
theorem dX6_placeOf_10 : decode cX6_placeOf 10 = .ok (.bipush 8, 2) := by decide +kernel
theorem dX6_placeOf_12 : decode cX6_placeOf 12 = .ok (.iaload, 1) := by decide +kernel
theorem dX6_placeOf_13 : decode cX6_placeOf 13 = .ok (.if_icmp .ge 25, 3) := by decide +kernel
theorem dX6_placeOf_16 : decode cX6_placeOf 16 = .ok (.aload_n 0, 1) := by decide +kernel
theorem dX6_placeOf_17 : decode cX6_placeOf 17 = .ok (.getfield 23, 3) := by decide +kernel
theorem dX6_placeOf_20 : decode cX6_placeOf 20 = .ok (.iload_n 3, 1) := by decide +kernel
theorem dX6_placeOf_21 : decode cX6_placeOf 21 = .ok (.iaload, 1) := by decide +kernel
theorem dX6_placeOf_22 : decode cX6_placeOf 22 = .ok (.iload_n 1, 1) := by decide +kernel
theorem dX6_placeOf_23 : decode cX6_placeOf 23 = .ok (.if_icmp .ne 7, 3) := by decide +kernel
theorem dX6_placeOf_26 : decode cX6_placeOf 26 = .ok (.iload_n 3, 1) := by decide +kernel
theorem dX6_placeOf_27 : decode cX6_placeOf 27 = .ok (.goto 4, 3) := by decide +kernel
theorem dX6_placeOf_30 : decode cX6_placeOf 30 = .ok (.iload_n 2, 1) := by decide +kernel
theorem dX6_placeOf_31 : decode cX6_placeOf 31 = .ok (.istore_n 2, 1) := by decide +kernel
theorem dX6_placeOf_32 : decode cX6_placeOf 32 = .ok (.iinc 3 1, 3) := by decide +kernel
theorem dX6_placeOf_35 : decode cX6_placeOf 35 = .ok (.goto (-30), 3) := by decide +kernel
theorem dX6_placeOf_38 : decode cX6_placeOf 38 = .ok (.iload_n 2, 1) := by decide +kernel
theorem dX6_placeOf_39 : decode cX6_placeOf 39 = .ok (.ireturn, 1) := by decide +kernel
set_option maxHeartbeats 4000000 in
set_option maxRecDepth 100000 in
theorem c_X6_placeOf (E : GE) (l : Launch) (a0 : Nat → Nat) (M0 : Mo) (x1 : Int32) (post : Int32 → Prop) (h : wp_X6_placeOf M0 x1 post) : Met l yX6_placeOf (wz yX6_placeOf cX6_placeOf 4 (some .int)) { frames := 0, cells := 0, slots := 0, locals := 0 } (gPc E [.ref (a0 99), .int x1] (gW [bModel E a0 M0])) (gQi E (gW [bModel E a0 M0]) (fun r (_ : Unit) => post r) (fun (_ : Unit) w => w = gW [bModel E a0 M0])) 0 0 (gIn (gW [bModel E a0 M0])) := by
  unfold wp_X6_placeOf at h
  refine g_of_i (by decide) (Nat.le_of_ble_eq_true rfl) ?_
  intro p e s m below meth c A Q hx hb hml hown ht hE hP hD hret ls hl
  have hK := hE.1
  have hS : va_S A s.heap s.heap [] := va_S.rf
  have hl : lv_has ls 4 [(0, .ref (a0 99)), (1, .int x1)] := hl
  refine lv_bipush (v := (-9)) hx hb dX6_placeOf_0 (by decide) ?_
  refine lv_istore_n (lv' := [(2, .int (-9)), (0, .ref (a0 99)), (1, .int x1)]) hx hb dX6_placeOf_2 rfl hl (by decide) rfl (fun ls hl => ?_)
  refine lv_iconst (v := 0) hx hb dX6_placeOf_3 (by decide) ?_
  refine lv_istore_n (lv' := [(3, .int 0), (2, .int (-9)), (0, .ref (a0 99)), (1, .int x1)]) hx hb dX6_placeOf_4 rfl hl (by decide) rfl (fun ls hl => ?_)
  have L5 : ∀ (n5 : Nat) (x2_5 : Int32) (x3_5 : Int32) (H : Heap) (locs : List Loc) (ls : Array Slot), wp_X6_placeOf_L5 post x1 M0 n5 x2_5 x3_5 → gP E (gW [bModel E a0 M0]) H → va_D A (gW [bModel E a0 M0]) → va_S A s.heap H locs → lv_has ls 4 [(0, .ref (a0 99)), (1, .int x1), (2, .int x2_5), (3, .int x3_5)] → W p l e { frames := 0, cells := 0, slots := 0, locals := 0 } s m ([.ref (a0 99), .int x1] : List Value).toArray below meth c H locs 0 0 Q (F0 m 5 ls []) := by
    intro n5
    induction n5 with
    | zero => intro x2_5 x3_5 H locs ls h; exact h.elim
    | succ n5 ih5 =>
      intro x2_5 x3_5 H locs ls h hP hD hS hl
      rw [wp_X6_placeOf_L5] at h
      refine lv_iload_n hx hb dX6_placeOf_5 rfl (lv_at hl 3 rfl) ?_
      refine lv_aload_n hx hb dX6_placeOf_6 rfl (lv_at hl 0 rfl) ?_
      refine va_get (D := (E.1, E.2.1)) (ci := 6) (v := .ref (a0 7)) (C := RX6) (T := TX6) (N := 26) hx hb ht wu_X6 hown hK hP 0 rfl rfl 7 (by decide) (ht _ wk_X6_23) (fun _ h9 => h9) rfl dX6_placeOf_7 ?_
      refine lv_bipush (v := 8) hx hb dX6_placeOf_10 (by decide) ?_
      refine va_iald hx hb hK hP 4 0 rfl rfl (by unfold vp_in; decide) dX6_placeOf_12 ?_
      refine lv_asi (x' := (M0.1.2 7 8)) rfl ?_
      refine lv_icmp_ge (tgt := 38) hx hb dX6_placeOf_13 (by decide) (fun c_3 => ?_) (fun c_3 => ?_)
      · have h := h.1 c_3
        refine lv_iload_n hx hb dX6_placeOf_38 rfl (lv_at hl 2 rfl) ?_
        exact hret x2_5 () _ _ _ _ _ h rfl hP hD hS dX6_placeOf_39
      · have h := h.2 c_3
        refine lv_aload_n hx hb dX6_placeOf_16 rfl (lv_at hl 0 rfl) ?_
        refine va_get (D := (E.1, E.2.1)) (ci := 6) (v := .ref (a0 7)) (C := RX6) (T := TX6) (N := 26) hx hb ht wu_X6 hown hK hP 0 rfl rfl 7 (by decide) (ht _ wk_X6_23) (fun _ h9 => h9) rfl dX6_placeOf_17 ?_
        refine lv_iload_n hx hb dX6_placeOf_20 rfl (lv_at hl 3 rfl) ?_
        refine va_iald hx hb hK hP 4 0 rfl rfl h.1 dX6_placeOf_21 ?_
        have h := h.2
        refine lv_iload_n hx hb dX6_placeOf_22 rfl (lv_at hl 1 rfl) ?_
        refine lv_icmp_ne (tgt := 30) hx hb dX6_placeOf_23 (by decide) (fun c_4 => ?_) (fun c_4 => ?_)
        · have h := h.1 c_4
          refine lv_iload_n hx hb dX6_placeOf_30 rfl (lv_at hl 2 rfl) ?_
          refine lv_istore_n (lv' := [(2, .int x2_5), (0, .ref (a0 99)), (1, .int x1), (3, .int x3_5)]) hx hb dX6_placeOf_31 rfl hl (by decide) rfl (fun ls hl => ?_)
          refine lv_iinc (v := (x3_5 + 1)) (lv' := [(3, .int (x3_5 + 1)), (2, .int x2_5), (0, .ref (a0 99)), (1, .int x1)]) hx hb dX6_placeOf_32 hl (k := 3) rfl rfl (by decide) rfl (fun ls hl => ?_)
          refine lv_goto (tgt := 5) hx hb dX6_placeOf_35 (by decide) ?_
          exact ih5 x2_5 (x3_5 + 1) _ _ _ h hP hD hS (lv_sub hl [2, 3, 1, 0] rfl)
        · have h := h.2 c_4
          refine lv_iload_n hx hb dX6_placeOf_26 rfl (lv_at hl 3 rfl) ?_
          refine lv_goto (tgt := 31) hx hb dX6_placeOf_27 (by decide) ?_
          refine lv_istore_n (lv' := [(2, .int x3_5), (0, .ref (a0 99)), (1, .int x1), (3, .int x3_5)]) hx hb dX6_placeOf_31 rfl hl (by decide) rfl (fun ls hl => ?_)
          refine lv_iinc (v := (x3_5 + 1)) (lv' := [(3, .int (x3_5 + 1)), (2, .int x3_5), (0, .ref (a0 99)), (1, .int x1)]) hx hb dX6_placeOf_32 hl (k := 3) rfl rfl (by decide) rfl (fun ls hl => ?_)
          refine lv_goto (tgt := 5) hx hb dX6_placeOf_35 (by decide) ?_
          exact ih5 x3_5 (x3_5 + 1) _ _ _ h hP hD hS (lv_sub hl [2, 3, 1, 0] rfl)
  obtain ⟨n5, h⟩ := h
  exact L5 n5 (-9) 0 _ _ _ h hP hD hS (lv_sub hl [2, 3, 1, 0] rfl)
theorem dX6_isRing_0 : decode cX6_isRing 0 = .ok (.aload_n 0, 1) := by decide +kernel
theorem dX6_isRing_1 : decode cX6_isRing 1 = .ok (.iload_n 1, 1) := by decide +kernel
theorem dX6_isRing_2 : decode cX6_isRing 2 = .ok (.invokevirtual 121, 3) := by decide +kernel
theorem dX6_isRing_5 : decode cX6_isRing 5 = .ok (.bipush (-9), 2) := by decide +kernel
theorem dX6_isRing_7 : decode cX6_isRing 7 = .ok (.if_icmp .eq 7, 3) := by decide +kernel
theorem dX6_isRing_10 : decode cX6_isRing 10 = .ok (.iconst 1, 1) := by decide +kernel
theorem dX6_isRing_11 : decode cX6_isRing 11 = .ok (.goto 4, 3) := by decide +kernel
theorem dX6_isRing_14 : decode cX6_isRing 14 = .ok (.iconst 0, 1) := by decide +kernel
theorem dX6_isRing_15 : decode cX6_isRing 15 = .ok (.ireturn, 1) := by decide +kernel
set_option maxHeartbeats 4000000 in
set_option maxRecDepth 100000 in
theorem c_X6_isRing (E : GE) (l : Launch) (a0 : Nat → Nat) (M0 : Mo) (x1 : Int32) (post : Int32 → Prop) (h : wp_X6_isRing M0 x1 post) : Met l yX6_isRing (wz yX6_isRing cX6_isRing 2 (some .boolean)) { frames := 1, cells := 0, slots := 0, locals := 23 } (gPc E [.ref (a0 99), .int x1] (gW [bModel E a0 M0])) (gQi E (gW [bModel E a0 M0]) (fun r (_ : Unit) => post r) (fun (_ : Unit) w => w = gW [bModel E a0 M0])) 0 0 (gIn (gW [bModel E a0 M0])) := by
  unfold wp_X6_isRing at h
  refine g_of_z (by decide) (Nat.le_of_ble_eq_true rfl) ?_
  intro p e s m below meth c A Q hx hb hml hown ht hE hP hD hret ls hl
  have hK := hE.1
  have hS : va_S A s.heap s.heap [] := va_S.rf
  have hl : lv_has ls 2 [(0, .ref (a0 99)), (1, .int x1)] := hl
  refine lv_aload_n hx hb dX6_isRing_0 rfl (lv_at hl 0 rfl) ?_
  refine lv_iload_n hx hb dX6_isRing_1 rfl (lv_at hl 1 rfl) ?_
  have p1 := gB (n := 1) (bs := [bModel E a0 M0]) (bc := [bModel E a0 M0]) (br := []) [0] rfl rfl (by decide)
  refine g_i (g_runV (As := [.int x1]) (rest := []) ⟨hx, hb, hml, hown, ht⟩ hE (c_X6_placeOf E l a0 M0 x1 _ h) ⟨rfl, rfl⟩ wk_X6_121 wi_X6_placeOf ws_X6_placeOf wn_X6 wc_X6_placeOf yd_X6_placeOf ⟨Nat.le_of_ble_eq_true rfl, Nat.le_of_ble_eq_true rfl⟩ hP hD p1 (ci := 6) rfl rfl rfl rfl rfl hl.1 rfl (lv_room (Nat.le_of_ble_eq_true rfl)) dX6_isRing_2 ⟨Nat.zero_le _, Nat.zero_le _⟩) hP hD hS p1 (fun r_1 _ w H locs h hw hP hD hS => ?_)
  subst hw
  clear p1
  have p2 := gB (n := 1) (bs := [bModel E a0 M0]) (bc := [bModel E a0 M0]) (br := []) [0] rfl rfl (by decide)
  have hP := gP_perm p2.symm hP
  have hD := gD_perm p2.symm hD
  clear p2
  refine lv_bipush (v := (-9)) hx hb dX6_isRing_5 (by decide) ?_
  refine lv_icmp_eq (tgt := 14) hx hb dX6_isRing_7 (by decide) (fun c_2 => ?_) (fun c_2 => ?_)
  · have h := h.1 c_2
    refine lv_iconst (v := 0) hx hb dX6_isRing_14 (by decide) ?_
    exact hret 0 () _ _ _ _ _ rfl h rfl hP hD hS dX6_isRing_15
  · have h := h.2 c_2
    refine lv_iconst (v := 1) hx hb dX6_isRing_10 (by decide) ?_
    refine lv_goto (tgt := 15) hx hb dX6_isRing_11 (by decide) ?_
    exact hret 1 () _ _ _ _ _ rfl h rfl hP hD hS dX6_isRing_15
theorem dX6_ring_0 : decode cX6_ring 0 = .ok (.iconst 0, 1) := by decide +kernel
theorem dX6_ring_1 : decode cX6_ring 1 = .ok (.istore_n 1, 1) := by decide +kernel
theorem dX6_ring_2 : decode cX6_ring 2 = .ok (.iconst 0, 1) := by decide +kernel
theorem dX6_ring_3 : decode cX6_ring 3 = .ok (.istore_n 2, 1) := by decide +kernel
theorem dX6_ring_4 : decode cX6_ring 4 = .ok (.iload_n 2, 1) := by decide +kernel
theorem dX6_ring_5 : decode cX6_ring 5 = .ok (.aload_n 0, 1) := by decide +kernel
theorem dX6_ring_6 : decode cX6_ring 6 = .ok (.getfield 23, 3) := by decide +kernel
theorem dX6_ring_9 : decode cX6_ring 9 = .ok (.bipush 8, 2) := by decide +kernel
theorem dX6_ring_11 : decode cX6_ring 11 = .ok (.iaload, 1) := by decide +kernel
theorem dX6_ring_12 : decode cX6_ring 12 = .ok (.if_icmp .ge 20, 3) := by decide +kernel
theorem dX6_ring_15 : decode cX6_ring 15 = .ok (.iload_n 1, 1) := by decide +kernel
theorem dX6_ring_16 : decode cX6_ring 16 = .ok (.iconst 1, 1) := by decide +kernel
theorem dX6_ring_17 : decode cX6_ring 17 = .ok (.aload_n 0, 1) := by decide +kernel
theorem dX6_ring_18 : decode cX6_ring 18 = .ok (.getfield 23, 3) := by decide +kernel
theorem dX6_ring_21 : decode cX6_ring 21 = .ok (.iload_n 2, 1) := by decide +kernel
theorem dX6_ring_22 : decode cX6_ring 22 = .ok (.iaload, 1) := by decide +kernel
theorem dX6_ring_23 : decode cX6_ring 23 = .ok (.ishl, 1) := by decide +kernel
theorem dX6_ring_24 : decode cX6_ring 24 = .ok (.ior, 1) := by decide +kernel
theorem dX6_ring_25 : decode cX6_ring 25 = .ok (.istore_n 1, 1) := by decide +kernel
theorem dX6_ring_26 : decode cX6_ring 26 = .ok (.iinc 2 1, 3) := by decide +kernel
theorem dX6_ring_29 : decode cX6_ring 29 = .ok (.goto (-25), 3) := by decide +kernel
theorem dX6_ring_32 : decode cX6_ring 32 = .ok (.iload_n 1, 1) := by decide +kernel
theorem dX6_ring_33 : decode cX6_ring 33 = .ok (.ireturn, 1) := by decide +kernel
set_option maxHeartbeats 4000000 in
set_option maxRecDepth 100000 in
theorem c_X6_ring (E : GE) (l : Launch) (a0 : Nat → Nat) (M0 : Mo) (post : Int32 → Prop) (h : wp_X6_ring M0 post) : Met l yX6_ring (wz yX6_ring cX6_ring 3 (some .int)) { frames := 0, cells := 0, slots := 0, locals := 0 } (gPc E [.ref (a0 99)] (gW [bModel E a0 M0])) (gQi E (gW [bModel E a0 M0]) (fun r (_ : Unit) => post r) (fun (_ : Unit) w => w = gW [bModel E a0 M0])) 0 0 (gIn (gW [bModel E a0 M0])) := by
  unfold wp_X6_ring at h
  refine g_of_i (by decide) (Nat.le_of_ble_eq_true rfl) ?_
  intro p e s m below meth c A Q hx hb hml hown ht hE hP hD hret ls hl
  have hK := hE.1
  have hS : va_S A s.heap s.heap [] := va_S.rf
  have hl : lv_has ls 3 [(0, .ref (a0 99))] := hl
  refine lv_iconst (v := 0) hx hb dX6_ring_0 (by decide) ?_
  refine lv_istore_n (lv' := [(1, .int 0), (0, .ref (a0 99))]) hx hb dX6_ring_1 rfl hl (by decide) rfl (fun ls hl => ?_)
  refine lv_iconst (v := 0) hx hb dX6_ring_2 (by decide) ?_
  refine lv_istore_n (lv' := [(2, .int 0), (1, .int 0), (0, .ref (a0 99))]) hx hb dX6_ring_3 rfl hl (by decide) rfl (fun ls hl => ?_)
  have L4 : ∀ (n4 : Nat) (x1_4 : Int32) (x2_4 : Int32) (H : Heap) (locs : List Loc) (ls : Array Slot), wp_X6_ring_L4 post M0 n4 x1_4 x2_4 → gP E (gW [bModel E a0 M0]) H → va_D A (gW [bModel E a0 M0]) → va_S A s.heap H locs → lv_has ls 3 [(0, .ref (a0 99)), (1, .int x1_4), (2, .int x2_4)] → W p l e { frames := 0, cells := 0, slots := 0, locals := 0 } s m ([.ref (a0 99)] : List Value).toArray below meth c H locs 0 0 Q (F0 m 4 ls []) := by
    intro n4
    induction n4 with
    | zero => intro x1_4 x2_4 H locs ls h; exact h.elim
    | succ n4 ih4 =>
      intro x1_4 x2_4 H locs ls h hP hD hS hl
      rw [wp_X6_ring_L4] at h
      refine lv_iload_n hx hb dX6_ring_4 rfl (lv_at hl 2 rfl) ?_
      refine lv_aload_n hx hb dX6_ring_5 rfl (lv_at hl 0 rfl) ?_
      refine va_get (D := (E.1, E.2.1)) (ci := 6) (v := .ref (a0 7)) (C := RX6) (T := TX6) (N := 26) hx hb ht wu_X6 hown hK hP 0 rfl rfl 7 (by decide) (ht _ wk_X6_23) (fun _ h9 => h9) rfl dX6_ring_6 ?_
      refine lv_bipush (v := 8) hx hb dX6_ring_9 (by decide) ?_
      refine va_iald hx hb hK hP 4 0 rfl rfl (by unfold vp_in; decide) dX6_ring_11 ?_
      refine lv_asi (x' := (M0.1.2 7 8)) rfl ?_
      refine lv_icmp_ge (tgt := 32) hx hb dX6_ring_12 (by decide) (fun c_3 => ?_) (fun c_3 => ?_)
      · have h := h.1 c_3
        refine lv_iload_n hx hb dX6_ring_32 rfl (lv_at hl 1 rfl) ?_
        exact hret x1_4 () _ _ _ _ _ h rfl hP hD hS dX6_ring_33
      · have h := h.2 c_3
        refine lv_iload_n hx hb dX6_ring_15 rfl (lv_at hl 1 rfl) ?_
        refine lv_iconst (v := 1) hx hb dX6_ring_16 (by decide) ?_
        refine lv_aload_n hx hb dX6_ring_17 rfl (lv_at hl 0 rfl) ?_
        refine va_get (D := (E.1, E.2.1)) (ci := 6) (v := .ref (a0 7)) (C := RX6) (T := TX6) (N := 26) hx hb ht wu_X6 hown hK hP 0 rfl rfl 7 (by decide) (ht _ wk_X6_23) (fun _ h9 => h9) rfl dX6_ring_18 ?_
        refine lv_iload_n hx hb dX6_ring_21 rfl (lv_at hl 2 rfl) ?_
        refine va_iald hx hb hK hP 4 0 rfl rfl h.1 dX6_ring_22 ?_
        have h := h.2
        refine lv_ishl hx hb dX6_ring_23 ?_
        refine lv_ior hx hb dX6_ring_24 ?_
        refine lv_topi (fun y_4 ey_4 => ?_)
        have h := h y_4 ey_4
        refine lv_istore_n (lv' := [(1, .int y_4), (0, .ref (a0 99)), (2, .int x2_4)]) hx hb dX6_ring_25 rfl hl (by decide) rfl (fun ls hl => ?_)
        refine lv_iinc (v := (x2_4 + 1)) (lv' := [(2, .int (x2_4 + 1)), (1, .int y_4), (0, .ref (a0 99))]) hx hb dX6_ring_26 hl (k := 2) rfl rfl (by decide) rfl (fun ls hl => ?_)
        refine lv_goto (tgt := 4) hx hb dX6_ring_29 (by decide) ?_
        exact ih4 y_4 (x2_4 + 1) _ _ _ h hP hD hS (lv_sub hl [2, 1, 0] rfl)
  obtain ⟨n4, h⟩ := h
  exact L4 n4 0 0 _ _ _ h hP hD hS (lv_sub hl [2, 1, 0] rfl)
theorem dX6_knowers_0 : decode cX6_knowers 0 = .ok (.iconst 0, 1) := by decide +kernel
theorem dX6_knowers_1 : decode cX6_knowers 1 = .ok (.istore_n 2, 1) := by decide +kernel
theorem dX6_knowers_2 : decode cX6_knowers 2 = .ok (.iconst 0, 1) := by decide +kernel
theorem dX6_knowers_3 : decode cX6_knowers 3 = .ok (.istore_n 3, 1) := by decide +kernel
theorem dX6_knowers_4 : decode cX6_knowers 4 = .ok (.iload_n 3, 1) := by decide +kernel
theorem dX6_knowers_5 : decode cX6_knowers 5 = .ok (.aload_n 0, 1) := by decide +kernel
theorem dX6_knowers_6 : decode cX6_knowers 6 = .ok (.getfield 7, 3) := by decide +kernel
theorem dX6_knowers_9 : decode cX6_knowers 9 = .ok (.if_icmp .ge 35, 3) := by decide +kernel
theorem dX6_knowers_12 : decode cX6_knowers 12 = .ok (.iload_n 2, 1) := by decide +kernel
theorem dX6_knowers_13 : decode cX6_knowers 13 = .ok (.aload_n 0, 1) := by decide +kernel
theorem dX6_knowers_14 : decode cX6_knowers 14 = .ok (.getfield 23, 3) := by decide +kernel
theorem dX6_knowers_17 : decode cX6_knowers 17 = .ok (.bipush 26, 2) := by decide +kernel
theorem dX6_knowers_19 : decode cX6_knowers 19 = .ok (.iload_n 3, 1) := by decide +kernel
theorem dX6_knowers_20 : decode cX6_knowers 20 = .ok (.iadd, 1) := by decide +kernel
theorem dX6_knowers_21 : decode cX6_knowers 21 = .ok (.iaload, 1) := by decide +kernel
theorem dX6_knowers_22 : decode cX6_knowers 22 = .ok (.iload_n 1, 1) := by decide +kernel
theorem dX6_knowers_23 : decode cX6_knowers 23 = .ok (.invokestatic 125, 3) := by decide +kernel
theorem dX6_knowers_26 : decode cX6_knowers 26 = .ok (.ifCond .eq 9, 3) := by decide +kernel
theorem dX6_knowers_29 : decode cX6_knowers 29 = .ok (.iconst 1, 1) := by decide +kernel
theorem dX6_knowers_30 : decode cX6_knowers 30 = .ok (.iload_n 3, 1) := by decide +kernel
theorem dX6_knowers_31 : decode cX6_knowers 31 = .ok (.ishl, 1) := by decide +kernel
theorem dX6_knowers_32 : decode cX6_knowers 32 = .ok (.goto 4, 3) := by decide +kernel
theorem dX6_knowers_35 : decode cX6_knowers 35 = .ok (.iconst 0, 1) := by decide +kernel
theorem dX6_knowers_36 : decode cX6_knowers 36 = .ok (.ior, 1) := by decide +kernel
theorem dX6_knowers_37 : decode cX6_knowers 37 = .ok (.istore_n 2, 1) := by decide +kernel
theorem dX6_knowers_38 : decode cX6_knowers 38 = .ok (.iinc 3 1, 3) := by decide +kernel
theorem dX6_knowers_41 : decode cX6_knowers 41 = .ok (.goto (-37), 3) := by decide +kernel
theorem dX6_knowers_44 : decode cX6_knowers 44 = .ok (.iload_n 2, 1) := by decide +kernel
theorem dX6_knowers_45 : decode cX6_knowers 45 = .ok (.ireturn, 1) := by decide +kernel
set_option maxHeartbeats 4000000 in
set_option maxRecDepth 100000 in
theorem c_X6_knowers (E : GE) (l : Launch) (a0 : Nat → Nat) (M0 : Mo) (x1 : Int32) (post : Int32 → Prop) (h : wp_X6_knowers M0 x1 post) : Met l yX6_knowers (wz yX6_knowers cX6_knowers 4 (some .int)) { frames := 1, cells := 0, slots := 0, locals := 21 } (gPc E [.ref (a0 99), .int x1] (gW [bModel E a0 M0])) (gQi E (gW [bModel E a0 M0]) (fun r (_ : Unit) => post r) (fun (_ : Unit) w => w = gW [bModel E a0 M0])) 0 0 (gIn (gW [bModel E a0 M0])) := by
  unfold wp_X6_knowers at h
  refine g_of_i (by decide) (Nat.le_of_ble_eq_true rfl) ?_
  intro p e s m below meth c A Q hx hb hml hown ht hE hP hD hret ls hl
  have hK := hE.1
  have hS : va_S A s.heap s.heap [] := va_S.rf
  have hl : lv_has ls 4 [(0, .ref (a0 99)), (1, .int x1)] := hl
  refine lv_iconst (v := 0) hx hb dX6_knowers_0 (by decide) ?_
  refine lv_istore_n (lv' := [(2, .int 0), (0, .ref (a0 99)), (1, .int x1)]) hx hb dX6_knowers_1 rfl hl (by decide) rfl (fun ls hl => ?_)
  refine lv_iconst (v := 0) hx hb dX6_knowers_2 (by decide) ?_
  refine lv_istore_n (lv' := [(3, .int 0), (2, .int 0), (0, .ref (a0 99)), (1, .int x1)]) hx hb dX6_knowers_3 rfl hl (by decide) rfl (fun ls hl => ?_)
  have L4 : ∀ (n4 : Nat) (x2_4 : Int32) (x3_4 : Int32) (H : Heap) (locs : List Loc) (ls : Array Slot), wp_X6_knowers_L4 post x1 M0 n4 x2_4 x3_4 → gP E (gW [bModel E a0 M0]) H → va_D A (gW [bModel E a0 M0]) → va_S A s.heap H locs → lv_has ls 4 [(0, .ref (a0 99)), (1, .int x1), (2, .int x2_4), (3, .int x3_4)] → W p l e { frames := 1, cells := 0, slots := 0, locals := 21 } s m ([.ref (a0 99), .int x1] : List Value).toArray below meth c H locs 0 0 Q (F0 m 4 ls []) := by
    intro n4
    induction n4 with
    | zero => intro x2_4 x3_4 H locs ls h; exact h.elim
    | succ n4 ih4 =>
      intro x2_4 x3_4 H locs ls h hP hD hS hl
      rw [wp_X6_knowers_L4] at h
      refine lv_iload_n hx hb dX6_knowers_4 rfl (lv_at hl 3 rfl) ?_
      refine lv_aload_n hx hb dX6_knowers_5 rfl (lv_at hl 0 rfl) ?_
      refine va_get (D := (E.1, E.2.1)) (ci := 6) (v := .int (M0.1.1 0)) (C := RX6) (T := TX6) (N := 26) hx hb ht wu_X6 hown hK hP 0 rfl rfl 0 (by decide) (ht _ wk_X6_7) (fun _ h9 => h9) rfl dX6_knowers_6 ?_
      refine lv_icmp_ge (tgt := 44) hx hb dX6_knowers_9 (by decide) (fun c_4 => ?_) (fun c_4 => ?_)
      · have h := h.1 c_4
        refine lv_iload_n hx hb dX6_knowers_44 rfl (lv_at hl 2 rfl) ?_
        exact hret x2_4 () _ _ _ _ _ h rfl hP hD hS dX6_knowers_45
      · have h := h.2 c_4
        refine lv_iload_n hx hb dX6_knowers_12 rfl (lv_at hl 2 rfl) ?_
        refine lv_aload_n hx hb dX6_knowers_13 rfl (lv_at hl 0 rfl) ?_
        refine va_get (D := (E.1, E.2.1)) (ci := 6) (v := .ref (a0 7)) (C := RX6) (T := TX6) (N := 26) hx hb ht wu_X6 hown hK hP 0 rfl rfl 7 (by decide) (ht _ wk_X6_23) (fun _ h9 => h9) rfl dX6_knowers_14 ?_
        refine lv_bipush (v := 26) hx hb dX6_knowers_17 (by decide) ?_
        refine lv_iload_n hx hb dX6_knowers_19 rfl (lv_at hl 3 rfl) ?_
        refine lv_iadd hx hb dX6_knowers_20 ?_
        refine va_iald hx hb hK hP 4 0 rfl rfl h.1 dX6_knowers_21 ?_
        have h := h.2
        refine lv_iload_n hx hb dX6_knowers_22 rfl (lv_at hl 1 rfl) ?_
        have p1 := gB (n := 1) (bs := [bModel E a0 M0]) (bc := []) (br := [bModel E a0 M0]) [0] rfl rfl (by decide)
        refine g_i (g_runS (As := [.int (M0.1.2 7 (26 + x3_4).toNatClampNeg), .int x1]) (rest := [.int x2_4]) ⟨hx, hb, hml, hown, ht⟩ hE (c_X6_has E l (M0.1.2 7 (26 + x3_4).toNatClampNeg) x1 _ h) ⟨rfl, rfl⟩ wk_X6_125 wt_X6_has wn_X6 wc_X6_has yd_X6_has ⟨Nat.le_of_ble_eq_true rfl, Nat.le_of_ble_eq_true rfl⟩ hP hD p1 rfl rfl hl.1 rfl (lv_room (Nat.le_of_ble_eq_true rfl)) dX6_knowers_23 ⟨Nat.zero_le _, Nat.zero_le _⟩) hP hD hS p1 (fun r_5 _ w H locs h hw hP hD hS => ?_)
        subst hw
        clear p1
        have p2 := gB (n := 1) (bs := [bModel E a0 M0]) (bc := []) (br := [bModel E a0 M0]) [0] rfl rfl (by decide)
        have hP := gP_perm p2.symm hP
        have hD := gD_perm p2.symm hD
        clear p2
        refine lv_if_eq (tgt := 35) hx hb dX6_knowers_26 (by decide) (fun c_6 => ?_) (fun c_6 => ?_)
        · have h := h.1 c_6
          refine lv_iconst (v := 0) hx hb dX6_knowers_35 (by decide) ?_
          refine lv_ior hx hb dX6_knowers_36 ?_
          refine lv_istore_n (lv' := [(2, .int (x2_4 ||| 0)), (0, .ref (a0 99)), (1, .int x1), (3, .int x3_4)]) hx hb dX6_knowers_37 rfl hl (by decide) rfl (fun ls hl => ?_)
          refine lv_iinc (v := (x3_4 + 1)) (lv' := [(3, .int (x3_4 + 1)), (2, .int (x2_4 ||| 0)), (0, .ref (a0 99)), (1, .int x1)]) hx hb dX6_knowers_38 hl (k := 3) rfl rfl (by decide) rfl (fun ls hl => ?_)
          refine lv_goto (tgt := 4) hx hb dX6_knowers_41 (by decide) ?_
          exact ih4 (x2_4 ||| 0) (x3_4 + 1) _ _ _ h hP hD hS (lv_sub hl [2, 3, 1, 0] rfl)
        · have h := h.2 c_6
          refine lv_iconst (v := 1) hx hb dX6_knowers_29 (by decide) ?_
          refine lv_iload_n hx hb dX6_knowers_30 rfl (lv_at hl 3 rfl) ?_
          refine lv_ishl hx hb dX6_knowers_31 ?_
          refine lv_goto (tgt := 36) hx hb dX6_knowers_32 (by decide) ?_
          refine lv_ior hx hb dX6_knowers_36 ?_
          refine lv_istore_n (lv' := [(2, .int (x2_4 ||| ((1 : Int32) <<< (x3_4 &&& 31)))), (0, .ref (a0 99)), (1, .int x1), (3, .int x3_4)]) hx hb dX6_knowers_37 rfl hl (by decide) rfl (fun ls hl => ?_)
          refine lv_iinc (v := (x3_4 + 1)) (lv' := [(3, .int (x3_4 + 1)), (2, .int (x2_4 ||| ((1 : Int32) <<< (x3_4 &&& 31)))), (0, .ref (a0 99)), (1, .int x1)]) hx hb dX6_knowers_38 hl (k := 3) rfl rfl (by decide) rfl (fun ls hl => ?_)
          refine lv_goto (tgt := 4) hx hb dX6_knowers_41 (by decide) ?_
          exact ih4 (x2_4 ||| ((1 : Int32) <<< (x3_4 &&& 31))) (x3_4 + 1) _ _ _ h hP hD hS (lv_sub hl [2, 3, 1, 0] rfl)
  obtain ⟨n4, h⟩ := h
  exact L4 n4 0 0 _ _ _ h hP hD hS (lv_sub hl [2, 3, 1, 0] rfl)
theorem dX6_getsIn_0 : decode cX6_getsIn 0 = .ok (.iconst 0, 1) := by decide +kernel
theorem dX6_getsIn_1 : decode cX6_getsIn 1 = .ok (.istore_n 2, 1) := by decide +kernel
theorem dX6_getsIn_2 : decode cX6_getsIn 2 = .ok (.iconst 0, 1) := by decide +kernel
theorem dX6_getsIn_3 : decode cX6_getsIn 3 = .ok (.istore_n 3, 1) := by decide +kernel
theorem dX6_getsIn_4 : decode cX6_getsIn 4 = .ok (.iload_n 3, 1) := by decide +kernel
theorem dX6_getsIn_5 : decode cX6_getsIn 5 = .ok (.aload_n 0, 1) := by decide +kernel
theorem dX6_getsIn_6 : decode cX6_getsIn 6 = .ok (.getfield 7, 3) := by decide +kernel
theorem dX6_getsIn_9 : decode cX6_getsIn 9 = .ok (.if_icmp .ge 33, 3) := by decide +kernel
theorem dX6_getsIn_12 : decode cX6_getsIn 12 = .ok (.iload_n 2, 1) := by decide +kernel
theorem dX6_getsIn_13 : decode cX6_getsIn 13 = .ok (.aload_n 0, 1) := by decide +kernel
theorem dX6_getsIn_14 : decode cX6_getsIn 14 = .ok (.getfield 23, 3) := by decide +kernel
theorem dX6_getsIn_17 : decode cX6_getsIn 17 = .ok (.bipush 26, 2) := by decide +kernel
theorem dX6_getsIn_19 : decode cX6_getsIn 19 = .ok (.iload_n 3, 1) := by decide +kernel
theorem dX6_getsIn_20 : decode cX6_getsIn 20 = .ok (.iadd, 1) := by decide +kernel
theorem dX6_getsIn_21 : decode cX6_getsIn 21 = .ok (.iaload, 1) := by decide +kernel
theorem dX6_getsIn_22 : decode cX6_getsIn 22 = .ok (.iload_n 1, 1) := by decide +kernel
theorem dX6_getsIn_23 : decode cX6_getsIn 23 = .ok (.iand, 1) := by decide +kernel
theorem dX6_getsIn_24 : decode cX6_getsIn 24 = .ok (.ifCond .eq 9, 3) := by decide +kernel
theorem dX6_getsIn_27 : decode cX6_getsIn 27 = .ok (.iconst 1, 1) := by decide +kernel
theorem dX6_getsIn_28 : decode cX6_getsIn 28 = .ok (.iload_n 3, 1) := by decide +kernel
theorem dX6_getsIn_29 : decode cX6_getsIn 29 = .ok (.ishl, 1) := by decide +kernel
theorem dX6_getsIn_30 : decode cX6_getsIn 30 = .ok (.goto 4, 3) := by decide +kernel
theorem dX6_getsIn_33 : decode cX6_getsIn 33 = .ok (.iconst 0, 1) := by decide +kernel
theorem dX6_getsIn_34 : decode cX6_getsIn 34 = .ok (.ior, 1) := by decide +kernel
theorem dX6_getsIn_35 : decode cX6_getsIn 35 = .ok (.istore_n 2, 1) := by decide +kernel
theorem dX6_getsIn_36 : decode cX6_getsIn 36 = .ok (.iinc 3 1, 3) := by decide +kernel
theorem dX6_getsIn_39 : decode cX6_getsIn 39 = .ok (.goto (-35), 3) := by decide +kernel
theorem dX6_getsIn_42 : decode cX6_getsIn 42 = .ok (.iload_n 2, 1) := by decide +kernel
theorem dX6_getsIn_43 : decode cX6_getsIn 43 = .ok (.ireturn, 1) := by decide +kernel
set_option maxHeartbeats 4000000 in
set_option maxRecDepth 100000 in
theorem c_X6_getsIn (E : GE) (l : Launch) (a0 : Nat → Nat) (M0 : Mo) (x1 : Int32) (post : Int32 → Prop) (h : wp_X6_getsIn M0 x1 post) : Met l yX6_getsIn (wz yX6_getsIn cX6_getsIn 4 (some .int)) { frames := 0, cells := 0, slots := 0, locals := 0 } (gPc E [.ref (a0 99), .int x1] (gW [bModel E a0 M0])) (gQi E (gW [bModel E a0 M0]) (fun r (_ : Unit) => post r) (fun (_ : Unit) w => w = gW [bModel E a0 M0])) 0 0 (gIn (gW [bModel E a0 M0])) := by
  unfold wp_X6_getsIn at h
  refine g_of_i (by decide) (Nat.le_of_ble_eq_true rfl) ?_
  intro p e s m below meth c A Q hx hb hml hown ht hE hP hD hret ls hl
  have hK := hE.1
  have hS : va_S A s.heap s.heap [] := va_S.rf
  have hl : lv_has ls 4 [(0, .ref (a0 99)), (1, .int x1)] := hl
  refine lv_iconst (v := 0) hx hb dX6_getsIn_0 (by decide) ?_
  refine lv_istore_n (lv' := [(2, .int 0), (0, .ref (a0 99)), (1, .int x1)]) hx hb dX6_getsIn_1 rfl hl (by decide) rfl (fun ls hl => ?_)
  refine lv_iconst (v := 0) hx hb dX6_getsIn_2 (by decide) ?_
  refine lv_istore_n (lv' := [(3, .int 0), (2, .int 0), (0, .ref (a0 99)), (1, .int x1)]) hx hb dX6_getsIn_3 rfl hl (by decide) rfl (fun ls hl => ?_)
  have L4 : ∀ (n4 : Nat) (x2_4 : Int32) (x3_4 : Int32) (H : Heap) (locs : List Loc) (ls : Array Slot), wp_X6_getsIn_L4 post x1 M0 n4 x2_4 x3_4 → gP E (gW [bModel E a0 M0]) H → va_D A (gW [bModel E a0 M0]) → va_S A s.heap H locs → lv_has ls 4 [(0, .ref (a0 99)), (1, .int x1), (2, .int x2_4), (3, .int x3_4)] → W p l e { frames := 0, cells := 0, slots := 0, locals := 0 } s m ([.ref (a0 99), .int x1] : List Value).toArray below meth c H locs 0 0 Q (F0 m 4 ls []) := by
    intro n4
    induction n4 with
    | zero => intro x2_4 x3_4 H locs ls h; exact h.elim
    | succ n4 ih4 =>
      intro x2_4 x3_4 H locs ls h hP hD hS hl
      rw [wp_X6_getsIn_L4] at h
      refine lv_iload_n hx hb dX6_getsIn_4 rfl (lv_at hl 3 rfl) ?_
      refine lv_aload_n hx hb dX6_getsIn_5 rfl (lv_at hl 0 rfl) ?_
      refine va_get (D := (E.1, E.2.1)) (ci := 6) (v := .int (M0.1.1 0)) (C := RX6) (T := TX6) (N := 26) hx hb ht wu_X6 hown hK hP 0 rfl rfl 0 (by decide) (ht _ wk_X6_7) (fun _ h9 => h9) rfl dX6_getsIn_6 ?_
      refine lv_icmp_ge (tgt := 42) hx hb dX6_getsIn_9 (by decide) (fun c_3 => ?_) (fun c_3 => ?_)
      · have h := h.1 c_3
        refine lv_iload_n hx hb dX6_getsIn_42 rfl (lv_at hl 2 rfl) ?_
        exact hret x2_4 () _ _ _ _ _ h rfl hP hD hS dX6_getsIn_43
      · have h := h.2 c_3
        refine lv_iload_n hx hb dX6_getsIn_12 rfl (lv_at hl 2 rfl) ?_
        refine lv_aload_n hx hb dX6_getsIn_13 rfl (lv_at hl 0 rfl) ?_
        refine va_get (D := (E.1, E.2.1)) (ci := 6) (v := .ref (a0 7)) (C := RX6) (T := TX6) (N := 26) hx hb ht wu_X6 hown hK hP 0 rfl rfl 7 (by decide) (ht _ wk_X6_23) (fun _ h9 => h9) rfl dX6_getsIn_14 ?_
        refine lv_bipush (v := 26) hx hb dX6_getsIn_17 (by decide) ?_
        refine lv_iload_n hx hb dX6_getsIn_19 rfl (lv_at hl 3 rfl) ?_
        refine lv_iadd hx hb dX6_getsIn_20 ?_
        refine va_iald hx hb hK hP 4 0 rfl rfl h.1 dX6_getsIn_21 ?_
        have h := h.2
        refine lv_iload_n hx hb dX6_getsIn_22 rfl (lv_at hl 1 rfl) ?_
        refine lv_iand hx hb dX6_getsIn_23 ?_
        refine lv_if_eq (tgt := 33) hx hb dX6_getsIn_24 (by decide) (fun c_4 => ?_) (fun c_4 => ?_)
        · have h := h.1 c_4
          refine lv_iconst (v := 0) hx hb dX6_getsIn_33 (by decide) ?_
          refine lv_ior hx hb dX6_getsIn_34 ?_
          refine lv_istore_n (lv' := [(2, .int (x2_4 ||| 0)), (0, .ref (a0 99)), (1, .int x1), (3, .int x3_4)]) hx hb dX6_getsIn_35 rfl hl (by decide) rfl (fun ls hl => ?_)
          refine lv_iinc (v := (x3_4 + 1)) (lv' := [(3, .int (x3_4 + 1)), (2, .int (x2_4 ||| 0)), (0, .ref (a0 99)), (1, .int x1)]) hx hb dX6_getsIn_36 hl (k := 3) rfl rfl (by decide) rfl (fun ls hl => ?_)
          refine lv_goto (tgt := 4) hx hb dX6_getsIn_39 (by decide) ?_
          exact ih4 (x2_4 ||| 0) (x3_4 + 1) _ _ _ h hP hD hS (lv_sub hl [2, 3, 1, 0] rfl)
        · have h := h.2 c_4
          refine lv_iconst (v := 1) hx hb dX6_getsIn_27 (by decide) ?_
          refine lv_iload_n hx hb dX6_getsIn_28 rfl (lv_at hl 3 rfl) ?_
          refine lv_ishl hx hb dX6_getsIn_29 ?_
          refine lv_goto (tgt := 34) hx hb dX6_getsIn_30 (by decide) ?_
          refine lv_ior hx hb dX6_getsIn_34 ?_
          refine lv_istore_n (lv' := [(2, .int (x2_4 ||| ((1 : Int32) <<< (x3_4 &&& 31)))), (0, .ref (a0 99)), (1, .int x1), (3, .int x3_4)]) hx hb dX6_getsIn_35 rfl hl (by decide) rfl (fun ls hl => ?_)
          refine lv_iinc (v := (x3_4 + 1)) (lv' := [(3, .int (x3_4 + 1)), (2, .int (x2_4 ||| ((1 : Int32) <<< (x3_4 &&& 31)))), (0, .ref (a0 99)), (1, .int x1)]) hx hb dX6_getsIn_36 hl (k := 3) rfl rfl (by decide) rfl (fun ls hl => ?_)
          refine lv_goto (tgt := 4) hx hb dX6_getsIn_39 (by decide) ?_
          exact ih4 (x2_4 ||| ((1 : Int32) <<< (x3_4 &&& 31))) (x3_4 + 1) _ _ _ h hP hD hS (lv_sub hl [2, 3, 1, 0] rfl)
  obtain ⟨n4, h⟩ := h
  exact L4 n4 0 0 _ _ _ h hP hD hS (lv_sub hl [2, 3, 1, 0] rfl)
theorem dX6_canShut_0 : decode cX6_canShut 0 = .ok (.aload_n 0, 1) := by decide +kernel
theorem dX6_canShut_1 : decode cX6_canShut 1 = .ok (.getfield 23, 3) := by decide +kernel
theorem dX6_canShut_4 : decode cX6_canShut 4 = .ok (.bipush 9, 2) := by decide +kernel
theorem dX6_canShut_6 : decode cX6_canShut 6 = .ok (.iaload, 1) := by decide +kernel
theorem dX6_canShut_7 : decode cX6_canShut 7 = .ok (.bipush (-9), 2) := by decide +kernel
theorem dX6_canShut_9 : decode cX6_canShut 9 = .ok (.if_icmp .eq 37, 3) := by decide +kernel
theorem dX6_canShut_12 : decode cX6_canShut 12 = .ok (.aload_n 0, 1) := by decide +kernel
theorem dX6_canShut_13 : decode cX6_canShut 13 = .ok (.iload_n 1, 1) := by decide +kernel
theorem dX6_canShut_14 : decode cX6_canShut 14 = .ok (.invokevirtual 129, 3) := by decide +kernel
theorem dX6_canShut_17 : decode cX6_canShut 17 = .ok (.ifCond .eq 29, 3) := by decide +kernel
theorem dX6_canShut_20 : decode cX6_canShut 20 = .ok (.iload_n 1, 1) := by decide +kernel
theorem dX6_canShut_21 : decode cX6_canShut 21 = .ok (.aload_n 0, 1) := by decide +kernel
theorem dX6_canShut_22 : decode cX6_canShut 22 = .ok (.getfield 23, 3) := by decide +kernel
theorem dX6_canShut_25 : decode cX6_canShut 25 = .ok (.bipush 9, 2) := by decide +kernel
theorem dX6_canShut_27 : decode cX6_canShut 27 = .ok (.iaload, 1) := by decide +kernel
theorem dX6_canShut_28 : decode cX6_canShut 28 = .ok (.if_icmp .ne 14, 3) := by decide +kernel
theorem dX6_canShut_31 : decode cX6_canShut 31 = .ok (.aload_n 0, 1) := by decide +kernel
theorem dX6_canShut_32 : decode cX6_canShut 32 = .ok (.getfield 23, 3) := by decide +kernel
theorem dX6_canShut_35 : decode cX6_canShut 35 = .ok (.bipush 8, 2) := by decide +kernel
theorem dX6_canShut_37 : decode cX6_canShut 37 = .ok (.iaload, 1) := by decide +kernel
theorem dX6_canShut_38 : decode cX6_canShut 38 = .ok (.iconst 1, 1) := by decide +kernel
theorem dX6_canShut_39 : decode cX6_canShut 39 = .ok (.if_icmp .ne 7, 3) := by decide +kernel
theorem dX6_canShut_42 : decode cX6_canShut 42 = .ok (.iconst 1, 1) := by decide +kernel
theorem dX6_canShut_43 : decode cX6_canShut 43 = .ok (.goto 4, 3) := by decide +kernel
theorem dX6_canShut_46 : decode cX6_canShut 46 = .ok (.iconst 0, 1) := by decide +kernel
theorem dX6_canShut_47 : decode cX6_canShut 47 = .ok (.ireturn, 1) := by decide +kernel
set_option maxHeartbeats 4000000 in
set_option maxRecDepth 100000 in
theorem c_X6_canShut (E : GE) (l : Launch) (a0 : Nat → Nat) (M0 : Mo) (x1 : Int32) (post : Int32 → Prop) (h : wp_X6_canShut M0 x1 post) : Met l yX6_canShut (wz yX6_canShut cX6_canShut 2 (some .boolean)) { frames := 2, cells := 0, slots := 0, locals := 44 } (gPc E [.ref (a0 99), .int x1] (gW [bModel E a0 M0])) (gQi E (gW [bModel E a0 M0]) (fun r (_ : Unit) => post r) (fun (_ : Unit) w => w = gW [bModel E a0 M0])) 0 0 (gIn (gW [bModel E a0 M0])) := by
  unfold wp_X6_canShut at h
  refine g_of_z (by decide) (Nat.le_of_ble_eq_true rfl) ?_
  intro p e s m below meth c A Q hx hb hml hown ht hE hP hD hret ls hl
  have hK := hE.1
  have hS : va_S A s.heap s.heap [] := va_S.rf
  have hl : lv_has ls 2 [(0, .ref (a0 99)), (1, .int x1)] := hl
  refine lv_aload_n hx hb dX6_canShut_0 rfl (lv_at hl 0 rfl) ?_
  refine va_get (D := (E.1, E.2.1)) (ci := 6) (v := .ref (a0 7)) (C := RX6) (T := TX6) (N := 26) hx hb ht wu_X6 hown hK hP 0 rfl rfl 7 (by decide) (ht _ wk_X6_23) (fun _ h9 => h9) rfl dX6_canShut_1 ?_
  refine lv_bipush (v := 9) hx hb dX6_canShut_4 (by decide) ?_
  refine va_iald hx hb hK hP 4 0 rfl rfl (by unfold vp_in; decide) dX6_canShut_6 ?_
  refine lv_asi (x' := (M0.1.2 7 9)) rfl ?_
  refine lv_bipush (v := (-9)) hx hb dX6_canShut_7 (by decide) ?_
  refine lv_icmp_eq (tgt := 46) hx hb dX6_canShut_9 (by decide) (fun c_1 => ?_) (fun c_1 => ?_)
  · have h := h.1 c_1
    refine lv_iconst (v := 0) hx hb dX6_canShut_46 (by decide) ?_
    exact hret 0 () _ _ _ _ _ rfl h rfl hP hD hS dX6_canShut_47
  · have h := h.2 c_1
    refine lv_aload_n hx hb dX6_canShut_12 rfl (lv_at hl 0 rfl) ?_
    refine lv_iload_n hx hb dX6_canShut_13 rfl (lv_at hl 1 rfl) ?_
    have p1 := gB (n := 1) (bs := [bModel E a0 M0]) (bc := [bModel E a0 M0]) (br := []) [0] rfl rfl (by decide)
    refine g_i (g_runV (As := [.int x1]) (rest := []) ⟨hx, hb, hml, hown, ht⟩ hE (c_X6_isRing E l a0 M0 x1 _ h) ⟨rfl, rfl⟩ wk_X6_129 wi_X6_isRing ws_X6_isRing wn_X6 wc_X6_isRing yd_X6_isRing ⟨Nat.le_of_ble_eq_true rfl, Nat.le_of_ble_eq_true rfl⟩ hP hD p1 (ci := 6) rfl rfl rfl rfl rfl hl.1 rfl (lv_room (Nat.le_of_ble_eq_true rfl)) dX6_canShut_14 ⟨Nat.zero_le _, Nat.zero_le _⟩) hP hD hS p1 (fun r_2 _ w H locs h hw hP hD hS => ?_)
    subst hw
    clear p1
    have p2 := gB (n := 1) (bs := [bModel E a0 M0]) (bc := [bModel E a0 M0]) (br := []) [0] rfl rfl (by decide)
    have hP := gP_perm p2.symm hP
    have hD := gD_perm p2.symm hD
    clear p2
    refine lv_if_eq (tgt := 46) hx hb dX6_canShut_17 (by decide) (fun c_3 => ?_) (fun c_3 => ?_)
    · have h := h.1 c_3
      refine lv_iconst (v := 0) hx hb dX6_canShut_46 (by decide) ?_
      exact hret 0 () _ _ _ _ _ rfl h rfl hP hD hS dX6_canShut_47
    · have h := h.2 c_3
      refine lv_iload_n hx hb dX6_canShut_20 rfl (lv_at hl 1 rfl) ?_
      refine lv_aload_n hx hb dX6_canShut_21 rfl (lv_at hl 0 rfl) ?_
      refine va_get (D := (E.1, E.2.1)) (ci := 6) (v := .ref (a0 7)) (C := RX6) (T := TX6) (N := 26) hx hb ht wu_X6 hown hK hP 0 rfl rfl 7 (by decide) (ht _ wk_X6_23) (fun _ h9 => h9) rfl dX6_canShut_22 ?_
      refine lv_bipush (v := 9) hx hb dX6_canShut_25 (by decide) ?_
      refine va_iald hx hb hK hP 4 0 rfl rfl (by unfold vp_in; decide) dX6_canShut_27 ?_
      refine lv_asi (x' := (M0.1.2 7 9)) rfl ?_
      refine lv_icmp_ne (tgt := 42) hx hb dX6_canShut_28 (by decide) (fun c_4 => ?_) (fun c_4 => ?_)
      · have h := h.1 c_4
        refine lv_iconst (v := 1) hx hb dX6_canShut_42 (by decide) ?_
        refine lv_goto (tgt := 47) hx hb dX6_canShut_43 (by decide) ?_
        exact hret 1 () _ _ _ _ _ rfl h rfl hP hD hS dX6_canShut_47
      · have h := h.2 c_4
        refine lv_aload_n hx hb dX6_canShut_31 rfl (lv_at hl 0 rfl) ?_
        refine va_get (D := (E.1, E.2.1)) (ci := 6) (v := .ref (a0 7)) (C := RX6) (T := TX6) (N := 26) hx hb ht wu_X6 hown hK hP 0 rfl rfl 7 (by decide) (ht _ wk_X6_23) (fun _ h9 => h9) rfl dX6_canShut_32 ?_
        refine lv_bipush (v := 8) hx hb dX6_canShut_35 (by decide) ?_
        refine va_iald hx hb hK hP 4 0 rfl rfl (by unfold vp_in; decide) dX6_canShut_37 ?_
        refine lv_asi (x' := (M0.1.2 7 8)) rfl ?_
        refine lv_iconst (v := 1) hx hb dX6_canShut_38 (by decide) ?_
        refine lv_icmp_ne (tgt := 46) hx hb dX6_canShut_39 (by decide) (fun c_5 => ?_) (fun c_5 => ?_)
        · have h := h.1 c_5
          refine lv_iconst (v := 0) hx hb dX6_canShut_46 (by decide) ?_
          exact hret 0 () _ _ _ _ _ rfl h rfl hP hD hS dX6_canShut_47
        · have h := h.2 c_5
          refine lv_iconst (v := 1) hx hb dX6_canShut_42 (by decide) ?_
          refine lv_goto (tgt := 47) hx hb dX6_canShut_43 (by decide) ?_
          exact hret 1 () _ _ _ _ _ rfl h rfl hP hD hS dX6_canShut_47
theorem dX6_besideBy_0 : decode cX6_besideBy 0 = .ok (.iconst 0, 1) := by decide +kernel
theorem dX6_besideBy_1 : decode cX6_besideBy 1 = .ok (.istore_n 2, 1) := by decide +kernel
theorem dX6_besideBy_2 : decode cX6_besideBy 2 = .ok (.aload_n 0, 1) := by decide +kernel
theorem dX6_besideBy_3 : decode cX6_besideBy 3 = .ok (.aload_n 0, 1) := by decide +kernel
theorem dX6_besideBy_4 : decode cX6_besideBy 4 = .ok (.getfield 23, 3) := by decide +kernel
theorem dX6_besideBy_7 : decode cX6_besideBy 7 = .ok (.bipush 9, 2) := by decide +kernel
theorem dX6_besideBy_9 : decode cX6_besideBy 9 = .ok (.iaload, 1) := by decide +kernel
theorem dX6_besideBy_10 : decode cX6_besideBy 10 = .ok (.invokevirtual 121, 3) := by decide +kernel
theorem dX6_besideBy_13 : decode cX6_besideBy 13 = .ok (.istore_n 3, 1) := by decide +kernel
theorem dX6_besideBy_14 : decode cX6_besideBy 14 = .ok (.iconst 1, 1) := by decide +kernel
theorem dX6_besideBy_15 : decode cX6_besideBy 15 = .ok (.istore 4, 2) := by decide +kernel
theorem dX6_besideBy_17 : decode cX6_besideBy 17 = .ok (.iload 4, 2) := by decide +kernel
theorem dX6_besideBy_19 : decode cX6_besideBy 19 = .ok (.aload_n 0, 1) := by decide +kernel
theorem dX6_besideBy_20 : decode cX6_besideBy 20 = .ok (.getfield 23, 3) := by decide +kernel
theorem dX6_besideBy_23 : decode cX6_besideBy 23 = .ok (.bipush 8, 2) := by decide +kernel
theorem dX6_besideBy_25 : decode cX6_besideBy 25 = .ok (.iaload, 1) := by decide +kernel
theorem dX6_besideBy_26 : decode cX6_besideBy 26 = .ok (.if_icmp .ge 43, 3) := by decide +kernel
theorem dX6_besideBy_29 : decode cX6_besideBy 29 = .ok (.aload_n 0, 1) := by decide +kernel
theorem dX6_besideBy_30 : decode cX6_besideBy 30 = .ok (.getfield 23, 3) := by decide +kernel
theorem dX6_besideBy_33 : decode cX6_besideBy 33 = .ok (.iload_n 3, 1) := by decide +kernel
theorem dX6_besideBy_34 : decode cX6_besideBy 34 = .ok (.iload 4, 2) := by decide +kernel
theorem dX6_besideBy_36 : decode cX6_besideBy 36 = .ok (.iadd, 1) := by decide +kernel
theorem dX6_besideBy_37 : decode cX6_besideBy 37 = .ok (.aload_n 0, 1) := by decide +kernel
theorem dX6_besideBy_38 : decode cX6_besideBy 38 = .ok (.getfield 23, 3) := by decide +kernel
theorem dX6_besideBy_41 : decode cX6_besideBy 41 = .ok (.bipush 8, 2) := by decide +kernel
theorem dX6_besideBy_43 : decode cX6_besideBy 43 = .ok (.iaload, 1) := by decide +kernel
theorem dX6_besideBy_44 : decode cX6_besideBy 44 = .ok (.irem, 1) := by decide +kernel
theorem dX6_besideBy_45 : decode cX6_besideBy 45 = .ok (.iaload, 1) := by decide +kernel
theorem dX6_besideBy_46 : decode cX6_besideBy 46 = .ok (.istore 5, 2) := by decide +kernel
theorem dX6_besideBy_48 : decode cX6_besideBy 48 = .ok (.iload 5, 2) := by decide +kernel
theorem dX6_besideBy_50 : decode cX6_besideBy 50 = .ok (.iload_n 1, 1) := by decide +kernel
theorem dX6_besideBy_51 : decode cX6_besideBy 51 = .ok (.if_icmp .ne 5, 3) := by decide +kernel
theorem dX6_besideBy_54 : decode cX6_besideBy 54 = .ok (.iload_n 2, 1) := by decide +kernel
theorem dX6_besideBy_55 : decode cX6_besideBy 55 = .ok (.ireturn, 1) := by decide +kernel
theorem dX6_besideBy_56 : decode cX6_besideBy 56 = .ok (.iload_n 2, 1) := by decide +kernel
theorem dX6_besideBy_57 : decode cX6_besideBy 57 = .ok (.iconst 1, 1) := by decide +kernel
theorem dX6_besideBy_58 : decode cX6_besideBy 58 = .ok (.iload 5, 2) := by decide +kernel
theorem dX6_besideBy_60 : decode cX6_besideBy 60 = .ok (.ishl, 1) := by decide +kernel
theorem dX6_besideBy_61 : decode cX6_besideBy 61 = .ok (.ior, 1) := by decide +kernel
theorem dX6_besideBy_62 : decode cX6_besideBy 62 = .ok (.istore_n 2, 1) := by decide +kernel
theorem dX6_besideBy_63 : decode cX6_besideBy 63 = .ok (.iinc 4 1, 3) := by decide +kernel
theorem dX6_besideBy_66 : decode cX6_besideBy 66 = .ok (.goto (-49), 3) := by decide +kernel
theorem dX6_besideBy_69 : decode cX6_besideBy 69 = .ok (.iload_n 2, 1) := by decide +kernel
theorem dX6_besideBy_70 : decode cX6_besideBy 70 = .ok (.ireturn, 1) := by decide +kernel
set_option maxHeartbeats 4000000 in
set_option maxRecDepth 100000 in
theorem c_X6_besideBy (E : GE) (l : Launch) (a0 : Nat → Nat) (M0 : Mo) (x1 : Int32) (post : Int32 → Prop) (h : wp_X6_besideBy M0 x1 post) : Met l yX6_besideBy (wz yX6_besideBy cX6_besideBy 6 (some .int)) { frames := 1, cells := 0, slots := 0, locals := 23 } (gPc E [.ref (a0 99), .int x1] (gW [bModel E a0 M0])) (gQi E (gW [bModel E a0 M0]) (fun r (_ : Unit) => post r) (fun (_ : Unit) w => w = gW [bModel E a0 M0])) 0 0 (gIn (gW [bModel E a0 M0])) := by
  unfold wp_X6_besideBy at h
  refine g_of_i (by decide) (Nat.le_of_ble_eq_true rfl) ?_
  intro p e s m below meth c A Q hx hb hml hown ht hE hP hD hret ls hl
  have hK := hE.1
  have hS : va_S A s.heap s.heap [] := va_S.rf
  have hl : lv_has ls 6 [(0, .ref (a0 99)), (1, .int x1)] := hl
  refine lv_iconst (v := 0) hx hb dX6_besideBy_0 (by decide) ?_
  refine lv_istore_n (lv' := [(2, .int 0), (0, .ref (a0 99)), (1, .int x1)]) hx hb dX6_besideBy_1 rfl hl (by decide) rfl (fun ls hl => ?_)
  refine lv_aload_n hx hb dX6_besideBy_2 rfl (lv_at hl 1 rfl) ?_
  refine lv_aload_n hx hb dX6_besideBy_3 rfl (lv_at hl 1 rfl) ?_
  refine va_get (D := (E.1, E.2.1)) (ci := 6) (v := .ref (a0 7)) (C := RX6) (T := TX6) (N := 26) hx hb ht wu_X6 hown hK hP 0 rfl rfl 7 (by decide) (ht _ wk_X6_23) (fun _ h9 => h9) rfl dX6_besideBy_4 ?_
  refine lv_bipush (v := 9) hx hb dX6_besideBy_7 (by decide) ?_
  refine va_iald hx hb hK hP 4 0 rfl rfl (by unfold vp_in; decide) dX6_besideBy_9 ?_
  refine lv_asi (x' := (M0.1.2 7 9)) rfl ?_
  have p1 := gB (n := 1) (bs := [bModel E a0 M0]) (bc := [bModel E a0 M0]) (br := []) [0] rfl rfl (by decide)
  refine g_i (g_runV (As := [.int (M0.1.2 7 9)]) (rest := []) ⟨hx, hb, hml, hown, ht⟩ hE (c_X6_placeOf E l a0 M0 (M0.1.2 7 9) _ h) ⟨rfl, rfl⟩ wk_X6_121 wi_X6_placeOf ws_X6_placeOf wn_X6 wc_X6_placeOf yd_X6_placeOf ⟨Nat.le_of_ble_eq_true rfl, Nat.le_of_ble_eq_true rfl⟩ hP hD p1 (ci := 6) rfl rfl rfl rfl rfl hl.1 rfl (lv_room (Nat.le_of_ble_eq_true rfl)) dX6_besideBy_10 ⟨Nat.zero_le _, Nat.zero_le _⟩) hP hD hS p1 (fun r_1 _ w H locs h hw hP hD hS => ?_)
  subst hw
  clear p1
  have p2 := gB (n := 1) (bs := [bModel E a0 M0]) (bc := [bModel E a0 M0]) (br := []) [0] rfl rfl (by decide)
  have hP := gP_perm p2.symm hP
  have hD := gD_perm p2.symm hD
  clear p2
  refine lv_istore_n (lv' := [(3, .int r_1), (2, .int 0), (0, .ref (a0 99)), (1, .int x1)]) hx hb dX6_besideBy_13 rfl hl (by decide) rfl (fun ls hl => ?_)
  refine lv_iconst (v := 1) hx hb dX6_besideBy_14 (by decide) ?_
  refine lv_istore (lv' := [(4, .int 1), (3, .int r_1), (2, .int 0), (0, .ref (a0 99)), (1, .int x1)]) hx hb dX6_besideBy_15 hl (by decide) rfl (fun ls hl => ?_)
  have L17 : ∀ (n17 : Nat) (x2_17 : Int32) (x4_17 : Int32) (H : Heap) (locs : List Loc) (ls : Array Slot), wp_X6_besideBy_L17 post x1 r_1 M0 n17 x2_17 x4_17 → gP E (gW [bModel E a0 M0]) H → va_D A (gW [bModel E a0 M0]) → va_S A s.heap H locs → lv_has ls 6 [(0, .ref (a0 99)), (1, .int x1), (2, .int x2_17), (3, .int r_1), (4, .int x4_17)] → W p l e { frames := 1, cells := 0, slots := 0, locals := 23 } s m ([.ref (a0 99), .int x1] : List Value).toArray below meth c H locs 0 0 Q (F0 m 17 ls []) := by
    intro n17
    induction n17 with
    | zero => intro x2_17 x4_17 H locs ls h; exact h.elim
    | succ n17 ih17 =>
      intro x2_17 x4_17 H locs ls h hP hD hS hl
      rw [wp_X6_besideBy_L17] at h
      refine lv_iload hx hb dX6_besideBy_17 (lv_at hl 4 rfl) ?_
      refine lv_aload_n hx hb dX6_besideBy_19 rfl (lv_at hl 0 rfl) ?_
      refine va_get (D := (E.1, E.2.1)) (ci := 6) (v := .ref (a0 7)) (C := RX6) (T := TX6) (N := 26) hx hb ht wu_X6 hown hK hP 0 rfl rfl 7 (by decide) (ht _ wk_X6_23) (fun _ h9 => h9) rfl dX6_besideBy_20 ?_
      refine lv_bipush (v := 8) hx hb dX6_besideBy_23 (by decide) ?_
      refine va_iald hx hb hK hP 4 0 rfl rfl (by unfold vp_in; decide) dX6_besideBy_25 ?_
      refine lv_asi (x' := (M0.1.2 7 8)) rfl ?_
      refine lv_icmp_ge (tgt := 69) hx hb dX6_besideBy_26 (by decide) (fun c_5 => ?_) (fun c_5 => ?_)
      · have h := h.1 c_5
        refine lv_iload_n hx hb dX6_besideBy_69 rfl (lv_at hl 2 rfl) ?_
        exact hret x2_17 () _ _ _ _ _ h rfl hP hD hS dX6_besideBy_70
      · have h := h.2 c_5
        refine lv_aload_n hx hb dX6_besideBy_29 rfl (lv_at hl 0 rfl) ?_
        refine va_get (D := (E.1, E.2.1)) (ci := 6) (v := .ref (a0 7)) (C := RX6) (T := TX6) (N := 26) hx hb ht wu_X6 hown hK hP 0 rfl rfl 7 (by decide) (ht _ wk_X6_23) (fun _ h9 => h9) rfl dX6_besideBy_30 ?_
        refine lv_iload_n hx hb dX6_besideBy_33 rfl (lv_at hl 3 rfl) ?_
        refine lv_iload hx hb dX6_besideBy_34 (lv_at hl 4 rfl) ?_
        refine lv_iadd hx hb dX6_besideBy_36 ?_
        refine lv_aload_n hx hb dX6_besideBy_37 rfl (lv_at hl 0 rfl) ?_
        refine va_get (D := (E.1, E.2.1)) (ci := 6) (v := .ref (a0 7)) (C := RX6) (T := TX6) (N := 26) hx hb ht wu_X6 hown hK hP 0 rfl rfl 7 (by decide) (ht _ wk_X6_23) (fun _ h9 => h9) rfl dX6_besideBy_38 ?_
        refine lv_bipush (v := 8) hx hb dX6_besideBy_41 (by decide) ?_
        refine va_iald hx hb hK hP 4 0 rfl rfl (by unfold vp_in; decide) dX6_besideBy_43 ?_
        refine lv_asi (x' := (M0.1.2 7 8)) rfl ?_
        refine lv_irem hx hb dX6_besideBy_44 h.1 ?_
        have h := h.2
        refine va_iald hx hb hK hP 4 0 rfl rfl h.1 dX6_besideBy_45 ?_
        have h := h.2
        refine lv_topi (fun y_6 ey_6 => ?_)
        have h := h y_6 ey_6
        refine lv_istore (lv' := [(5, .int y_6), (0, .ref (a0 99)), (1, .int x1), (2, .int x2_17), (3, .int r_1), (4, .int x4_17)]) hx hb dX6_besideBy_46 hl (by decide) rfl (fun ls hl => ?_)
        refine lv_iload hx hb dX6_besideBy_48 (lv_at hl 0 rfl) ?_
        refine lv_iload_n hx hb dX6_besideBy_50 rfl (lv_at hl 2 rfl) ?_
        refine lv_icmp_ne (tgt := 56) hx hb dX6_besideBy_51 (by decide) (fun c_7 => ?_) (fun c_7 => ?_)
        · have h := h.1 c_7
          refine lv_iload_n hx hb dX6_besideBy_56 rfl (lv_at hl 3 rfl) ?_
          refine lv_iconst (v := 1) hx hb dX6_besideBy_57 (by decide) ?_
          refine lv_iload hx hb dX6_besideBy_58 (lv_at hl 0 rfl) ?_
          refine lv_ishl hx hb dX6_besideBy_60 ?_
          refine lv_ior hx hb dX6_besideBy_61 ?_
          refine lv_istore_n (lv' := [(2, .int (x2_17 ||| ((1 : Int32) <<< (y_6 &&& 31)))), (5, .int y_6), (0, .ref (a0 99)), (1, .int x1), (3, .int r_1), (4, .int x4_17)]) hx hb dX6_besideBy_62 rfl hl (by decide) rfl (fun ls hl => ?_)
          refine lv_iinc (v := (x4_17 + 1)) (lv' := [(4, .int (x4_17 + 1)), (2, .int (x2_17 ||| ((1 : Int32) <<< (y_6 &&& 31)))), (5, .int y_6), (0, .ref (a0 99)), (1, .int x1), (3, .int r_1)]) hx hb dX6_besideBy_63 hl (k := 5) rfl rfl (by decide) rfl (fun ls hl => ?_)
          refine lv_goto (tgt := 17) hx hb dX6_besideBy_66 (by decide) ?_
          exact ih17 (x2_17 ||| ((1 : Int32) <<< (y_6 &&& 31))) (x4_17 + 1) _ _ _ h hP hD hS (lv_sub hl [3, 4, 1, 5, 0] rfl)
        · have h := h.2 c_7
          refine lv_iload_n hx hb dX6_besideBy_54 rfl (lv_at hl 3 rfl) ?_
          exact hret x2_17 () _ _ _ _ _ h rfl hP hD hS dX6_besideBy_55
  obtain ⟨n17, h⟩ := h
  exact L17 n17 0 1 _ _ _ h hP hD hS (lv_sub hl [3, 4, 2, 1, 0] rfl)
theorem dX6_leftBy_0 : decode cX6_leftBy 0 = .ok (.aload_n 0, 1) := by decide +kernel
theorem dX6_leftBy_1 : decode cX6_leftBy 1 = .ok (.iload_n 1, 1) := by decide +kernel
theorem dX6_leftBy_2 : decode cX6_leftBy 2 = .ok (.invokevirtual 132, 3) := by decide +kernel
theorem dX6_leftBy_5 : decode cX6_leftBy 5 = .ok (.ifCond .eq 33, 3) := by decide +kernel
theorem dX6_leftBy_8 : decode cX6_leftBy 8 = .ok (.aload_n 0, 1) := by decide +kernel
theorem dX6_leftBy_9 : decode cX6_leftBy 9 = .ok (.aload_n 0, 1) := by decide +kernel
theorem dX6_leftBy_10 : decode cX6_leftBy 10 = .ok (.invokevirtual 135, 3) := by decide +kernel
theorem dX6_leftBy_13 : decode cX6_leftBy 13 = .ok (.invokevirtual 139, 3) := by decide +kernel
theorem dX6_leftBy_16 : decode cX6_leftBy 16 = .ok (.aload_n 0, 1) := by decide +kernel
theorem dX6_leftBy_17 : decode cX6_leftBy 17 = .ok (.aload_n 0, 1) := by decide +kernel
theorem dX6_leftBy_18 : decode cX6_leftBy 18 = .ok (.invokevirtual 135, 3) := by decide +kernel
theorem dX6_leftBy_21 : decode cX6_leftBy 21 = .ok (.aload_n 0, 1) := by decide +kernel
theorem dX6_leftBy_22 : decode cX6_leftBy 22 = .ok (.iload_n 1, 1) := by decide +kernel
theorem dX6_leftBy_23 : decode cX6_leftBy 23 = .ok (.invokevirtual 142, 3) := by decide +kernel
theorem dX6_leftBy_26 : decode cX6_leftBy 26 = .ok (.iconst (-1), 1) := by decide +kernel
theorem dX6_leftBy_27 : decode cX6_leftBy 27 = .ok (.ixor, 1) := by decide +kernel
theorem dX6_leftBy_28 : decode cX6_leftBy 28 = .ok (.iand, 1) := by decide +kernel
theorem dX6_leftBy_29 : decode cX6_leftBy 29 = .ok (.invokevirtual 139, 3) := by decide +kernel
theorem dX6_leftBy_32 : decode cX6_leftBy 32 = .ok (.iconst (-1), 1) := by decide +kernel
theorem dX6_leftBy_33 : decode cX6_leftBy 33 = .ok (.ixor, 1) := by decide +kernel
theorem dX6_leftBy_34 : decode cX6_leftBy 34 = .ok (.iand, 1) := by decide +kernel
theorem dX6_leftBy_35 : decode cX6_leftBy 35 = .ok (.goto 5, 3) := by decide +kernel
theorem dX6_leftBy_38 : decode cX6_leftBy 38 = .ok (.bipush (-9), 2) := by decide +kernel
theorem dX6_leftBy_40 : decode cX6_leftBy 40 = .ok (.ireturn, 1) := by decide +kernel
set_option maxHeartbeats 4000000 in
set_option maxRecDepth 100000 in
theorem c_X6_leftBy (E : GE) (l : Launch) (a0 : Nat → Nat) (M0 : Mo) (x1 : Int32) (post : Int32 → Prop) (h : wp_X6_leftBy M0 x1 post) : Met l yX6_leftBy (wz yX6_leftBy cX6_leftBy 2 (some .int)) { frames := 3, cells := 0, slots := 0, locals := 65 } (gPc E [.ref (a0 99), .int x1] (gW [bModel E a0 M0])) (gQi E (gW [bModel E a0 M0]) (fun r (_ : Unit) => post r) (fun (_ : Unit) w => w = gW [bModel E a0 M0])) 0 0 (gIn (gW [bModel E a0 M0])) := by
  unfold wp_X6_leftBy at h
  refine g_of_i (by decide) (Nat.le_of_ble_eq_true rfl) ?_
  intro p e s m below meth c A Q hx hb hml hown ht hE hP hD hret ls hl
  have hK := hE.1
  have hS : va_S A s.heap s.heap [] := va_S.rf
  have hl : lv_has ls 2 [(0, .ref (a0 99)), (1, .int x1)] := hl
  refine lv_aload_n hx hb dX6_leftBy_0 rfl (lv_at hl 0 rfl) ?_
  refine lv_iload_n hx hb dX6_leftBy_1 rfl (lv_at hl 1 rfl) ?_
  have p1 := gB (n := 1) (bs := [bModel E a0 M0]) (bc := [bModel E a0 M0]) (br := []) [0] rfl rfl (by decide)
  refine g_i (g_runV (As := [.int x1]) (rest := []) ⟨hx, hb, hml, hown, ht⟩ hE (c_X6_canShut E l a0 M0 x1 _ h) ⟨rfl, rfl⟩ wk_X6_132 wi_X6_canShut ws_X6_canShut wn_X6 wc_X6_canShut yd_X6_canShut ⟨Nat.le_of_ble_eq_true rfl, Nat.le_of_ble_eq_true rfl⟩ hP hD p1 (ci := 6) rfl rfl rfl rfl rfl hl.1 rfl (lv_room (Nat.le_of_ble_eq_true rfl)) dX6_leftBy_2 ⟨Nat.zero_le _, Nat.zero_le _⟩) hP hD hS p1 (fun r_1 _ w H locs h hw hP hD hS => ?_)
  subst hw
  clear p1
  have p2 := gB (n := 1) (bs := [bModel E a0 M0]) (bc := [bModel E a0 M0]) (br := []) [0] rfl rfl (by decide)
  have hP := gP_perm p2.symm hP
  have hD := gD_perm p2.symm hD
  clear p2
  refine lv_if_eq (tgt := 38) hx hb dX6_leftBy_5 (by decide) (fun c_2 => ?_) (fun c_2 => ?_)
  · have h := h.1 c_2
    refine lv_bipush (v := (-9)) hx hb dX6_leftBy_38 (by decide) ?_
    exact hret (-9) () _ _ _ _ _ h rfl hP hD hS dX6_leftBy_40
  · have h := h.2 c_2
    refine lv_aload_n hx hb dX6_leftBy_8 rfl (lv_at hl 0 rfl) ?_
    refine lv_aload_n hx hb dX6_leftBy_9 rfl (lv_at hl 0 rfl) ?_
    have p1 := gB (n := 1) (bs := [bModel E a0 M0]) (bc := [bModel E a0 M0]) (br := []) [0] rfl rfl (by decide)
    refine g_i (g_runV (As := []) (rest := [.ref (a0 99)]) ⟨hx, hb, hml, hown, ht⟩ hE (c_X6_ring E l a0 M0 _ h) ⟨rfl, rfl⟩ wk_X6_135 wi_X6_ring ws_X6_ring wn_X6 wc_X6_ring yd_X6_ring ⟨Nat.le_of_ble_eq_true rfl, Nat.le_of_ble_eq_true rfl⟩ hP hD p1 (ci := 6) rfl rfl rfl rfl rfl hl.1 rfl (lv_room (Nat.le_of_ble_eq_true rfl)) dX6_leftBy_10 ⟨Nat.zero_le _, Nat.zero_le _⟩) hP hD hS p1 (fun r_3 _ w H locs h hw hP hD hS => ?_)
    subst hw
    clear p1
    have p2 := gB (n := 1) (bs := [bModel E a0 M0]) (bc := [bModel E a0 M0]) (br := []) [0] rfl rfl (by decide)
    have hP := gP_perm p2.symm hP
    have hD := gD_perm p2.symm hD
    clear p2
    have p1 := gB (n := 1) (bs := [bModel E a0 M0]) (bc := [bModel E a0 M0]) (br := []) [0] rfl rfl (by decide)
    refine g_i (g_runV (As := [.int r_3]) (rest := []) ⟨hx, hb, hml, hown, ht⟩ hE (c_X6_getsIn E l a0 M0 r_3 _ h) ⟨rfl, rfl⟩ wk_X6_139 wi_X6_getsIn ws_X6_getsIn wn_X6 wc_X6_getsIn yd_X6_getsIn ⟨Nat.le_of_ble_eq_true rfl, Nat.le_of_ble_eq_true rfl⟩ hP hD p1 (ci := 6) rfl rfl rfl rfl rfl hl.1 rfl (lv_room (Nat.le_of_ble_eq_true rfl)) dX6_leftBy_13 ⟨Nat.zero_le _, Nat.zero_le _⟩) hP hD hS p1 (fun r_4 _ w H locs h hw hP hD hS => ?_)
    subst hw
    clear p1
    have p2 := gB (n := 1) (bs := [bModel E a0 M0]) (bc := [bModel E a0 M0]) (br := []) [0] rfl rfl (by decide)
    have hP := gP_perm p2.symm hP
    have hD := gD_perm p2.symm hD
    clear p2
    refine lv_aload_n hx hb dX6_leftBy_16 rfl (lv_at hl 0 rfl) ?_
    refine lv_aload_n hx hb dX6_leftBy_17 rfl (lv_at hl 0 rfl) ?_
    have p1 := gB (n := 1) (bs := [bModel E a0 M0]) (bc := [bModel E a0 M0]) (br := []) [0] rfl rfl (by decide)
    refine g_i (g_runV (As := []) (rest := [.ref (a0 99), .int r_4]) ⟨hx, hb, hml, hown, ht⟩ hE (c_X6_ring E l a0 M0 _ h) ⟨rfl, rfl⟩ wk_X6_135 wi_X6_ring ws_X6_ring wn_X6 wc_X6_ring yd_X6_ring ⟨Nat.le_of_ble_eq_true rfl, Nat.le_of_ble_eq_true rfl⟩ hP hD p1 (ci := 6) rfl rfl rfl rfl rfl hl.1 rfl (lv_room (Nat.le_of_ble_eq_true rfl)) dX6_leftBy_18 ⟨Nat.zero_le _, Nat.zero_le _⟩) hP hD hS p1 (fun r_5 _ w H locs h hw hP hD hS => ?_)
    subst hw
    clear p1
    have p2 := gB (n := 1) (bs := [bModel E a0 M0]) (bc := [bModel E a0 M0]) (br := []) [0] rfl rfl (by decide)
    have hP := gP_perm p2.symm hP
    have hD := gD_perm p2.symm hD
    clear p2
    refine lv_aload_n hx hb dX6_leftBy_21 rfl (lv_at hl 0 rfl) ?_
    refine lv_iload_n hx hb dX6_leftBy_22 rfl (lv_at hl 1 rfl) ?_
    have p1 := gB (n := 1) (bs := [bModel E a0 M0]) (bc := [bModel E a0 M0]) (br := []) [0] rfl rfl (by decide)
    refine g_i (g_runV (As := [.int x1]) (rest := [.int r_5, .ref (a0 99), .int r_4]) ⟨hx, hb, hml, hown, ht⟩ hE (c_X6_besideBy E l a0 M0 x1 _ h) ⟨rfl, rfl⟩ wk_X6_142 wi_X6_besideBy ws_X6_besideBy wn_X6 wc_X6_besideBy yd_X6_besideBy ⟨Nat.le_of_ble_eq_true rfl, Nat.le_of_ble_eq_true rfl⟩ hP hD p1 (ci := 6) rfl rfl rfl rfl rfl hl.1 rfl (lv_room (Nat.le_of_ble_eq_true rfl)) dX6_leftBy_23 ⟨Nat.zero_le _, Nat.zero_le _⟩) hP hD hS p1 (fun r_6 _ w H locs h hw hP hD hS => ?_)
    subst hw
    clear p1
    have p2 := gB (n := 1) (bs := [bModel E a0 M0]) (bc := [bModel E a0 M0]) (br := []) [0] rfl rfl (by decide)
    have hP := gP_perm p2.symm hP
    have hD := gD_perm p2.symm hD
    clear p2
    refine lv_iconst (v := (-1)) hx hb dX6_leftBy_26 (by decide) ?_
    refine lv_ixor hx hb dX6_leftBy_27 ?_
    refine lv_iand hx hb dX6_leftBy_28 ?_
    have p1 := gB (n := 1) (bs := [bModel E a0 M0]) (bc := [bModel E a0 M0]) (br := []) [0] rfl rfl (by decide)
    refine g_i (g_runV (As := [.int (r_5 &&& (r_6 ^^^ (-1)))]) (rest := [.int r_4]) ⟨hx, hb, hml, hown, ht⟩ hE (c_X6_getsIn E l a0 M0 (r_5 &&& (r_6 ^^^ (-1))) _ h) ⟨rfl, rfl⟩ wk_X6_139 wi_X6_getsIn ws_X6_getsIn wn_X6 wc_X6_getsIn yd_X6_getsIn ⟨Nat.le_of_ble_eq_true rfl, Nat.le_of_ble_eq_true rfl⟩ hP hD p1 (ci := 6) rfl rfl rfl rfl rfl hl.1 rfl (lv_room (Nat.le_of_ble_eq_true rfl)) dX6_leftBy_29 ⟨Nat.zero_le _, Nat.zero_le _⟩) hP hD hS p1 (fun r_7 _ w H locs h hw hP hD hS => ?_)
    subst hw
    clear p1
    have p2 := gB (n := 1) (bs := [bModel E a0 M0]) (bc := [bModel E a0 M0]) (br := []) [0] rfl rfl (by decide)
    have hP := gP_perm p2.symm hP
    have hD := gD_perm p2.symm hD
    clear p2
    refine lv_iconst (v := (-1)) hx hb dX6_leftBy_32 (by decide) ?_
    refine lv_ixor hx hb dX6_leftBy_33 ?_
    refine lv_iand hx hb dX6_leftBy_34 ?_
    refine lv_goto (tgt := 40) hx hb dX6_leftBy_35 (by decide) ?_
    exact hret (r_4 &&& (r_7 ^^^ (-1))) () _ _ _ _ _ h rfl hP hD hS dX6_leftBy_40
theorem dX6_figure_0 : decode cX6_figure 0 = .ok (.iload_n 1, 1) := by decide +kernel
theorem dX6_figure_1 : decode cX6_figure 1 = .ok (.ifCond .ne 10, 3) := by decide +kernel
theorem dX6_figure_4 : decode cX6_figure 4 = .ok (.iload_n 0, 1) := by decide +kernel
theorem dX6_figure_5 : decode cX6_figure 5 = .ok (.bipush 10, 2) := by decide +kernel
theorem dX6_figure_7 : decode cX6_figure 7 = .ok (.irem, 1) := by decide +kernel
theorem dX6_figure_8 : decode cX6_figure 8 = .ok (.goto 22, 3) := by decide +kernel
theorem dX6_figure_11 : decode cX6_figure 11 = .ok (.iload_n 1, 1) := by decide +kernel
theorem dX6_figure_12 : decode cX6_figure 12 = .ok (.iconst 1, 1) := by decide +kernel
theorem dX6_figure_13 : decode cX6_figure 13 = .ok (.if_icmp .ne 13, 3) := by decide +kernel
theorem dX6_figure_16 : decode cX6_figure 16 = .ok (.iload_n 0, 1) := by decide +kernel
theorem dX6_figure_17 : decode cX6_figure 17 = .ok (.bipush 10, 2) := by decide +kernel
theorem dX6_figure_19 : decode cX6_figure 19 = .ok (.idiv, 1) := by decide +kernel
theorem dX6_figure_20 : decode cX6_figure 20 = .ok (.bipush 10, 2) := by decide +kernel
theorem dX6_figure_22 : decode cX6_figure 22 = .ok (.irem, 1) := by decide +kernel
theorem dX6_figure_23 : decode cX6_figure 23 = .ok (.goto 7, 3) := by decide +kernel
theorem dX6_figure_26 : decode cX6_figure 26 = .ok (.iload_n 0, 1) := by decide +kernel
theorem dX6_figure_27 : decode cX6_figure 27 = .ok (.bipush 100, 2) := by decide +kernel
theorem dX6_figure_29 : decode cX6_figure 29 = .ok (.idiv, 1) := by decide +kernel
theorem dX6_figure_30 : decode cX6_figure 30 = .ok (.ireturn, 1) := by decide +kernel
set_option maxHeartbeats 4000000 in
set_option maxRecDepth 100000 in
theorem c_X6_figure (E : GE) (l : Launch) (x0 : Int32) (x1 : Int32) (post : Int32 → Prop) (h : wp_X6_figure x0 x1 post) : Met l yX6_figure (wz yX6_figure cX6_figure 2 (some .int)) { frames := 0, cells := 0, slots := 0, locals := 0 } (gPc E [.int x0, .int x1] (gW [])) (gQi E (gW []) (fun r (_ : Unit) => post r) (fun (_ : Unit) w => w = gW [])) 0 0 (gIn (gW [])) := by
  unfold wp_X6_figure at h
  refine g_of_i (by decide) (Nat.le_of_ble_eq_true rfl) ?_
  intro p e s m below meth c A Q hx hb hml hown ht hE hP hD hret ls hl
  have hK := hE.1
  have hS : va_S A s.heap s.heap [] := va_S.rf
  have hl : lv_has ls 2 [(0, .int x0), (1, .int x1)] := hl
  refine lv_iload_n hx hb dX6_figure_0 rfl (lv_at hl 1 rfl) ?_
  refine lv_if_ne (tgt := 11) hx hb dX6_figure_1 (by decide) (fun c_1 => ?_) (fun c_1 => ?_)
  · have h := h.1 c_1
    refine lv_iload_n hx hb dX6_figure_11 rfl (lv_at hl 1 rfl) ?_
    refine lv_iconst (v := 1) hx hb dX6_figure_12 (by decide) ?_
    refine lv_icmp_ne (tgt := 26) hx hb dX6_figure_13 (by decide) (fun c_2 => ?_) (fun c_2 => ?_)
    · have h := h.1 c_2
      refine lv_iload_n hx hb dX6_figure_26 rfl (lv_at hl 0 rfl) ?_
      refine lv_bipush (v := 100) hx hb dX6_figure_27 (by decide) ?_
      refine lv_idiv hx hb dX6_figure_29 (by decide) ?_
      exact hret (x0 / 100) () _ _ _ _ _ h rfl hP hD hS dX6_figure_30
    · have h := h.2 c_2
      refine lv_iload_n hx hb dX6_figure_16 rfl (lv_at hl 0 rfl) ?_
      refine lv_bipush (v := 10) hx hb dX6_figure_17 (by decide) ?_
      refine lv_idiv hx hb dX6_figure_19 (by decide) ?_
      refine lv_bipush (v := 10) hx hb dX6_figure_20 (by decide) ?_
      refine lv_irem hx hb dX6_figure_22 (by decide) ?_
      refine lv_goto (tgt := 30) hx hb dX6_figure_23 (by decide) ?_
      exact hret ((x0 / 10) - (x0 / 10) / 10 * 10) () _ _ _ _ _ h rfl hP hD hS dX6_figure_30
  · have h := h.2 c_1
    refine lv_iload_n hx hb dX6_figure_4 rfl (lv_at hl 0 rfl) ?_
    refine lv_bipush (v := 10) hx hb dX6_figure_5 (by decide) ?_
    refine lv_irem hx hb dX6_figure_7 (by decide) ?_
    refine lv_goto (tgt := 30) hx hb dX6_figure_8 (by decide) ?_
    exact hret (x0 - x0 / 10 * 10) () _ _ _ _ _ h rfl hP hD hS dX6_figure_30
theorem dX6_stepsOf_0 : decode cX6_stepsOf 0 = .ok (.iconst 0, 1) := by decide +kernel
theorem dX6_stepsOf_1 : decode cX6_stepsOf 1 = .ok (.istore_n 2, 1) := by decide +kernel
theorem dX6_stepsOf_2 : decode cX6_stepsOf 2 = .ok (.iconst 0, 1) := by decide +kernel
theorem dX6_stepsOf_3 : decode cX6_stepsOf 3 = .ok (.istore_n 3, 1) := by decide +kernel
theorem dX6_stepsOf_4 : decode cX6_stepsOf 4 = .ok (.iload_n 3, 1) := by decide +kernel
theorem dX6_stepsOf_5 : decode cX6_stepsOf 5 = .ok (.iconst 3, 1) := by decide +kernel
theorem dX6_stepsOf_6 : decode cX6_stepsOf 6 = .ok (.if_icmp .ge 56, 3) := by decide +kernel
theorem dX6_stepsOf_9 : decode cX6_stepsOf 9 = .ok (.iload_n 0, 1) := by decide +kernel
theorem dX6_stepsOf_10 : decode cX6_stepsOf 10 = .ok (.iload_n 3, 1) := by decide +kernel
theorem dX6_stepsOf_11 : decode cX6_stepsOf 11 = .ok (.invokestatic 145, 3) := by decide +kernel
theorem dX6_stepsOf_14 : decode cX6_stepsOf 14 = .ok (.iload_n 1, 1) := by decide +kernel
theorem dX6_stepsOf_15 : decode cX6_stepsOf 15 = .ok (.iload_n 3, 1) := by decide +kernel
theorem dX6_stepsOf_16 : decode cX6_stepsOf 16 = .ok (.invokestatic 145, 3) := by decide +kernel
theorem dX6_stepsOf_19 : decode cX6_stepsOf 19 = .ok (.isub, 1) := by decide +kernel
theorem dX6_stepsOf_20 : decode cX6_stepsOf 20 = .ok (.istore 4, 2) := by decide +kernel
theorem dX6_stepsOf_22 : decode cX6_stepsOf 22 = .ok (.iload 4, 2) := by decide +kernel
theorem dX6_stepsOf_24 : decode cX6_stepsOf 24 = .ok (.ifCond .ge 9, 3) := by decide +kernel
theorem dX6_stepsOf_27 : decode cX6_stepsOf 27 = .ok (.iload 4, 2) := by decide +kernel
theorem dX6_stepsOf_29 : decode cX6_stepsOf 29 = .ok (.ineg, 1) := by decide +kernel
theorem dX6_stepsOf_30 : decode cX6_stepsOf 30 = .ok (.goto 5, 3) := by decide +kernel
theorem dX6_stepsOf_33 : decode cX6_stepsOf 33 = .ok (.iload 4, 2) := by decide +kernel
theorem dX6_stepsOf_35 : decode cX6_stepsOf 35 = .ok (.istore 4, 2) := by decide +kernel
theorem dX6_stepsOf_37 : decode cX6_stepsOf 37 = .ok (.iload_n 2, 1) := by decide +kernel
theorem dX6_stepsOf_38 : decode cX6_stepsOf 38 = .ok (.iload 4, 2) := by decide +kernel
theorem dX6_stepsOf_40 : decode cX6_stepsOf 40 = .ok (.iconst 5, 1) := by decide +kernel
theorem dX6_stepsOf_41 : decode cX6_stepsOf 41 = .ok (.if_icmp .le 11, 3) := by decide +kernel
theorem dX6_stepsOf_44 : decode cX6_stepsOf 44 = .ok (.bipush 10, 2) := by decide +kernel
theorem dX6_stepsOf_46 : decode cX6_stepsOf 46 = .ok (.iload 4, 2) := by decide +kernel
theorem dX6_stepsOf_48 : decode cX6_stepsOf 48 = .ok (.isub, 1) := by decide +kernel
theorem dX6_stepsOf_49 : decode cX6_stepsOf 49 = .ok (.goto 5, 3) := by decide +kernel
theorem dX6_stepsOf_52 : decode cX6_stepsOf 52 = .ok (.iload 4, 2) := by decide +kernel
theorem dX6_stepsOf_54 : decode cX6_stepsOf 54 = .ok (.iadd, 1) := by decide +kernel
theorem dX6_stepsOf_55 : decode cX6_stepsOf 55 = .ok (.istore_n 2, 1) := by decide +kernel
theorem dX6_stepsOf_56 : decode cX6_stepsOf 56 = .ok (.iinc 3 1, 3) := by decide +kernel
theorem dX6_stepsOf_59 : decode cX6_stepsOf 59 = .ok (.goto (-55), 3) := by decide +kernel
theorem dX6_stepsOf_62 : decode cX6_stepsOf 62 = .ok (.iload_n 2, 1) := by decide +kernel
theorem dX6_stepsOf_63 : decode cX6_stepsOf 63 = .ok (.ireturn, 1) := by decide +kernel
set_option maxHeartbeats 4000000 in
set_option maxRecDepth 100000 in
theorem c_X6_stepsOf (E : GE) (l : Launch) (x0 : Int32) (x1 : Int32) (post : Int32 → Prop) (h : wp_X6_stepsOf x0 x1 post) : Met l yX6_stepsOf (wz yX6_stepsOf cX6_stepsOf 5 (some .int)) { frames := 1, cells := 0, slots := 0, locals := 21 } (gPc E [.int x0, .int x1] (gW [])) (gQi E (gW []) (fun r (_ : Unit) => post r) (fun (_ : Unit) w => w = gW [])) 0 0 (gIn (gW [])) := by
  unfold wp_X6_stepsOf at h
  refine g_of_i (by decide) (Nat.le_of_ble_eq_true rfl) ?_
  intro p e s m below meth c A Q hx hb hml hown ht hE hP hD hret ls hl
  have hK := hE.1
  have hS : va_S A s.heap s.heap [] := va_S.rf
  have hl : lv_has ls 5 [(0, .int x0), (1, .int x1)] := hl
  refine lv_iconst (v := 0) hx hb dX6_stepsOf_0 (by decide) ?_
  refine lv_istore_n (lv' := [(2, .int 0), (0, .int x0), (1, .int x1)]) hx hb dX6_stepsOf_1 rfl hl (by decide) rfl (fun ls hl => ?_)
  refine lv_iconst (v := 0) hx hb dX6_stepsOf_2 (by decide) ?_
  refine lv_istore_n (lv' := [(3, .int 0), (2, .int 0), (0, .int x0), (1, .int x1)]) hx hb dX6_stepsOf_3 rfl hl (by decide) rfl (fun ls hl => ?_)
  have L4 : ∀ (n4 : Nat) (x2_4 : Int32) (x3_4 : Int32) (H : Heap) (locs : List Loc) (ls : Array Slot), wp_X6_stepsOf_L4 post x0 x1 n4 x2_4 x3_4 → gP E (gW []) H → va_D A (gW []) → va_S A s.heap H locs → lv_has ls 5 [(0, .int x0), (1, .int x1), (2, .int x2_4), (3, .int x3_4)] → W p l e { frames := 1, cells := 0, slots := 0, locals := 21 } s m ([.int x0, .int x1] : List Value).toArray below meth c H locs 0 0 Q (F0 m 4 ls []) := by
    intro n4
    induction n4 with
    | zero => intro x2_4 x3_4 H locs ls h; exact h.elim
    | succ n4 ih4 =>
      intro x2_4 x3_4 H locs ls h hP hD hS hl
      rw [wp_X6_stepsOf_L4] at h
      have J35 : ∀ (x2_j35 : Int32) (x3_j35 : Int32) (x4_j35 : Int32) (t0_j35 : Int32) (H : Heap) (locs : List Loc) (ls : Array Slot), wp_X6_stepsOf_J35 post (fun x2_4 x3_4 => (wp_X6_stepsOf_L4 post x0 x1 n4 x2_4 x3_4)) x0 x1 x2_j35 x3_j35 x4_j35 t0_j35 → gP E (gW []) H → va_D A (gW []) → va_S A s.heap H locs → lv_has ls 5 [(0, .int x0), (1, .int x1), (2, .int x2_j35), (3, .int x3_j35), (4, .int x4_j35)] → W p l e { frames := 1, cells := 0, slots := 0, locals := 21 } s m ([.int x0, .int x1] : List Value).toArray below meth c H locs 0 0 Q (F0 m 35 ls [.int t0_j35]) := by
        intro x2_j35 x3_j35 x4_j35 t0_j35 H locs ls h hP hD hS hl
        unfold wp_X6_stepsOf_J35 at h
        refine lv_istore (lv' := [(4, .int t0_j35), (0, .int x0), (1, .int x1), (2, .int x2_j35), (3, .int x3_j35)]) hx hb dX6_stepsOf_35 hl (by decide) rfl (fun ls hl => ?_)
        refine lv_iload_n hx hb dX6_stepsOf_37 rfl (lv_at hl 3 rfl) ?_
        refine lv_iload hx hb dX6_stepsOf_38 (lv_at hl 0 rfl) ?_
        refine lv_iconst (v := 5) hx hb dX6_stepsOf_40 (by decide) ?_
        refine lv_icmp_le (tgt := 52) hx hb dX6_stepsOf_41 (by decide) (fun c_6 => ?_) (fun c_6 => ?_)
        · have h := h.1 c_6
          refine lv_iload hx hb dX6_stepsOf_52 (lv_at hl 0 rfl) ?_
          refine lv_iadd hx hb dX6_stepsOf_54 ?_
          refine lv_istore_n (lv' := [(2, .int (x2_j35 + t0_j35)), (4, .int t0_j35), (0, .int x0), (1, .int x1), (3, .int x3_j35)]) hx hb dX6_stepsOf_55 rfl hl (by decide) rfl (fun ls hl => ?_)
          refine lv_iinc (v := (x3_j35 + 1)) (lv' := [(3, .int (x3_j35 + 1)), (2, .int (x2_j35 + t0_j35)), (4, .int t0_j35), (0, .int x0), (1, .int x1)]) hx hb dX6_stepsOf_56 hl (k := 4) rfl rfl (by decide) rfl (fun ls hl => ?_)
          refine lv_goto (tgt := 4) hx hb dX6_stepsOf_59 (by decide) ?_
          exact ih4 (x2_j35 + t0_j35) (x3_j35 + 1) _ _ _ h hP hD hS (lv_sub hl [3, 4, 1, 0] rfl)
        · have h := h.2 c_6
          refine lv_bipush (v := 10) hx hb dX6_stepsOf_44 (by decide) ?_
          refine lv_iload hx hb dX6_stepsOf_46 (lv_at hl 0 rfl) ?_
          refine lv_isub hx hb dX6_stepsOf_48 ?_
          refine lv_goto (tgt := 54) hx hb dX6_stepsOf_49 (by decide) ?_
          refine lv_iadd hx hb dX6_stepsOf_54 ?_
          refine lv_istore_n (lv' := [(2, .int (x2_j35 + (10 - t0_j35))), (4, .int t0_j35), (0, .int x0), (1, .int x1), (3, .int x3_j35)]) hx hb dX6_stepsOf_55 rfl hl (by decide) rfl (fun ls hl => ?_)
          refine lv_iinc (v := (x3_j35 + 1)) (lv' := [(3, .int (x3_j35 + 1)), (2, .int (x2_j35 + (10 - t0_j35))), (4, .int t0_j35), (0, .int x0), (1, .int x1)]) hx hb dX6_stepsOf_56 hl (k := 4) rfl rfl (by decide) rfl (fun ls hl => ?_)
          refine lv_goto (tgt := 4) hx hb dX6_stepsOf_59 (by decide) ?_
          exact ih4 (x2_j35 + (10 - t0_j35)) (x3_j35 + 1) _ _ _ h hP hD hS (lv_sub hl [3, 4, 1, 0] rfl)
      refine lv_iload_n hx hb dX6_stepsOf_4 rfl (lv_at hl 3 rfl) ?_
      refine lv_iconst (v := 3) hx hb dX6_stepsOf_5 (by decide) ?_
      refine lv_icmp_ge (tgt := 62) hx hb dX6_stepsOf_6 (by decide) (fun c_7 => ?_) (fun c_7 => ?_)
      · have h := h.1 c_7
        refine lv_iload_n hx hb dX6_stepsOf_62 rfl (lv_at hl 2 rfl) ?_
        exact hret x2_4 () _ _ _ _ _ h rfl hP hD hS dX6_stepsOf_63
      · have h := h.2 c_7
        refine lv_iload_n hx hb dX6_stepsOf_9 rfl (lv_at hl 0 rfl) ?_
        refine lv_iload_n hx hb dX6_stepsOf_10 rfl (lv_at hl 3 rfl) ?_
        have p1 := gB (n := 0) (bs := []) (bc := []) (br := []) [] rfl rfl (by decide)
        refine g_i (g_runS (As := [.int x0, .int x3_4]) (rest := []) ⟨hx, hb, hml, hown, ht⟩ hE (c_X6_figure E l x0 x3_4 _ h) ⟨rfl, rfl⟩ wk_X6_145 wt_X6_figure wn_X6 wc_X6_figure yd_X6_figure ⟨Nat.le_of_ble_eq_true rfl, Nat.le_of_ble_eq_true rfl⟩ hP hD p1 rfl rfl hl.1 rfl (lv_room (Nat.le_of_ble_eq_true rfl)) dX6_stepsOf_11 ⟨Nat.zero_le _, Nat.zero_le _⟩) hP hD hS p1 (fun r_8 _ w H locs h hw hP hD hS => ?_)
        subst hw
        clear p1
        have p2 := gB (n := 0) (bs := []) (bc := []) (br := []) [] rfl rfl (by decide)
        have hP := gP_perm p2.symm hP
        have hD := gD_perm p2.symm hD
        clear p2
        refine lv_iload_n hx hb dX6_stepsOf_14 rfl (lv_at hl 1 rfl) ?_
        refine lv_iload_n hx hb dX6_stepsOf_15 rfl (lv_at hl 3 rfl) ?_
        have p1 := gB (n := 0) (bs := []) (bc := []) (br := []) [] rfl rfl (by decide)
        refine g_i (g_runS (As := [.int x1, .int x3_4]) (rest := [.int r_8]) ⟨hx, hb, hml, hown, ht⟩ hE (c_X6_figure E l x1 x3_4 _ h) ⟨rfl, rfl⟩ wk_X6_145 wt_X6_figure wn_X6 wc_X6_figure yd_X6_figure ⟨Nat.le_of_ble_eq_true rfl, Nat.le_of_ble_eq_true rfl⟩ hP hD p1 rfl rfl hl.1 rfl (lv_room (Nat.le_of_ble_eq_true rfl)) dX6_stepsOf_16 ⟨Nat.zero_le _, Nat.zero_le _⟩) hP hD hS p1 (fun r_9 _ w H locs h hw hP hD hS => ?_)
        subst hw
        clear p1
        have p2 := gB (n := 0) (bs := []) (bc := []) (br := []) [] rfl rfl (by decide)
        have hP := gP_perm p2.symm hP
        have hD := gD_perm p2.symm hD
        clear p2
        refine lv_isub hx hb dX6_stepsOf_19 ?_
        refine lv_istore (lv' := [(4, .int (r_8 - r_9)), (0, .int x0), (1, .int x1), (2, .int x2_4), (3, .int x3_4)]) hx hb dX6_stepsOf_20 hl (by decide) rfl (fun ls hl => ?_)
        refine lv_iload hx hb dX6_stepsOf_22 (lv_at hl 0 rfl) ?_
        refine lv_if_ge (tgt := 33) hx hb dX6_stepsOf_24 (by decide) (fun c_10 => ?_) (fun c_10 => ?_)
        · have h := h.1 c_10
          refine lv_iload hx hb dX6_stepsOf_33 (lv_at hl 0 rfl) ?_
          exact J35 x2_4 x3_4 (r_8 - r_9) (r_8 - r_9) _ _ _ h hP hD hS (lv_sub hl [1, 2, 3, 4, 0] rfl)
        · have h := h.2 c_10
          refine lv_iload hx hb dX6_stepsOf_27 (lv_at hl 0 rfl) ?_
          refine lv_ineg hx hb dX6_stepsOf_29 ?_
          refine lv_goto (tgt := 35) hx hb dX6_stepsOf_30 (by decide) ?_
          exact J35 x2_4 x3_4 (r_8 - r_9) (-(r_8 - r_9)) _ _ _ h hP hD hS (lv_sub hl [1, 2, 3, 4, 0] rfl)
  obtain ⟨n4, h⟩ := h
  exact L4 n4 0 0 _ _ _ h hP hD hS (lv_sub hl [2, 3, 1, 0] rfl)
theorem dX6_rightOf_0 : decode cX6_rightOf 0 = .ok (.iconst 0, 1) := by decide +kernel
theorem dX6_rightOf_1 : decode cX6_rightOf 1 = .ok (.istore_n 2, 1) := by decide +kernel
theorem dX6_rightOf_2 : decode cX6_rightOf 2 = .ok (.iconst 0, 1) := by decide +kernel
theorem dX6_rightOf_3 : decode cX6_rightOf 3 = .ok (.istore_n 3, 1) := by decide +kernel
theorem dX6_rightOf_4 : decode cX6_rightOf 4 = .ok (.iload_n 3, 1) := by decide +kernel
theorem dX6_rightOf_5 : decode cX6_rightOf 5 = .ok (.iconst 3, 1) := by decide +kernel
theorem dX6_rightOf_6 : decode cX6_rightOf 6 = .ok (.if_icmp .ge 30, 3) := by decide +kernel
theorem dX6_rightOf_9 : decode cX6_rightOf 9 = .ok (.iload_n 2, 1) := by decide +kernel
theorem dX6_rightOf_10 : decode cX6_rightOf 10 = .ok (.iload_n 0, 1) := by decide +kernel
theorem dX6_rightOf_11 : decode cX6_rightOf 11 = .ok (.iload_n 3, 1) := by decide +kernel
theorem dX6_rightOf_12 : decode cX6_rightOf 12 = .ok (.invokestatic 145, 3) := by decide +kernel
theorem dX6_rightOf_15 : decode cX6_rightOf 15 = .ok (.iload_n 1, 1) := by decide +kernel
theorem dX6_rightOf_16 : decode cX6_rightOf 16 = .ok (.iload_n 3, 1) := by decide +kernel
theorem dX6_rightOf_17 : decode cX6_rightOf 17 = .ok (.invokestatic 145, 3) := by decide +kernel
theorem dX6_rightOf_20 : decode cX6_rightOf 20 = .ok (.if_icmp .ne 7, 3) := by decide +kernel
theorem dX6_rightOf_23 : decode cX6_rightOf 23 = .ok (.iconst 1, 1) := by decide +kernel
theorem dX6_rightOf_24 : decode cX6_rightOf 24 = .ok (.goto 4, 3) := by decide +kernel
theorem dX6_rightOf_27 : decode cX6_rightOf 27 = .ok (.iconst 0, 1) := by decide +kernel
theorem dX6_rightOf_28 : decode cX6_rightOf 28 = .ok (.iadd, 1) := by decide +kernel
theorem dX6_rightOf_29 : decode cX6_rightOf 29 = .ok (.istore_n 2, 1) := by decide +kernel
theorem dX6_rightOf_30 : decode cX6_rightOf 30 = .ok (.iinc 3 1, 3) := by decide +kernel
theorem dX6_rightOf_33 : decode cX6_rightOf 33 = .ok (.goto (-29), 3) := by decide +kernel
theorem dX6_rightOf_36 : decode cX6_rightOf 36 = .ok (.iload_n 2, 1) := by decide +kernel
theorem dX6_rightOf_37 : decode cX6_rightOf 37 = .ok (.ireturn, 1) := by decide +kernel
set_option maxHeartbeats 4000000 in
set_option maxRecDepth 100000 in
theorem c_X6_rightOf (E : GE) (l : Launch) (x0 : Int32) (x1 : Int32) (post : Int32 → Prop) (h : wp_X6_rightOf x0 x1 post) : Met l yX6_rightOf (wz yX6_rightOf cX6_rightOf 4 (some .int)) { frames := 1, cells := 0, slots := 0, locals := 21 } (gPc E [.int x0, .int x1] (gW [])) (gQi E (gW []) (fun r (_ : Unit) => post r) (fun (_ : Unit) w => w = gW [])) 0 0 (gIn (gW [])) := by
  unfold wp_X6_rightOf at h
  refine g_of_i (by decide) (Nat.le_of_ble_eq_true rfl) ?_
  intro p e s m below meth c A Q hx hb hml hown ht hE hP hD hret ls hl
  have hK := hE.1
  have hS : va_S A s.heap s.heap [] := va_S.rf
  have hl : lv_has ls 4 [(0, .int x0), (1, .int x1)] := hl
  refine lv_iconst (v := 0) hx hb dX6_rightOf_0 (by decide) ?_
  refine lv_istore_n (lv' := [(2, .int 0), (0, .int x0), (1, .int x1)]) hx hb dX6_rightOf_1 rfl hl (by decide) rfl (fun ls hl => ?_)
  refine lv_iconst (v := 0) hx hb dX6_rightOf_2 (by decide) ?_
  refine lv_istore_n (lv' := [(3, .int 0), (2, .int 0), (0, .int x0), (1, .int x1)]) hx hb dX6_rightOf_3 rfl hl (by decide) rfl (fun ls hl => ?_)
  have L4 : ∀ (n4 : Nat) (x2_4 : Int32) (x3_4 : Int32) (H : Heap) (locs : List Loc) (ls : Array Slot), wp_X6_rightOf_L4 post x0 x1 n4 x2_4 x3_4 → gP E (gW []) H → va_D A (gW []) → va_S A s.heap H locs → lv_has ls 4 [(0, .int x0), (1, .int x1), (2, .int x2_4), (3, .int x3_4)] → W p l e { frames := 1, cells := 0, slots := 0, locals := 21 } s m ([.int x0, .int x1] : List Value).toArray below meth c H locs 0 0 Q (F0 m 4 ls []) := by
    intro n4
    induction n4 with
    | zero => intro x2_4 x3_4 H locs ls h; exact h.elim
    | succ n4 ih4 =>
      intro x2_4 x3_4 H locs ls h hP hD hS hl
      rw [wp_X6_rightOf_L4] at h
      refine lv_iload_n hx hb dX6_rightOf_4 rfl (lv_at hl 3 rfl) ?_
      refine lv_iconst (v := 3) hx hb dX6_rightOf_5 (by decide) ?_
      refine lv_icmp_ge (tgt := 36) hx hb dX6_rightOf_6 (by decide) (fun c_5 => ?_) (fun c_5 => ?_)
      · have h := h.1 c_5
        refine lv_iload_n hx hb dX6_rightOf_36 rfl (lv_at hl 2 rfl) ?_
        exact hret x2_4 () _ _ _ _ _ h rfl hP hD hS dX6_rightOf_37
      · have h := h.2 c_5
        refine lv_iload_n hx hb dX6_rightOf_9 rfl (lv_at hl 2 rfl) ?_
        refine lv_iload_n hx hb dX6_rightOf_10 rfl (lv_at hl 0 rfl) ?_
        refine lv_iload_n hx hb dX6_rightOf_11 rfl (lv_at hl 3 rfl) ?_
        have p1 := gB (n := 0) (bs := []) (bc := []) (br := []) [] rfl rfl (by decide)
        refine g_i (g_runS (As := [.int x0, .int x3_4]) (rest := [.int x2_4]) ⟨hx, hb, hml, hown, ht⟩ hE (c_X6_figure E l x0 x3_4 _ h) ⟨rfl, rfl⟩ wk_X6_145 wt_X6_figure wn_X6 wc_X6_figure yd_X6_figure ⟨Nat.le_of_ble_eq_true rfl, Nat.le_of_ble_eq_true rfl⟩ hP hD p1 rfl rfl hl.1 rfl (lv_room (Nat.le_of_ble_eq_true rfl)) dX6_rightOf_12 ⟨Nat.zero_le _, Nat.zero_le _⟩) hP hD hS p1 (fun r_6 _ w H locs h hw hP hD hS => ?_)
        subst hw
        clear p1
        have p2 := gB (n := 0) (bs := []) (bc := []) (br := []) [] rfl rfl (by decide)
        have hP := gP_perm p2.symm hP
        have hD := gD_perm p2.symm hD
        clear p2
        refine lv_iload_n hx hb dX6_rightOf_15 rfl (lv_at hl 1 rfl) ?_
        refine lv_iload_n hx hb dX6_rightOf_16 rfl (lv_at hl 3 rfl) ?_
        have p1 := gB (n := 0) (bs := []) (bc := []) (br := []) [] rfl rfl (by decide)
        refine g_i (g_runS (As := [.int x1, .int x3_4]) (rest := [.int r_6, .int x2_4]) ⟨hx, hb, hml, hown, ht⟩ hE (c_X6_figure E l x1 x3_4 _ h) ⟨rfl, rfl⟩ wk_X6_145 wt_X6_figure wn_X6 wc_X6_figure yd_X6_figure ⟨Nat.le_of_ble_eq_true rfl, Nat.le_of_ble_eq_true rfl⟩ hP hD p1 rfl rfl hl.1 rfl (lv_room (Nat.le_of_ble_eq_true rfl)) dX6_rightOf_17 ⟨Nat.zero_le _, Nat.zero_le _⟩) hP hD hS p1 (fun r_7 _ w H locs h hw hP hD hS => ?_)
        subst hw
        clear p1
        have p2 := gB (n := 0) (bs := []) (bc := []) (br := []) [] rfl rfl (by decide)
        have hP := gP_perm p2.symm hP
        have hD := gD_perm p2.symm hD
        clear p2
        refine lv_icmp_ne (tgt := 27) hx hb dX6_rightOf_20 (by decide) (fun c_8 => ?_) (fun c_8 => ?_)
        · have h := h.1 c_8
          refine lv_iconst (v := 0) hx hb dX6_rightOf_27 (by decide) ?_
          refine lv_iadd hx hb dX6_rightOf_28 ?_
          refine lv_istore_n (lv' := [(2, .int (x2_4 + 0)), (0, .int x0), (1, .int x1), (3, .int x3_4)]) hx hb dX6_rightOf_29 rfl hl (by decide) rfl (fun ls hl => ?_)
          refine lv_iinc (v := (x3_4 + 1)) (lv' := [(3, .int (x3_4 + 1)), (2, .int (x2_4 + 0)), (0, .int x0), (1, .int x1)]) hx hb dX6_rightOf_30 hl (k := 3) rfl rfl (by decide) rfl (fun ls hl => ?_)
          refine lv_goto (tgt := 4) hx hb dX6_rightOf_33 (by decide) ?_
          exact ih4 (x2_4 + 0) (x3_4 + 1) _ _ _ h hP hD hS (lv_sub hl [2, 3, 1, 0] rfl)
        · have h := h.2 c_8
          refine lv_iconst (v := 1) hx hb dX6_rightOf_23 (by decide) ?_
          refine lv_goto (tgt := 28) hx hb dX6_rightOf_24 (by decide) ?_
          refine lv_iadd hx hb dX6_rightOf_28 ?_
          refine lv_istore_n (lv' := [(2, .int (x2_4 + 1)), (0, .int x0), (1, .int x1), (3, .int x3_4)]) hx hb dX6_rightOf_29 rfl hl (by decide) rfl (fun ls hl => ?_)
          refine lv_iinc (v := (x3_4 + 1)) (lv' := [(3, .int (x3_4 + 1)), (2, .int (x2_4 + 1)), (0, .int x0), (1, .int x1)]) hx hb dX6_rightOf_30 hl (k := 3) rfl rfl (by decide) rfl (fun ls hl => ?_)
          refine lv_goto (tgt := 4) hx hb dX6_rightOf_33 (by decide) ?_
          exact ih4 (x2_4 + 1) (x3_4 + 1) _ _ _ h hP hD hS (lv_sub hl [2, 3, 1, 0] rfl)
  obtain ⟨n4, h⟩ := h
  exact L4 n4 0 0 _ _ _ h hP hD hS (lv_sub hl [2, 3, 1, 0] rfl)
theorem dX6_lock_0 : decode cX6_lock 0 = .ok (.aload_n 0, 1) := by decide +kernel
theorem dX6_lock_1 : decode cX6_lock 1 = .ok (.iload_n 1, 1) := by decide +kernel
theorem dX6_lock_2 : decode cX6_lock 2 = .ok (.invokevirtual 149, 3) := by decide +kernel
theorem dX6_lock_5 : decode cX6_lock 5 = .ok (.ifCond .ne 5, 3) := by decide +kernel
theorem dX6_lock_8 : decode cX6_lock 8 = .ok (.iconst (-1), 1) := by decide +kernel
theorem dX6_lock_9 : decode cX6_lock 9 = .ok (.ireturn, 1) := by decide +kernel
theorem dX6_lock_10 : decode cX6_lock 10 = .ok (.iload_n 2, 1) := by decide +kernel
theorem dX6_lock_11 : decode cX6_lock 11 = .ok (.tableswitch 133 0 5 #[37, 47, 57, 63, 77, 111], 37) := by decide +kernel
theorem dX6_lock_48 : decode cX6_lock 48 = .ok (.aload_n 0, 1) := by decide +kernel
theorem dX6_lock_49 : decode cX6_lock 49 = .ok (.getfield 23, 3) := by decide +kernel
theorem dX6_lock_52 : decode cX6_lock 52 = .ok (.bipush 10, 2) := by decide +kernel
theorem dX6_lock_54 : decode cX6_lock 54 = .ok (.iload_n 1, 1) := by decide +kernel
theorem dX6_lock_55 : decode cX6_lock 55 = .ok (.iadd, 1) := by decide +kernel
theorem dX6_lock_56 : decode cX6_lock 56 = .ok (.iaload, 1) := by decide +kernel
theorem dX6_lock_57 : decode cX6_lock 57 = .ok (.ireturn, 1) := by decide +kernel
theorem dX6_lock_58 : decode cX6_lock 58 = .ok (.aload_n 0, 1) := by decide +kernel
theorem dX6_lock_59 : decode cX6_lock 59 = .ok (.getfield 23, 3) := by decide +kernel
theorem dX6_lock_62 : decode cX6_lock 62 = .ok (.bipush 18, 2) := by decide +kernel
theorem dX6_lock_64 : decode cX6_lock 64 = .ok (.iload_n 1, 1) := by decide +kernel
theorem dX6_lock_65 : decode cX6_lock 65 = .ok (.iadd, 1) := by decide +kernel
theorem dX6_lock_66 : decode cX6_lock 66 = .ok (.iaload, 1) := by decide +kernel
theorem dX6_lock_67 : decode cX6_lock 67 = .ok (.ireturn, 1) := by decide +kernel
theorem dX6_lock_68 : decode cX6_lock 68 = .ok (.aload_n 0, 1) := by decide +kernel
theorem dX6_lock_69 : decode cX6_lock 69 = .ok (.iload_n 1, 1) := by decide +kernel
theorem dX6_lock_70 : decode cX6_lock 70 = .ok (.invokevirtual 152, 3) := by decide +kernel
theorem dX6_lock_73 : decode cX6_lock 73 = .ok (.ireturn, 1) := by decide +kernel
theorem dX6_lock_74 : decode cX6_lock 74 = .ok (.aload_n 0, 1) := by decide +kernel
theorem dX6_lock_75 : decode cX6_lock 75 = .ok (.iload_n 1, 1) := by decide +kernel
theorem dX6_lock_76 : decode cX6_lock 76 = .ok (.invokevirtual 129, 3) := by decide +kernel
theorem dX6_lock_79 : decode cX6_lock 79 = .ok (.ifCond .eq 7, 3) := by decide +kernel
theorem dX6_lock_82 : decode cX6_lock 82 = .ok (.iconst 1, 1) := by decide +kernel
theorem dX6_lock_83 : decode cX6_lock 83 = .ok (.goto 4, 3) := by decide +kernel
theorem dX6_lock_86 : decode cX6_lock 86 = .ok (.iconst 0, 1) := by decide +kernel
theorem dX6_lock_87 : decode cX6_lock 87 = .ok (.ireturn, 1) := by decide +kernel
theorem dX6_lock_88 : decode cX6_lock 88 = .ok (.aload_n 0, 1) := by decide +kernel
theorem dX6_lock_89 : decode cX6_lock 89 = .ok (.iload_n 1, 1) := by decide +kernel
theorem dX6_lock_90 : decode cX6_lock 90 = .ok (.invokevirtual 129, 3) := by decide +kernel
theorem dX6_lock_93 : decode cX6_lock 93 = .ok (.ifCond .eq 26, 3) := by decide +kernel
theorem dX6_lock_96 : decode cX6_lock 96 = .ok (.aload_n 0, 1) := by decide +kernel
theorem dX6_lock_97 : decode cX6_lock 97 = .ok (.getfield 23, 3) := by decide +kernel
theorem dX6_lock_100 : decode cX6_lock 100 = .ok (.aload_n 0, 1) := by decide +kernel
theorem dX6_lock_101 : decode cX6_lock 101 = .ok (.iload_n 1, 1) := by decide +kernel
theorem dX6_lock_102 : decode cX6_lock 102 = .ok (.invokevirtual 121, 3) := by decide +kernel
theorem dX6_lock_105 : decode cX6_lock 105 = .ok (.iconst 1, 1) := by decide +kernel
theorem dX6_lock_106 : decode cX6_lock 106 = .ok (.iadd, 1) := by decide +kernel
theorem dX6_lock_107 : decode cX6_lock 107 = .ok (.aload_n 0, 1) := by decide +kernel
theorem dX6_lock_108 : decode cX6_lock 108 = .ok (.getfield 23, 3) := by decide +kernel
theorem dX6_lock_111 : decode cX6_lock 111 = .ok (.bipush 8, 2) := by decide +kernel
theorem dX6_lock_113 : decode cX6_lock 113 = .ok (.iaload, 1) := by decide +kernel
theorem dX6_lock_114 : decode cX6_lock 114 = .ok (.irem, 1) := by decide +kernel
theorem dX6_lock_115 : decode cX6_lock 115 = .ok (.iaload, 1) := by decide +kernel
theorem dX6_lock_116 : decode cX6_lock 116 = .ok (.goto 5, 3) := by decide +kernel
theorem dX6_lock_119 : decode cX6_lock 119 = .ok (.bipush (-9), 2) := by decide +kernel
theorem dX6_lock_121 : decode cX6_lock 121 = .ok (.ireturn, 1) := by decide +kernel
theorem dX6_lock_122 : decode cX6_lock 122 = .ok (.aload_n 0, 1) := by decide +kernel
theorem dX6_lock_123 : decode cX6_lock 123 = .ok (.getfield 23, 3) := by decide +kernel
theorem dX6_lock_126 : decode cX6_lock 126 = .ok (.bipush 18, 2) := by decide +kernel
theorem dX6_lock_128 : decode cX6_lock 128 = .ok (.iload_n 1, 1) := by decide +kernel
theorem dX6_lock_129 : decode cX6_lock 129 = .ok (.iadd, 1) := by decide +kernel
theorem dX6_lock_130 : decode cX6_lock 130 = .ok (.iaload, 1) := by decide +kernel
theorem dX6_lock_131 : decode cX6_lock 131 = .ok (.aload_n 0, 1) := by decide +kernel
theorem dX6_lock_132 : decode cX6_lock 132 = .ok (.getfield 23, 3) := by decide +kernel
theorem dX6_lock_135 : decode cX6_lock 135 = .ok (.bipush 10, 2) := by decide +kernel
theorem dX6_lock_137 : decode cX6_lock 137 = .ok (.iload_n 1, 1) := by decide +kernel
theorem dX6_lock_138 : decode cX6_lock 138 = .ok (.iadd, 1) := by decide +kernel
theorem dX6_lock_139 : decode cX6_lock 139 = .ok (.iaload, 1) := by decide +kernel
theorem dX6_lock_140 : decode cX6_lock 140 = .ok (.invokestatic 155, 3) := by decide +kernel
theorem dX6_lock_143 : decode cX6_lock 143 = .ok (.ireturn, 1) := by decide +kernel
theorem dX6_lock_144 : decode cX6_lock 144 = .ok (.iconst (-1), 1) := by decide +kernel
theorem dX6_lock_145 : decode cX6_lock 145 = .ok (.ireturn, 1) := by decide +kernel
set_option maxHeartbeats 4000000 in
set_option maxRecDepth 100000 in
theorem c_X6_lock (E : GE) (l : Launch) (a0 : Nat → Nat) (M0 : Mo) (x1 : Int32) (x2 : Int32) (post : Int32 → Prop) (h : wp_X6_lock M0 x1 x2 post) : Met l yX6_lock (wz yX6_lock cX6_lock 3 (some .int)) { frames := 2, cells := 0, slots := 0, locals := 46 } (gPc E [.ref (a0 99), .int x1, .int x2] (gW [bModel E a0 M0])) (gQi E (gW [bModel E a0 M0]) (fun r (_ : Unit) => post r) (fun (_ : Unit) w => w = gW [bModel E a0 M0])) 0 0 (gIn (gW [bModel E a0 M0])) := by
  unfold wp_X6_lock at h
  refine g_of_i (by decide) (Nat.le_of_ble_eq_true rfl) ?_
  intro p e s m below meth c A Q hx hb hml hown ht hE hP hD hret ls hl
  have hK := hE.1
  have hS : va_S A s.heap s.heap [] := va_S.rf
  have hl : lv_has ls 3 [(0, .ref (a0 99)), (1, .int x1), (2, .int x2)] := hl
  refine lv_aload_n hx hb dX6_lock_0 rfl (lv_at hl 0 rfl) ?_
  refine lv_iload_n hx hb dX6_lock_1 rfl (lv_at hl 1 rfl) ?_
  have p1 := gB (n := 1) (bs := [bModel E a0 M0]) (bc := [bModel E a0 M0]) (br := []) [0] rfl rfl (by decide)
  refine g_i (g_runV (As := [.int x1]) (rest := []) ⟨hx, hb, hml, hown, ht⟩ hE (c_X6_isLock E l a0 M0 x1 _ h) ⟨rfl, rfl⟩ wk_X6_149 wi_X6_isLock ws_X6_isLock wn_X6 wc_X6_isLock yd_X6_isLock ⟨Nat.le_of_ble_eq_true rfl, Nat.le_of_ble_eq_true rfl⟩ hP hD p1 (ci := 6) rfl rfl rfl rfl rfl hl.1 rfl (lv_room (Nat.le_of_ble_eq_true rfl)) dX6_lock_2 ⟨Nat.zero_le _, Nat.zero_le _⟩) hP hD hS p1 (fun r_1 _ w H locs h hw hP hD hS => ?_)
  subst hw
  clear p1
  have p2 := gB (n := 1) (bs := [bModel E a0 M0]) (bc := [bModel E a0 M0]) (br := []) [0] rfl rfl (by decide)
  have hP := gP_perm p2.symm hP
  have hD := gD_perm p2.symm hD
  clear p2
  refine lv_if_ne (tgt := 10) hx hb dX6_lock_5 (by decide) (fun c_2 => ?_) (fun c_2 => ?_)
  · have h := h.1 c_2
    refine lv_iload_n hx hb dX6_lock_10 rfl (lv_at hl 2 rfl) ?_
    rcases sw_0_5 x2 with c | c | c | c | c | c | c
    · have h := h.1 c
      refine lv_asi c ?_
      refine lv_tableIn (off := 37) (tgt := 48) hx hb dX6_lock_11 (by decide) (by decide) rfl (by decide) ?_
      refine lv_aload_n hx hb dX6_lock_48 rfl (lv_at hl 0 rfl) ?_
      refine va_get (D := (E.1, E.2.1)) (ci := 6) (v := .ref (a0 7)) (C := RX6) (T := TX6) (N := 26) hx hb ht wu_X6 hown hK hP 0 rfl rfl 7 (by decide) (ht _ wk_X6_23) (fun _ h9 => h9) rfl dX6_lock_49 ?_
      refine lv_bipush (v := 10) hx hb dX6_lock_52 (by decide) ?_
      refine lv_iload_n hx hb dX6_lock_54 rfl (lv_at hl 1 rfl) ?_
      refine lv_iadd hx hb dX6_lock_55 ?_
      refine va_iald hx hb hK hP 4 0 rfl rfl h.1 dX6_lock_56 ?_
      have h := h.2
      exact hret (M0.1.2 7 (10 + x1).toNatClampNeg) () _ _ _ _ _ h rfl hP hD hS dX6_lock_57
    · have h := h.2.1 c
      refine lv_asi c ?_
      refine lv_tableIn (off := 47) (tgt := 58) hx hb dX6_lock_11 (by decide) (by decide) rfl (by decide) ?_
      refine lv_aload_n hx hb dX6_lock_58 rfl (lv_at hl 0 rfl) ?_
      refine va_get (D := (E.1, E.2.1)) (ci := 6) (v := .ref (a0 7)) (C := RX6) (T := TX6) (N := 26) hx hb ht wu_X6 hown hK hP 0 rfl rfl 7 (by decide) (ht _ wk_X6_23) (fun _ h9 => h9) rfl dX6_lock_59 ?_
      refine lv_bipush (v := 18) hx hb dX6_lock_62 (by decide) ?_
      refine lv_iload_n hx hb dX6_lock_64 rfl (lv_at hl 1 rfl) ?_
      refine lv_iadd hx hb dX6_lock_65 ?_
      refine va_iald hx hb hK hP 4 0 rfl rfl h.1 dX6_lock_66 ?_
      have h := h.2
      exact hret (M0.1.2 7 (18 + x1).toNatClampNeg) () _ _ _ _ _ h rfl hP hD hS dX6_lock_67
    · have h := h.2.2.1 c
      refine lv_asi c ?_
      refine lv_tableIn (off := 57) (tgt := 68) hx hb dX6_lock_11 (by decide) (by decide) rfl (by decide) ?_
      refine lv_aload_n hx hb dX6_lock_68 rfl (lv_at hl 0 rfl) ?_
      refine lv_iload_n hx hb dX6_lock_69 rfl (lv_at hl 1 rfl) ?_
      have p1 := gB (n := 1) (bs := [bModel E a0 M0]) (bc := [bModel E a0 M0]) (br := []) [0] rfl rfl (by decide)
      refine g_i (g_runV (As := [.int x1]) (rest := []) ⟨hx, hb, hml, hown, ht⟩ hE (c_X6_knowers E l a0 M0 x1 _ h) ⟨rfl, rfl⟩ wk_X6_152 wi_X6_knowers ws_X6_knowers wn_X6 wc_X6_knowers yd_X6_knowers ⟨Nat.le_of_ble_eq_true rfl, Nat.le_of_ble_eq_true rfl⟩ hP hD p1 (ci := 6) rfl rfl rfl rfl rfl hl.1 rfl (lv_room (Nat.le_of_ble_eq_true rfl)) dX6_lock_70 ⟨Nat.zero_le _, Nat.zero_le _⟩) hP hD hS p1 (fun r_3 _ w H locs h hw hP hD hS => ?_)
      subst hw
      clear p1
      have p2 := gB (n := 1) (bs := [bModel E a0 M0]) (bc := [bModel E a0 M0]) (br := []) [0] rfl rfl (by decide)
      have hP := gP_perm p2.symm hP
      have hD := gD_perm p2.symm hD
      clear p2
      exact hret r_3 () _ _ _ _ _ h rfl hP hD hS dX6_lock_73
    · have h := h.2.2.2.1 c
      refine lv_asi c ?_
      refine lv_tableIn (off := 63) (tgt := 74) hx hb dX6_lock_11 (by decide) (by decide) rfl (by decide) ?_
      refine lv_aload_n hx hb dX6_lock_74 rfl (lv_at hl 0 rfl) ?_
      refine lv_iload_n hx hb dX6_lock_75 rfl (lv_at hl 1 rfl) ?_
      have p1 := gB (n := 1) (bs := [bModel E a0 M0]) (bc := [bModel E a0 M0]) (br := []) [0] rfl rfl (by decide)
      refine g_i (g_runV (As := [.int x1]) (rest := []) ⟨hx, hb, hml, hown, ht⟩ hE (c_X6_isRing E l a0 M0 x1 _ h) ⟨rfl, rfl⟩ wk_X6_129 wi_X6_isRing ws_X6_isRing wn_X6 wc_X6_isRing yd_X6_isRing ⟨Nat.le_of_ble_eq_true rfl, Nat.le_of_ble_eq_true rfl⟩ hP hD p1 (ci := 6) rfl rfl rfl rfl rfl hl.1 rfl (lv_room (Nat.le_of_ble_eq_true rfl)) dX6_lock_76 ⟨Nat.zero_le _, Nat.zero_le _⟩) hP hD hS p1 (fun r_4 _ w H locs h hw hP hD hS => ?_)
      subst hw
      clear p1
      have p2 := gB (n := 1) (bs := [bModel E a0 M0]) (bc := [bModel E a0 M0]) (br := []) [0] rfl rfl (by decide)
      have hP := gP_perm p2.symm hP
      have hD := gD_perm p2.symm hD
      clear p2
      refine lv_if_eq (tgt := 86) hx hb dX6_lock_79 (by decide) (fun c_5 => ?_) (fun c_5 => ?_)
      · have h := h.1 c_5
        refine lv_iconst (v := 0) hx hb dX6_lock_86 (by decide) ?_
        exact hret 0 () _ _ _ _ _ h rfl hP hD hS dX6_lock_87
      · have h := h.2 c_5
        refine lv_iconst (v := 1) hx hb dX6_lock_82 (by decide) ?_
        refine lv_goto (tgt := 87) hx hb dX6_lock_83 (by decide) ?_
        exact hret 1 () _ _ _ _ _ h rfl hP hD hS dX6_lock_87
    · have h := h.2.2.2.2.1 c
      refine lv_asi c ?_
      refine lv_tableIn (off := 77) (tgt := 88) hx hb dX6_lock_11 (by decide) (by decide) rfl (by decide) ?_
      refine lv_aload_n hx hb dX6_lock_88 rfl (lv_at hl 0 rfl) ?_
      refine lv_iload_n hx hb dX6_lock_89 rfl (lv_at hl 1 rfl) ?_
      have p1 := gB (n := 1) (bs := [bModel E a0 M0]) (bc := [bModel E a0 M0]) (br := []) [0] rfl rfl (by decide)
      refine g_i (g_runV (As := [.int x1]) (rest := []) ⟨hx, hb, hml, hown, ht⟩ hE (c_X6_isRing E l a0 M0 x1 _ h) ⟨rfl, rfl⟩ wk_X6_129 wi_X6_isRing ws_X6_isRing wn_X6 wc_X6_isRing yd_X6_isRing ⟨Nat.le_of_ble_eq_true rfl, Nat.le_of_ble_eq_true rfl⟩ hP hD p1 (ci := 6) rfl rfl rfl rfl rfl hl.1 rfl (lv_room (Nat.le_of_ble_eq_true rfl)) dX6_lock_90 ⟨Nat.zero_le _, Nat.zero_le _⟩) hP hD hS p1 (fun r_6 _ w H locs h hw hP hD hS => ?_)
      subst hw
      clear p1
      have p2 := gB (n := 1) (bs := [bModel E a0 M0]) (bc := [bModel E a0 M0]) (br := []) [0] rfl rfl (by decide)
      have hP := gP_perm p2.symm hP
      have hD := gD_perm p2.symm hD
      clear p2
      refine lv_if_eq (tgt := 119) hx hb dX6_lock_93 (by decide) (fun c_7 => ?_) (fun c_7 => ?_)
      · have h := h.1 c_7
        refine lv_bipush (v := (-9)) hx hb dX6_lock_119 (by decide) ?_
        exact hret (-9) () _ _ _ _ _ h rfl hP hD hS dX6_lock_121
      · have h := h.2 c_7
        refine lv_aload_n hx hb dX6_lock_96 rfl (lv_at hl 0 rfl) ?_
        refine va_get (D := (E.1, E.2.1)) (ci := 6) (v := .ref (a0 7)) (C := RX6) (T := TX6) (N := 26) hx hb ht wu_X6 hown hK hP 0 rfl rfl 7 (by decide) (ht _ wk_X6_23) (fun _ h9 => h9) rfl dX6_lock_97 ?_
        refine lv_aload_n hx hb dX6_lock_100 rfl (lv_at hl 0 rfl) ?_
        refine lv_iload_n hx hb dX6_lock_101 rfl (lv_at hl 1 rfl) ?_
        have p1 := gB (n := 1) (bs := [bModel E a0 M0]) (bc := [bModel E a0 M0]) (br := []) [0] rfl rfl (by decide)
        refine g_i (g_runV (As := [.int x1]) (rest := [.ref (a0 7)]) ⟨hx, hb, hml, hown, ht⟩ hE (c_X6_placeOf E l a0 M0 x1 _ h) ⟨rfl, rfl⟩ wk_X6_121 wi_X6_placeOf ws_X6_placeOf wn_X6 wc_X6_placeOf yd_X6_placeOf ⟨Nat.le_of_ble_eq_true rfl, Nat.le_of_ble_eq_true rfl⟩ hP hD p1 (ci := 6) rfl rfl rfl rfl rfl hl.1 rfl (lv_room (Nat.le_of_ble_eq_true rfl)) dX6_lock_102 ⟨Nat.zero_le _, Nat.zero_le _⟩) hP hD hS p1 (fun r_8 _ w H locs h hw hP hD hS => ?_)
        subst hw
        clear p1
        have p2 := gB (n := 1) (bs := [bModel E a0 M0]) (bc := [bModel E a0 M0]) (br := []) [0] rfl rfl (by decide)
        have hP := gP_perm p2.symm hP
        have hD := gD_perm p2.symm hD
        clear p2
        refine lv_iconst (v := 1) hx hb dX6_lock_105 (by decide) ?_
        refine lv_iadd hx hb dX6_lock_106 ?_
        refine lv_aload_n hx hb dX6_lock_107 rfl (lv_at hl 0 rfl) ?_
        refine va_get (D := (E.1, E.2.1)) (ci := 6) (v := .ref (a0 7)) (C := RX6) (T := TX6) (N := 26) hx hb ht wu_X6 hown hK hP 0 rfl rfl 7 (by decide) (ht _ wk_X6_23) (fun _ h9 => h9) rfl dX6_lock_108 ?_
        refine lv_bipush (v := 8) hx hb dX6_lock_111 (by decide) ?_
        refine va_iald hx hb hK hP 4 0 rfl rfl (by unfold vp_in; decide) dX6_lock_113 ?_
        refine lv_asi (x' := (M0.1.2 7 8)) rfl ?_
        refine lv_irem hx hb dX6_lock_114 h.1 ?_
        have h := h.2
        refine va_iald hx hb hK hP 4 0 rfl rfl h.1 dX6_lock_115 ?_
        have h := h.2
        refine lv_goto (tgt := 121) hx hb dX6_lock_116 (by decide) ?_
        exact hret (M0.1.2 7 ((r_8 + 1) - (r_8 + 1) / (M0.1.2 7 8) * (M0.1.2 7 8)).toNatClampNeg) () _ _ _ _ _ h rfl hP hD hS dX6_lock_121
    · have h := h.2.2.2.2.2.1 c
      refine lv_asi c ?_
      refine lv_tableIn (off := 111) (tgt := 122) hx hb dX6_lock_11 (by decide) (by decide) rfl (by decide) ?_
      refine lv_aload_n hx hb dX6_lock_122 rfl (lv_at hl 0 rfl) ?_
      refine va_get (D := (E.1, E.2.1)) (ci := 6) (v := .ref (a0 7)) (C := RX6) (T := TX6) (N := 26) hx hb ht wu_X6 hown hK hP 0 rfl rfl 7 (by decide) (ht _ wk_X6_23) (fun _ h9 => h9) rfl dX6_lock_123 ?_
      refine lv_bipush (v := 18) hx hb dX6_lock_126 (by decide) ?_
      refine lv_iload_n hx hb dX6_lock_128 rfl (lv_at hl 1 rfl) ?_
      refine lv_iadd hx hb dX6_lock_129 ?_
      refine va_iald hx hb hK hP 4 0 rfl rfl h.1 dX6_lock_130 ?_
      have h := h.2
      refine lv_aload_n hx hb dX6_lock_131 rfl (lv_at hl 0 rfl) ?_
      refine va_get (D := (E.1, E.2.1)) (ci := 6) (v := .ref (a0 7)) (C := RX6) (T := TX6) (N := 26) hx hb ht wu_X6 hown hK hP 0 rfl rfl 7 (by decide) (ht _ wk_X6_23) (fun _ h9 => h9) rfl dX6_lock_132 ?_
      refine lv_bipush (v := 10) hx hb dX6_lock_135 (by decide) ?_
      refine lv_iload_n hx hb dX6_lock_137 rfl (lv_at hl 1 rfl) ?_
      refine lv_iadd hx hb dX6_lock_138 ?_
      refine va_iald hx hb hK hP 4 0 rfl rfl h.1 dX6_lock_139 ?_
      have h := h.2
      have p1 := gB (n := 1) (bs := [bModel E a0 M0]) (bc := []) (br := [bModel E a0 M0]) [0] rfl rfl (by decide)
      refine g_i (g_runS (As := [.int (M0.1.2 7 (18 + x1).toNatClampNeg), .int (M0.1.2 7 (10 + x1).toNatClampNeg)]) (rest := []) ⟨hx, hb, hml, hown, ht⟩ hE (c_X6_stepsOf E l (M0.1.2 7 (18 + x1).toNatClampNeg) (M0.1.2 7 (10 + x1).toNatClampNeg) _ h) ⟨rfl, rfl⟩ wk_X6_155 wt_X6_stepsOf wn_X6 wc_X6_stepsOf yd_X6_stepsOf ⟨Nat.le_of_ble_eq_true rfl, Nat.le_of_ble_eq_true rfl⟩ hP hD p1 rfl rfl hl.1 rfl (lv_room (Nat.le_of_ble_eq_true rfl)) dX6_lock_140 ⟨Nat.zero_le _, Nat.zero_le _⟩) hP hD hS p1 (fun r_9 _ w H locs h hw hP hD hS => ?_)
      subst hw
      clear p1
      have p2 := gB (n := 1) (bs := [bModel E a0 M0]) (bc := []) (br := [bModel E a0 M0]) [0] rfl rfl (by decide)
      have hP := gP_perm p2.symm hP
      have hD := gD_perm p2.symm hD
      clear p2
      exact hret r_9 () _ _ _ _ _ h rfl hP hD hS dX6_lock_143
    · have h := h.2.2.2.2.2.2 c
      refine lv_tableOut (tgt := 144) hx hb dX6_lock_11 c (by decide) ?_
      refine lv_iconst (v := (-1)) hx hb dX6_lock_144 (by decide) ?_
      exact hret (-1) () _ _ _ _ _ h rfl hP hD hS dX6_lock_145
  · have h := h.2 c_2
    refine lv_iconst (v := (-1)) hx hb dX6_lock_8 (by decide) ?_
    exact hret (-1) () _ _ _ _ _ h rfl hP hD hS dX6_lock_9
theorem dX6_roundsOf_0 : decode cX6_roundsOf 0 = .ok (.aload_n 0, 1) := by decide +kernel
theorem dX6_roundsOf_1 : decode cX6_roundsOf 1 = .ok (.aload_n 0, 1) := by decide +kernel
theorem dX6_roundsOf_2 : decode cX6_roundsOf 2 = .ok (.invokevirtual 135, 3) := by decide +kernel
theorem dX6_roundsOf_5 : decode cX6_roundsOf 5 = .ok (.invokevirtual 139, 3) := by decide +kernel
theorem dX6_roundsOf_8 : decode cX6_roundsOf 8 = .ok (.istore_n 2, 1) := by decide +kernel
theorem dX6_roundsOf_9 : decode cX6_roundsOf 9 = .ok (.iconst 0, 1) := by decide +kernel
theorem dX6_roundsOf_10 : decode cX6_roundsOf 10 = .ok (.istore_n 3, 1) := by decide +kernel
theorem dX6_roundsOf_11 : decode cX6_roundsOf 11 = .ok (.iload_n 3, 1) := by decide +kernel
theorem dX6_roundsOf_12 : decode cX6_roundsOf 12 = .ok (.bipush 6, 2) := by decide +kernel
theorem dX6_roundsOf_14 : decode cX6_roundsOf 14 = .ok (.if_icmp .ge 68, 3) := by decide +kernel
theorem dX6_roundsOf_17 : decode cX6_roundsOf 17 = .ok (.iload_n 2, 1) := by decide +kernel
theorem dX6_roundsOf_18 : decode cX6_roundsOf 18 = .ok (.iload_n 1, 1) := by decide +kernel
theorem dX6_roundsOf_19 : decode cX6_roundsOf 19 = .ok (.invokestatic 125, 3) := by decide +kernel
theorem dX6_roundsOf_22 : decode cX6_roundsOf 22 = .ok (.ifCond .eq 5, 3) := by decide +kernel
theorem dX6_roundsOf_25 : decode cX6_roundsOf 25 = .ok (.iload_n 3, 1) := by decide +kernel
theorem dX6_roundsOf_26 : decode cX6_roundsOf 26 = .ok (.ireturn, 1) := by decide +kernel
theorem dX6_roundsOf_27 : decode cX6_roundsOf 27 = .ok (.iload_n 2, 1) := by decide +kernel
theorem dX6_roundsOf_28 : decode cX6_roundsOf 28 = .ok (.istore 4, 2) := by decide +kernel
theorem dX6_roundsOf_30 : decode cX6_roundsOf 30 = .ok (.iconst 0, 1) := by decide +kernel
theorem dX6_roundsOf_31 : decode cX6_roundsOf 31 = .ok (.istore 5, 2) := by decide +kernel
theorem dX6_roundsOf_33 : decode cX6_roundsOf 33 = .ok (.iload 5, 2) := by decide +kernel
theorem dX6_roundsOf_35 : decode cX6_roundsOf 35 = .ok (.aload_n 0, 1) := by decide +kernel
theorem dX6_roundsOf_36 : decode cX6_roundsOf 36 = .ok (.getfield 7, 3) := by decide +kernel
theorem dX6_roundsOf_39 : decode cX6_roundsOf 39 = .ok (.if_icmp .ge 34, 3) := by decide +kernel
theorem dX6_roundsOf_42 : decode cX6_roundsOf 42 = .ok (.iload 4, 2) := by decide +kernel
theorem dX6_roundsOf_44 : decode cX6_roundsOf 44 = .ok (.iload_n 2, 1) := by decide +kernel
theorem dX6_roundsOf_45 : decode cX6_roundsOf 45 = .ok (.iload 5, 2) := by decide +kernel
theorem dX6_roundsOf_47 : decode cX6_roundsOf 47 = .ok (.invokestatic 125, 3) := by decide +kernel
theorem dX6_roundsOf_50 : decode cX6_roundsOf 50 = .ok (.ifCond .eq 13, 3) := by decide +kernel
theorem dX6_roundsOf_53 : decode cX6_roundsOf 53 = .ok (.aload_n 0, 1) := by decide +kernel
theorem dX6_roundsOf_54 : decode cX6_roundsOf 54 = .ok (.getfield 13, 3) := by decide +kernel
theorem dX6_roundsOf_57 : decode cX6_roundsOf 57 = .ok (.iload 5, 2) := by decide +kernel
theorem dX6_roundsOf_59 : decode cX6_roundsOf 59 = .ok (.iaload, 1) := by decide +kernel
theorem dX6_roundsOf_60 : decode cX6_roundsOf 60 = .ok (.goto 4, 3) := by decide +kernel
theorem dX6_roundsOf_63 : decode cX6_roundsOf 63 = .ok (.iconst 0, 1) := by decide +kernel
theorem dX6_roundsOf_64 : decode cX6_roundsOf 64 = .ok (.ior, 1) := by decide +kernel
theorem dX6_roundsOf_65 : decode cX6_roundsOf 65 = .ok (.istore 4, 2) := by decide +kernel
theorem dX6_roundsOf_67 : decode cX6_roundsOf 67 = .ok (.iinc 5 1, 3) := by decide +kernel
theorem dX6_roundsOf_70 : decode cX6_roundsOf 70 = .ok (.goto (-37), 3) := by decide +kernel
theorem dX6_roundsOf_73 : decode cX6_roundsOf 73 = .ok (.iload 4, 2) := by decide +kernel
theorem dX6_roundsOf_75 : decode cX6_roundsOf 75 = .ok (.istore_n 2, 1) := by decide +kernel
theorem dX6_roundsOf_76 : decode cX6_roundsOf 76 = .ok (.iinc 3 1, 3) := by decide +kernel
theorem dX6_roundsOf_79 : decode cX6_roundsOf 79 = .ok (.goto (-68), 3) := by decide +kernel
theorem dX6_roundsOf_82 : decode cX6_roundsOf 82 = .ok (.bipush (-9), 2) := by decide +kernel
theorem dX6_roundsOf_84 : decode cX6_roundsOf 84 = .ok (.ireturn, 1) := by decide +kernel
set_option maxHeartbeats 4000000 in
set_option maxRecDepth 100000 in
theorem c_X6_roundsOf (E : GE) (l : Launch) (a0 : Nat → Nat) (M0 : Mo) (x1 : Int32) (post : Int32 → Prop) (h : wp_X6_roundsOf M0 x1 post) : Met l yX6_roundsOf (wz yX6_roundsOf cX6_roundsOf 6 (some .int)) { frames := 1, cells := 0, slots := 0, locals := 23 } (gPc E [.ref (a0 99), .int x1] (gW [bModel E a0 M0])) (gQi E (gW [bModel E a0 M0]) (fun r (_ : Unit) => post r) (fun (_ : Unit) w => w = gW [bModel E a0 M0])) 0 0 (gIn (gW [bModel E a0 M0])) := by
  unfold wp_X6_roundsOf at h
  refine g_of_i (by decide) (Nat.le_of_ble_eq_true rfl) ?_
  intro p e s m below meth c A Q hx hb hml hown ht hE hP hD hret ls hl
  have hK := hE.1
  have hS : va_S A s.heap s.heap [] := va_S.rf
  have hl : lv_has ls 6 [(0, .ref (a0 99)), (1, .int x1)] := hl
  refine lv_aload_n hx hb dX6_roundsOf_0 rfl (lv_at hl 0 rfl) ?_
  refine lv_aload_n hx hb dX6_roundsOf_1 rfl (lv_at hl 0 rfl) ?_
  have p1 := gB (n := 1) (bs := [bModel E a0 M0]) (bc := [bModel E a0 M0]) (br := []) [0] rfl rfl (by decide)
  refine g_i (g_runV (As := []) (rest := [.ref (a0 99)]) ⟨hx, hb, hml, hown, ht⟩ hE (c_X6_ring E l a0 M0 _ h) ⟨rfl, rfl⟩ wk_X6_135 wi_X6_ring ws_X6_ring wn_X6 wc_X6_ring yd_X6_ring ⟨Nat.le_of_ble_eq_true rfl, Nat.le_of_ble_eq_true rfl⟩ hP hD p1 (ci := 6) rfl rfl rfl rfl rfl hl.1 rfl (lv_room (Nat.le_of_ble_eq_true rfl)) dX6_roundsOf_2 ⟨Nat.zero_le _, Nat.zero_le _⟩) hP hD hS p1 (fun r_1 _ w H locs h hw hP hD hS => ?_)
  subst hw
  clear p1
  have p2 := gB (n := 1) (bs := [bModel E a0 M0]) (bc := [bModel E a0 M0]) (br := []) [0] rfl rfl (by decide)
  have hP := gP_perm p2.symm hP
  have hD := gD_perm p2.symm hD
  clear p2
  have p1 := gB (n := 1) (bs := [bModel E a0 M0]) (bc := [bModel E a0 M0]) (br := []) [0] rfl rfl (by decide)
  refine g_i (g_runV (As := [.int r_1]) (rest := []) ⟨hx, hb, hml, hown, ht⟩ hE (c_X6_getsIn E l a0 M0 r_1 _ h) ⟨rfl, rfl⟩ wk_X6_139 wi_X6_getsIn ws_X6_getsIn wn_X6 wc_X6_getsIn yd_X6_getsIn ⟨Nat.le_of_ble_eq_true rfl, Nat.le_of_ble_eq_true rfl⟩ hP hD p1 (ci := 6) rfl rfl rfl rfl rfl hl.1 rfl (lv_room (Nat.le_of_ble_eq_true rfl)) dX6_roundsOf_5 ⟨Nat.zero_le _, Nat.zero_le _⟩) hP hD hS p1 (fun r_2 _ w H locs h hw hP hD hS => ?_)
  subst hw
  clear p1
  have p2 := gB (n := 1) (bs := [bModel E a0 M0]) (bc := [bModel E a0 M0]) (br := []) [0] rfl rfl (by decide)
  have hP := gP_perm p2.symm hP
  have hD := gD_perm p2.symm hD
  clear p2
  refine lv_istore_n (lv' := [(2, .int r_2), (0, .ref (a0 99)), (1, .int x1)]) hx hb dX6_roundsOf_8 rfl hl (by decide) rfl (fun ls hl => ?_)
  refine lv_iconst (v := 0) hx hb dX6_roundsOf_9 (by decide) ?_
  refine lv_istore_n (lv' := [(3, .int 0), (2, .int r_2), (0, .ref (a0 99)), (1, .int x1)]) hx hb dX6_roundsOf_10 rfl hl (by decide) rfl (fun ls hl => ?_)
  have L11 : ∀ (n11 : Nat) (x2_11 : Int32) (x3_11 : Int32) (H : Heap) (locs : List Loc) (ls : Array Slot), wp_X6_roundsOf_L11 post x1 M0 n11 x2_11 x3_11 → gP E (gW [bModel E a0 M0]) H → va_D A (gW [bModel E a0 M0]) → va_S A s.heap H locs → lv_has ls 6 [(0, .ref (a0 99)), (1, .int x1), (2, .int x2_11), (3, .int x3_11)] → W p l e { frames := 1, cells := 0, slots := 0, locals := 23 } s m ([.ref (a0 99), .int x1] : List Value).toArray below meth c H locs 0 0 Q (F0 m 11 ls []) := by
    intro n11
    induction n11 with
    | zero => intro x2_11 x3_11 H locs ls h; exact h.elim
    | succ n11 ih11 =>
      intro x2_11 x3_11 H locs ls h hP hD hS hl
      rw [wp_X6_roundsOf_L11] at h
      refine lv_iload_n hx hb dX6_roundsOf_11 rfl (lv_at hl 3 rfl) ?_
      refine lv_bipush (v := 6) hx hb dX6_roundsOf_12 (by decide) ?_
      refine lv_icmp_ge (tgt := 82) hx hb dX6_roundsOf_14 (by decide) (fun c_12 => ?_) (fun c_12 => ?_)
      · have h := h.1 c_12
        refine lv_bipush (v := (-9)) hx hb dX6_roundsOf_82 (by decide) ?_
        exact hret (-9) () _ _ _ _ _ h rfl hP hD hS dX6_roundsOf_84
      · have h := h.2 c_12
        refine lv_iload_n hx hb dX6_roundsOf_17 rfl (lv_at hl 2 rfl) ?_
        refine lv_iload_n hx hb dX6_roundsOf_18 rfl (lv_at hl 1 rfl) ?_
        have p1 := gB (n := 1) (bs := [bModel E a0 M0]) (bc := []) (br := [bModel E a0 M0]) [0] rfl rfl (by decide)
        refine g_i (g_runS (As := [.int x2_11, .int x1]) (rest := []) ⟨hx, hb, hml, hown, ht⟩ hE (c_X6_has E l x2_11 x1 _ h) ⟨rfl, rfl⟩ wk_X6_125 wt_X6_has wn_X6 wc_X6_has yd_X6_has ⟨Nat.le_of_ble_eq_true rfl, Nat.le_of_ble_eq_true rfl⟩ hP hD p1 rfl rfl hl.1 rfl (lv_room (Nat.le_of_ble_eq_true rfl)) dX6_roundsOf_19 ⟨Nat.zero_le _, Nat.zero_le _⟩) hP hD hS p1 (fun r_13 _ w H locs h hw hP hD hS => ?_)
        subst hw
        clear p1
        have p2 := gB (n := 1) (bs := [bModel E a0 M0]) (bc := []) (br := [bModel E a0 M0]) [0] rfl rfl (by decide)
        have hP := gP_perm p2.symm hP
        have hD := gD_perm p2.symm hD
        clear p2
        refine lv_if_eq (tgt := 27) hx hb dX6_roundsOf_22 (by decide) (fun c_14 => ?_) (fun c_14 => ?_)
        · have h := h.1 c_14
          refine lv_iload_n hx hb dX6_roundsOf_27 rfl (lv_at hl 2 rfl) ?_
          refine lv_istore (lv' := [(4, .int x2_11), (0, .ref (a0 99)), (1, .int x1), (2, .int x2_11), (3, .int x3_11)]) hx hb dX6_roundsOf_28 hl (by decide) rfl (fun ls hl => ?_)
          refine lv_iconst (v := 0) hx hb dX6_roundsOf_30 (by decide) ?_
          refine lv_istore (lv' := [(5, .int 0), (4, .int x2_11), (0, .ref (a0 99)), (1, .int x1), (2, .int x2_11), (3, .int x3_11)]) hx hb dX6_roundsOf_31 hl (by decide) rfl (fun ls hl => ?_)
          have L33 : ∀ (n33 : Nat) (x4_33 : Int32) (x5_33 : Int32) (H : Heap) (locs : List Loc) (ls : Array Slot), wp_X6_roundsOf_L33 post (fun x2_11 x3_11 => (wp_X6_roundsOf_L11 post x1 M0 n11 x2_11 x3_11)) x1 x2_11 x3_11 M0 n33 x4_33 x5_33 → gP E (gW [bModel E a0 M0]) H → va_D A (gW [bModel E a0 M0]) → va_S A s.heap H locs → lv_has ls 6 [(0, .ref (a0 99)), (1, .int x1), (2, .int x2_11), (3, .int x3_11), (4, .int x4_33), (5, .int x5_33)] → W p l e { frames := 1, cells := 0, slots := 0, locals := 23 } s m ([.ref (a0 99), .int x1] : List Value).toArray below meth c H locs 0 0 Q (F0 m 33 ls []) := by
            intro n33
            induction n33 with
            | zero => intro x4_33 x5_33 H locs ls h; exact h.elim
            | succ n33 ih33 =>
              intro x4_33 x5_33 H locs ls h hP hD hS hl
              rw [wp_X6_roundsOf_L33] at h
              refine lv_iload hx hb dX6_roundsOf_33 (lv_at hl 5 rfl) ?_
              refine lv_aload_n hx hb dX6_roundsOf_35 rfl (lv_at hl 0 rfl) ?_
              refine va_get (D := (E.1, E.2.1)) (ci := 6) (v := .int (M0.1.1 0)) (C := RX6) (T := TX6) (N := 26) hx hb ht wu_X6 hown hK hP 0 rfl rfl 0 (by decide) (ht _ wk_X6_7) (fun _ h9 => h9) rfl dX6_roundsOf_36 ?_
              refine lv_icmp_ge (tgt := 73) hx hb dX6_roundsOf_39 (by decide) (fun c_15 => ?_) (fun c_15 => ?_)
              · have h := h.1 c_15
                refine lv_iload hx hb dX6_roundsOf_73 (lv_at hl 4 rfl) ?_
                refine lv_istore_n (lv' := [(2, .int x4_33), (0, .ref (a0 99)), (1, .int x1), (3, .int x3_11), (4, .int x4_33), (5, .int x5_33)]) hx hb dX6_roundsOf_75 rfl hl (by decide) rfl (fun ls hl => ?_)
                refine lv_iinc (v := (x3_11 + 1)) (lv' := [(3, .int (x3_11 + 1)), (2, .int x4_33), (0, .ref (a0 99)), (1, .int x1), (4, .int x4_33), (5, .int x5_33)]) hx hb dX6_roundsOf_76 hl (k := 3) rfl rfl (by decide) rfl (fun ls hl => ?_)
                refine lv_goto (tgt := 11) hx hb dX6_roundsOf_79 (by decide) ?_
                exact ih11 x4_33 (x3_11 + 1) _ _ _ h hP hD hS (lv_sub hl [2, 3, 1, 0] rfl)
              · have h := h.2 c_15
                refine lv_iload hx hb dX6_roundsOf_42 (lv_at hl 4 rfl) ?_
                refine lv_iload_n hx hb dX6_roundsOf_44 rfl (lv_at hl 2 rfl) ?_
                refine lv_iload hx hb dX6_roundsOf_45 (lv_at hl 5 rfl) ?_
                have p1 := gB (n := 1) (bs := [bModel E a0 M0]) (bc := []) (br := [bModel E a0 M0]) [0] rfl rfl (by decide)
                refine g_i (g_runS (As := [.int x2_11, .int x5_33]) (rest := [.int x4_33]) ⟨hx, hb, hml, hown, ht⟩ hE (c_X6_has E l x2_11 x5_33 _ h) ⟨rfl, rfl⟩ wk_X6_125 wt_X6_has wn_X6 wc_X6_has yd_X6_has ⟨Nat.le_of_ble_eq_true rfl, Nat.le_of_ble_eq_true rfl⟩ hP hD p1 rfl rfl hl.1 rfl (lv_room (Nat.le_of_ble_eq_true rfl)) dX6_roundsOf_47 ⟨Nat.zero_le _, Nat.zero_le _⟩) hP hD hS p1 (fun r_16 _ w H locs h hw hP hD hS => ?_)
                subst hw
                clear p1
                have p2 := gB (n := 1) (bs := [bModel E a0 M0]) (bc := []) (br := [bModel E a0 M0]) [0] rfl rfl (by decide)
                have hP := gP_perm p2.symm hP
                have hD := gD_perm p2.symm hD
                clear p2
                refine lv_if_eq (tgt := 63) hx hb dX6_roundsOf_50 (by decide) (fun c_17 => ?_) (fun c_17 => ?_)
                · have h := h.1 c_17
                  refine lv_iconst (v := 0) hx hb dX6_roundsOf_63 (by decide) ?_
                  refine lv_ior hx hb dX6_roundsOf_64 ?_
                  refine lv_istore (lv' := [(4, .int (x4_33 ||| 0)), (0, .ref (a0 99)), (1, .int x1), (2, .int x2_11), (3, .int x3_11), (5, .int x5_33)]) hx hb dX6_roundsOf_65 hl (by decide) rfl (fun ls hl => ?_)
                  refine lv_iinc (v := (x5_33 + 1)) (lv' := [(5, .int (x5_33 + 1)), (4, .int (x4_33 ||| 0)), (0, .ref (a0 99)), (1, .int x1), (2, .int x2_11), (3, .int x3_11)]) hx hb dX6_roundsOf_67 hl (k := 5) rfl rfl (by decide) rfl (fun ls hl => ?_)
                  refine lv_goto (tgt := 33) hx hb dX6_roundsOf_70 (by decide) ?_
                  exact ih33 (x4_33 ||| 0) (x5_33 + 1) _ _ _ h hP hD hS (lv_sub hl [2, 3, 4, 5, 1, 0] rfl)
                · have h := h.2 c_17
                  refine lv_aload_n hx hb dX6_roundsOf_53 rfl (lv_at hl 0 rfl) ?_
                  refine va_get (D := (E.1, E.2.1)) (ci := 6) (v := .ref (a0 2)) (C := RX6) (T := TX6) (N := 26) hx hb ht wu_X6 hown hK hP 0 rfl rfl 2 (by decide) (ht _ wk_X6_13) (fun _ h9 => h9) rfl dX6_roundsOf_54 ?_
                  refine lv_iload hx hb dX6_roundsOf_57 (lv_at hl 5 rfl) ?_
                  refine va_iald hx hb hK hP 1 0 rfl rfl h.1 dX6_roundsOf_59 ?_
                  have h := h.2
                  refine lv_goto (tgt := 64) hx hb dX6_roundsOf_60 (by decide) ?_
                  refine lv_ior hx hb dX6_roundsOf_64 ?_
                  refine lv_istore (lv' := [(4, .int (x4_33 ||| (M0.1.2 2 x5_33.toNatClampNeg))), (0, .ref (a0 99)), (1, .int x1), (2, .int x2_11), (3, .int x3_11), (5, .int x5_33)]) hx hb dX6_roundsOf_65 hl (by decide) rfl (fun ls hl => ?_)
                  refine lv_iinc (v := (x5_33 + 1)) (lv' := [(5, .int (x5_33 + 1)), (4, .int (x4_33 ||| (M0.1.2 2 x5_33.toNatClampNeg))), (0, .ref (a0 99)), (1, .int x1), (2, .int x2_11), (3, .int x3_11)]) hx hb dX6_roundsOf_67 hl (k := 5) rfl rfl (by decide) rfl (fun ls hl => ?_)
                  refine lv_goto (tgt := 33) hx hb dX6_roundsOf_70 (by decide) ?_
                  exact ih33 (x4_33 ||| (M0.1.2 2 x5_33.toNatClampNeg)) (x5_33 + 1) _ _ _ h hP hD hS (lv_sub hl [2, 3, 4, 5, 1, 0] rfl)
          obtain ⟨n33, h⟩ := h
          exact L33 n33 x2_11 0 _ _ _ h hP hD hS (lv_sub hl [2, 3, 4, 5, 1, 0] rfl)
        · have h := h.2 c_14
          refine lv_iload_n hx hb dX6_roundsOf_25 rfl (lv_at hl 3 rfl) ?_
          exact hret x3_11 () _ _ _ _ _ h rfl hP hD hS dX6_roundsOf_26
  obtain ⟨n11, h⟩ := h
  exact L11 n11 r_2 0 _ _ _ h hP hD hS (lv_sub hl [2, 3, 1, 0] rfl)
theorem dX6_person_0 : decode cX6_person 0 = .ok (.aload_n 0, 1) := by decide +kernel
theorem dX6_person_1 : decode cX6_person 1 = .ok (.iload_n 1, 1) := by decide +kernel
theorem dX6_person_2 : decode cX6_person 2 = .ok (.invokevirtual 158, 3) := by decide +kernel
theorem dX6_person_5 : decode cX6_person 5 = .ok (.ifCond .ne 5, 3) := by decide +kernel
theorem dX6_person_8 : decode cX6_person 8 = .ok (.iconst (-1), 1) := by decide +kernel
theorem dX6_person_9 : decode cX6_person 9 = .ok (.ireturn, 1) := by decide +kernel
theorem dX6_person_10 : decode cX6_person 10 = .ok (.iload_n 2, 1) := by decide +kernel
theorem dX6_person_11 : decode cX6_person 11 = .ok (.tableswitch 65 0 3 #[29, 39, 46, 59], 29) := by decide +kernel
theorem dX6_person_40 : decode cX6_person 40 = .ok (.aload_n 0, 1) := by decide +kernel
theorem dX6_person_41 : decode cX6_person 41 = .ok (.getfield 23, 3) := by decide +kernel
theorem dX6_person_44 : decode cX6_person 44 = .ok (.bipush 26, 2) := by decide +kernel
theorem dX6_person_46 : decode cX6_person 46 = .ok (.iload_n 1, 1) := by decide +kernel
theorem dX6_person_47 : decode cX6_person 47 = .ok (.iadd, 1) := by decide +kernel
theorem dX6_person_48 : decode cX6_person 48 = .ok (.iaload, 1) := by decide +kernel
theorem dX6_person_49 : decode cX6_person 49 = .ok (.ireturn, 1) := by decide +kernel
theorem dX6_person_50 : decode cX6_person 50 = .ok (.aload_n 0, 1) := by decide +kernel
theorem dX6_person_51 : decode cX6_person 51 = .ok (.getfield 13, 3) := by decide +kernel
theorem dX6_person_54 : decode cX6_person 54 = .ok (.iload_n 1, 1) := by decide +kernel
theorem dX6_person_55 : decode cX6_person 55 = .ok (.iaload, 1) := by decide +kernel
theorem dX6_person_56 : decode cX6_person 56 = .ok (.ireturn, 1) := by decide +kernel
theorem dX6_person_57 : decode cX6_person 57 = .ok (.aload_n 0, 1) := by decide +kernel
theorem dX6_person_58 : decode cX6_person 58 = .ok (.aload_n 0, 1) := by decide +kernel
theorem dX6_person_59 : decode cX6_person 59 = .ok (.invokevirtual 135, 3) := by decide +kernel
theorem dX6_person_62 : decode cX6_person 62 = .ok (.invokevirtual 139, 3) := by decide +kernel
theorem dX6_person_65 : decode cX6_person 65 = .ok (.iload_n 1, 1) := by decide +kernel
theorem dX6_person_66 : decode cX6_person 66 = .ok (.ishr, 1) := by decide +kernel
theorem dX6_person_67 : decode cX6_person 67 = .ok (.iconst 1, 1) := by decide +kernel
theorem dX6_person_68 : decode cX6_person 68 = .ok (.iand, 1) := by decide +kernel
theorem dX6_person_69 : decode cX6_person 69 = .ok (.ireturn, 1) := by decide +kernel
theorem dX6_person_70 : decode cX6_person 70 = .ok (.aload_n 0, 1) := by decide +kernel
theorem dX6_person_71 : decode cX6_person 71 = .ok (.iload_n 1, 1) := by decide +kernel
theorem dX6_person_72 : decode cX6_person 72 = .ok (.invokevirtual 161, 3) := by decide +kernel
theorem dX6_person_75 : decode cX6_person 75 = .ok (.ireturn, 1) := by decide +kernel
theorem dX6_person_76 : decode cX6_person 76 = .ok (.iconst (-1), 1) := by decide +kernel
theorem dX6_person_77 : decode cX6_person 77 = .ok (.ireturn, 1) := by decide +kernel
set_option maxHeartbeats 4000000 in
set_option maxRecDepth 100000 in
theorem c_X6_person (E : GE) (l : Launch) (a0 : Nat → Nat) (M0 : Mo) (x1 : Int32) (x2 : Int32) (post : Int32 → Prop) (h : wp_X6_person M0 x1 x2 post) : Met l yX6_person (wz yX6_person cX6_person 3 (some .int)) { frames := 2, cells := 0, slots := 0, locals := 48 } (gPc E [.ref (a0 99), .int x1, .int x2] (gW [bModel E a0 M0])) (gQi E (gW [bModel E a0 M0]) (fun r (_ : Unit) => post r) (fun (_ : Unit) w => w = gW [bModel E a0 M0])) 0 0 (gIn (gW [bModel E a0 M0])) := by
  unfold wp_X6_person at h
  refine g_of_i (by decide) (Nat.le_of_ble_eq_true rfl) ?_
  intro p e s m below meth c A Q hx hb hml hown ht hE hP hD hret ls hl
  have hK := hE.1
  have hS : va_S A s.heap s.heap [] := va_S.rf
  have hl : lv_has ls 3 [(0, .ref (a0 99)), (1, .int x1), (2, .int x2)] := hl
  refine lv_aload_n hx hb dX6_person_0 rfl (lv_at hl 0 rfl) ?_
  refine lv_iload_n hx hb dX6_person_1 rfl (lv_at hl 1 rfl) ?_
  have p1 := gB (n := 1) (bs := [bModel E a0 M0]) (bc := [bModel E a0 M0]) (br := []) [0] rfl rfl (by decide)
  refine g_i (g_runV (As := [.int x1]) (rest := []) ⟨hx, hb, hml, hown, ht⟩ hE (c_X6_isOne E l a0 M0 x1 _ h) ⟨rfl, rfl⟩ wk_X6_158 wi_X6_isOne ws_X6_isOne wn_X6 wc_X6_isOne yd_X6_isOne ⟨Nat.le_of_ble_eq_true rfl, Nat.le_of_ble_eq_true rfl⟩ hP hD p1 (ci := 6) rfl rfl rfl rfl rfl hl.1 rfl (lv_room (Nat.le_of_ble_eq_true rfl)) dX6_person_2 ⟨Nat.zero_le _, Nat.zero_le _⟩) hP hD hS p1 (fun r_1 _ w H locs h hw hP hD hS => ?_)
  subst hw
  clear p1
  have p2 := gB (n := 1) (bs := [bModel E a0 M0]) (bc := [bModel E a0 M0]) (br := []) [0] rfl rfl (by decide)
  have hP := gP_perm p2.symm hP
  have hD := gD_perm p2.symm hD
  clear p2
  refine lv_if_ne (tgt := 10) hx hb dX6_person_5 (by decide) (fun c_2 => ?_) (fun c_2 => ?_)
  · have h := h.1 c_2
    refine lv_iload_n hx hb dX6_person_10 rfl (lv_at hl 2 rfl) ?_
    rcases sw_0_3 x2 with c | c | c | c | c
    · have h := h.1 c
      refine lv_asi c ?_
      refine lv_tableIn (off := 29) (tgt := 40) hx hb dX6_person_11 (by decide) (by decide) rfl (by decide) ?_
      refine lv_aload_n hx hb dX6_person_40 rfl (lv_at hl 0 rfl) ?_
      refine va_get (D := (E.1, E.2.1)) (ci := 6) (v := .ref (a0 7)) (C := RX6) (T := TX6) (N := 26) hx hb ht wu_X6 hown hK hP 0 rfl rfl 7 (by decide) (ht _ wk_X6_23) (fun _ h9 => h9) rfl dX6_person_41 ?_
      refine lv_bipush (v := 26) hx hb dX6_person_44 (by decide) ?_
      refine lv_iload_n hx hb dX6_person_46 rfl (lv_at hl 1 rfl) ?_
      refine lv_iadd hx hb dX6_person_47 ?_
      refine va_iald hx hb hK hP 4 0 rfl rfl h.1 dX6_person_48 ?_
      have h := h.2
      exact hret (M0.1.2 7 (26 + x1).toNatClampNeg) () _ _ _ _ _ h rfl hP hD hS dX6_person_49
    · have h := h.2.1 c
      refine lv_asi c ?_
      refine lv_tableIn (off := 39) (tgt := 50) hx hb dX6_person_11 (by decide) (by decide) rfl (by decide) ?_
      refine lv_aload_n hx hb dX6_person_50 rfl (lv_at hl 0 rfl) ?_
      refine va_get (D := (E.1, E.2.1)) (ci := 6) (v := .ref (a0 2)) (C := RX6) (T := TX6) (N := 26) hx hb ht wu_X6 hown hK hP 0 rfl rfl 2 (by decide) (ht _ wk_X6_13) (fun _ h9 => h9) rfl dX6_person_51 ?_
      refine lv_iload_n hx hb dX6_person_54 rfl (lv_at hl 1 rfl) ?_
      refine va_iald hx hb hK hP 1 0 rfl rfl h.1 dX6_person_55 ?_
      have h := h.2
      exact hret (M0.1.2 2 x1.toNatClampNeg) () _ _ _ _ _ h rfl hP hD hS dX6_person_56
    · have h := h.2.2.1 c
      refine lv_asi c ?_
      refine lv_tableIn (off := 46) (tgt := 57) hx hb dX6_person_11 (by decide) (by decide) rfl (by decide) ?_
      refine lv_aload_n hx hb dX6_person_57 rfl (lv_at hl 0 rfl) ?_
      refine lv_aload_n hx hb dX6_person_58 rfl (lv_at hl 0 rfl) ?_
      have p1 := gB (n := 1) (bs := [bModel E a0 M0]) (bc := [bModel E a0 M0]) (br := []) [0] rfl rfl (by decide)
      refine g_i (g_runV (As := []) (rest := [.ref (a0 99)]) ⟨hx, hb, hml, hown, ht⟩ hE (c_X6_ring E l a0 M0 _ h) ⟨rfl, rfl⟩ wk_X6_135 wi_X6_ring ws_X6_ring wn_X6 wc_X6_ring yd_X6_ring ⟨Nat.le_of_ble_eq_true rfl, Nat.le_of_ble_eq_true rfl⟩ hP hD p1 (ci := 6) rfl rfl rfl rfl rfl hl.1 rfl (lv_room (Nat.le_of_ble_eq_true rfl)) dX6_person_59 ⟨Nat.zero_le _, Nat.zero_le _⟩) hP hD hS p1 (fun r_3 _ w H locs h hw hP hD hS => ?_)
      subst hw
      clear p1
      have p2 := gB (n := 1) (bs := [bModel E a0 M0]) (bc := [bModel E a0 M0]) (br := []) [0] rfl rfl (by decide)
      have hP := gP_perm p2.symm hP
      have hD := gD_perm p2.symm hD
      clear p2
      have p1 := gB (n := 1) (bs := [bModel E a0 M0]) (bc := [bModel E a0 M0]) (br := []) [0] rfl rfl (by decide)
      refine g_i (g_runV (As := [.int r_3]) (rest := []) ⟨hx, hb, hml, hown, ht⟩ hE (c_X6_getsIn E l a0 M0 r_3 _ h) ⟨rfl, rfl⟩ wk_X6_139 wi_X6_getsIn ws_X6_getsIn wn_X6 wc_X6_getsIn yd_X6_getsIn ⟨Nat.le_of_ble_eq_true rfl, Nat.le_of_ble_eq_true rfl⟩ hP hD p1 (ci := 6) rfl rfl rfl rfl rfl hl.1 rfl (lv_room (Nat.le_of_ble_eq_true rfl)) dX6_person_62 ⟨Nat.zero_le _, Nat.zero_le _⟩) hP hD hS p1 (fun r_4 _ w H locs h hw hP hD hS => ?_)
      subst hw
      clear p1
      have p2 := gB (n := 1) (bs := [bModel E a0 M0]) (bc := [bModel E a0 M0]) (br := []) [0] rfl rfl (by decide)
      have hP := gP_perm p2.symm hP
      have hD := gD_perm p2.symm hD
      clear p2
      refine lv_iload_n hx hb dX6_person_65 rfl (lv_at hl 1 rfl) ?_
      refine lv_ishr hx hb dX6_person_66 ?_
      refine lv_iconst (v := 1) hx hb dX6_person_67 (by decide) ?_
      refine lv_iand hx hb dX6_person_68 ?_
      exact hret ((r_4 >>> (x1 &&& 31)) &&& 1) () _ _ _ _ _ h rfl hP hD hS dX6_person_69
    · have h := h.2.2.2.1 c
      refine lv_asi c ?_
      refine lv_tableIn (off := 59) (tgt := 70) hx hb dX6_person_11 (by decide) (by decide) rfl (by decide) ?_
      refine lv_aload_n hx hb dX6_person_70 rfl (lv_at hl 0 rfl) ?_
      refine lv_iload_n hx hb dX6_person_71 rfl (lv_at hl 1 rfl) ?_
      have p1 := gB (n := 1) (bs := [bModel E a0 M0]) (bc := [bModel E a0 M0]) (br := []) [0] rfl rfl (by decide)
      refine g_i (g_runV (As := [.int x1]) (rest := []) ⟨hx, hb, hml, hown, ht⟩ hE (c_X6_roundsOf E l a0 M0 x1 _ h) ⟨rfl, rfl⟩ wk_X6_161 wi_X6_roundsOf ws_X6_roundsOf wn_X6 wc_X6_roundsOf yd_X6_roundsOf ⟨Nat.le_of_ble_eq_true rfl, Nat.le_of_ble_eq_true rfl⟩ hP hD p1 (ci := 6) rfl rfl rfl rfl rfl hl.1 rfl (lv_room (Nat.le_of_ble_eq_true rfl)) dX6_person_72 ⟨Nat.zero_le _, Nat.zero_le _⟩) hP hD hS p1 (fun r_5 _ w H locs h hw hP hD hS => ?_)
      subst hw
      clear p1
      have p2 := gB (n := 1) (bs := [bModel E a0 M0]) (bc := [bModel E a0 M0]) (br := []) [0] rfl rfl (by decide)
      have hP := gP_perm p2.symm hP
      have hD := gD_perm p2.symm hD
      clear p2
      exact hret r_5 () _ _ _ _ _ h rfl hP hD hS dX6_person_75
    · have h := h.2.2.2.2 c
      refine lv_tableOut (tgt := 76) hx hb dX6_person_11 c (by decide) ?_
      refine lv_iconst (v := (-1)) hx hb dX6_person_76 (by decide) ?_
      exact hret (-1) () _ _ _ _ _ h rfl hP hD hS dX6_person_77
  · have h := h.2 c_2
    refine lv_iconst (v := (-1)) hx hb dX6_person_8 (by decide) ?_
    exact hret (-1) () _ _ _ _ _ h rfl hP hD hS dX6_person_9
theorem dX6_note_0 : decode cX6_note 0 = .ok (.aload_n 0, 1) := by decide +kernel
theorem dX6_note_1 : decode cX6_note 1 = .ok (.getfield 112, 3) := by decide +kernel
theorem dX6_note_4 : decode cX6_note 4 = .ok (.bipush 10, 2) := by decide +kernel
theorem dX6_note_6 : decode cX6_note 6 = .ok (.if_icmp .ne 43, 3) := by decide +kernel
theorem dX6_note_9 : decode cX6_note 9 = .ok (.iconst 0, 1) := by decide +kernel
theorem dX6_note_10 : decode cX6_note 10 = .ok (.istore_n 1, 1) := by decide +kernel
theorem dX6_note_11 : decode cX6_note 11 = .ok (.iload_n 1, 1) := by decide +kernel
theorem dX6_note_12 : decode cX6_note 12 = .ok (.sipush 288, 3) := by decide +kernel
theorem dX6_note_15 : decode cX6_note 15 = .ok (.if_icmp .ge 24, 3) := by decide +kernel
theorem dX6_note_18 : decode cX6_note 18 = .ok (.aload_n 0, 1) := by decide +kernel
theorem dX6_note_19 : decode cX6_note 19 = .ok (.getfield 26, 3) := by decide +kernel
theorem dX6_note_22 : decode cX6_note 22 = .ok (.iload_n 1, 1) := by decide +kernel
theorem dX6_note_23 : decode cX6_note 23 = .ok (.aload_n 0, 1) := by decide +kernel
theorem dX6_note_24 : decode cX6_note 24 = .ok (.getfield 26, 3) := by decide +kernel
theorem dX6_note_27 : decode cX6_note 27 = .ok (.bipush 32, 2) := by decide +kernel
theorem dX6_note_29 : decode cX6_note 29 = .ok (.iload_n 1, 1) := by decide +kernel
theorem dX6_note_30 : decode cX6_note 30 = .ok (.iadd, 1) := by decide +kernel
theorem dX6_note_31 : decode cX6_note 31 = .ok (.iaload, 1) := by decide +kernel
theorem dX6_note_32 : decode cX6_note 32 = .ok (.iastore, 1) := by decide +kernel
theorem dX6_note_33 : decode cX6_note 33 = .ok (.iinc 1 1, 3) := by decide +kernel
theorem dX6_note_36 : decode cX6_note 36 = .ok (.goto (-25), 3) := by decide +kernel
theorem dX6_note_39 : decode cX6_note 39 = .ok (.aload_n 0, 1) := by decide +kernel
theorem dX6_note_40 : decode cX6_note 40 = .ok (.dup, 1) := by decide +kernel
theorem dX6_note_41 : decode cX6_note 41 = .ok (.getfield 112, 3) := by decide +kernel
theorem dX6_note_44 : decode cX6_note 44 = .ok (.iconst 1, 1) := by decide +kernel
theorem dX6_note_45 : decode cX6_note 45 = .ok (.isub, 1) := by decide +kernel
theorem dX6_note_46 : decode cX6_note 46 = .ok (.putfield 112, 3) := by decide +kernel
theorem dX6_note_49 : decode cX6_note 49 = .ok (.iconst 0, 1) := by decide +kernel
theorem dX6_note_50 : decode cX6_note 50 = .ok (.istore_n 1, 1) := by decide +kernel
theorem dX6_note_51 : decode cX6_note 51 = .ok (.iload_n 1, 1) := by decide +kernel
theorem dX6_note_52 : decode cX6_note 52 = .ok (.bipush 32, 2) := by decide +kernel
theorem dX6_note_54 : decode cX6_note 54 = .ok (.if_icmp .ge 29, 3) := by decide +kernel
theorem dX6_note_57 : decode cX6_note 57 = .ok (.aload_n 0, 1) := by decide +kernel
theorem dX6_note_58 : decode cX6_note 58 = .ok (.getfield 26, 3) := by decide +kernel
theorem dX6_note_61 : decode cX6_note 61 = .ok (.bipush 32, 2) := by decide +kernel
theorem dX6_note_63 : decode cX6_note 63 = .ok (.aload_n 0, 1) := by decide +kernel
theorem dX6_note_64 : decode cX6_note 64 = .ok (.getfield 112, 3) := by decide +kernel
theorem dX6_note_67 : decode cX6_note 67 = .ok (.imul, 1) := by decide +kernel
theorem dX6_note_68 : decode cX6_note 68 = .ok (.iload_n 1, 1) := by decide +kernel
theorem dX6_note_69 : decode cX6_note 69 = .ok (.iadd, 1) := by decide +kernel
theorem dX6_note_70 : decode cX6_note 70 = .ok (.aload_n 0, 1) := by decide +kernel
theorem dX6_note_71 : decode cX6_note 71 = .ok (.getfield 23, 3) := by decide +kernel
theorem dX6_note_74 : decode cX6_note 74 = .ok (.iload_n 1, 1) := by decide +kernel
theorem dX6_note_75 : decode cX6_note 75 = .ok (.iaload, 1) := by decide +kernel
theorem dX6_note_76 : decode cX6_note 76 = .ok (.iastore, 1) := by decide +kernel
theorem dX6_note_77 : decode cX6_note 77 = .ok (.iinc 1 1, 3) := by decide +kernel
theorem dX6_note_80 : decode cX6_note 80 = .ok (.goto (-29), 3) := by decide +kernel
theorem dX6_note_83 : decode cX6_note 83 = .ok (.aload_n 0, 1) := by decide +kernel
theorem dX6_note_84 : decode cX6_note 84 = .ok (.dup, 1) := by decide +kernel
theorem dX6_note_85 : decode cX6_note 85 = .ok (.getfield 112, 3) := by decide +kernel
theorem dX6_note_88 : decode cX6_note 88 = .ok (.iconst 1, 1) := by decide +kernel
theorem dX6_note_89 : decode cX6_note 89 = .ok (.iadd, 1) := by decide +kernel
theorem dX6_note_90 : decode cX6_note 90 = .ok (.putfield 112, 3) := by decide +kernel
theorem dX6_note_93 : decode cX6_note 93 = .ok (.return_, 1) := by decide +kernel
set_option maxHeartbeats 4000000 in
set_option maxRecDepth 100000 in
theorem c_X6_note (E : GE) (l : Launch) (a0 : Nat → Nat) (M0 : Mo) (post : Mo → Prop) (h : wp_X6_note M0 post) : Met l yX6_note (wz yX6_note cX6_note 2 none) { frames := 0, cells := 0, slots := 0, locals := 0 } (gPc E [.ref (a0 99)] (gW [bModel E a0 M0])) (gQv E (gW [bModel E a0 M0]) (fun (u : Mo) => post u) (fun (u : Mo) w => w = gW [bModel E a0 u])) 0 0 (gIn (gW [bModel E a0 M0])) := by
  unfold wp_X6_note at h
  refine g_of_v (by decide) (Nat.le_of_ble_eq_true rfl) ?_
  intro p e s m below meth c A Q hx hb hml hown ht hE hP hD hret ls hl
  have hK := hE.1
  have hS : va_S A s.heap s.heap [] := va_S.rf
  have hl : lv_has ls 2 [(0, .ref (a0 99))] := hl
  refine lv_aload_n hx hb dX6_note_0 rfl (lv_at hl 0 rfl) ?_
  refine va_get (D := (E.1, E.2.1)) (ci := 6) (v := .int (M0.1.1 9)) (C := RX6) (T := TX6) (N := 26) hx hb ht wu_X6 hown hK hP 0 rfl rfl 9 (by decide) (ht _ wk_X6_112) (fun _ h9 => h9) rfl dX6_note_1 ?_
  refine lv_bipush (v := 10) hx hb dX6_note_4 (by decide) ?_
  refine lv_icmp_ne (tgt := 49) hx hb dX6_note_6 (by decide) (fun c_1 => ?_) (fun c_1 => ?_)
  · have h := h.1 c_1
    refine lv_iconst (v := 0) hx hb dX6_note_49 (by decide) ?_
    refine lv_istore_n (lv' := [(1, .int 0), (0, .ref (a0 99))]) hx hb dX6_note_50 rfl hl (by decide) rfl (fun ls hl => ?_)
    have L51 : ∀ (n51 : Nat) (x1_51 : Int32) (M0_51 : Mo) (H : Heap) (locs : List Loc) (ls : Array Slot), wp_X6_note_L51 post n51 x1_51 M0_51 → gP E (gW [bModel E a0 M0_51]) H → va_D A (gW [bModel E a0 M0_51]) → va_S A s.heap H locs → lv_has ls 2 [(0, .ref (a0 99)), (1, .int x1_51)] → W p l e { frames := 0, cells := 0, slots := 0, locals := 0 } s m ([.ref (a0 99)] : List Value).toArray below meth c H locs 0 0 Q (F0 m 51 ls []) := by
      intro n51
      induction n51 with
      | zero => intro x1_51 M0_51 H locs ls h; exact h.elim
      | succ n51 ih51 =>
        intro x1_51 M0_51 H locs ls h hP hD hS hl
        rw [wp_X6_note_L51] at h
        refine lv_iload_n hx hb dX6_note_51 rfl (lv_at hl 1 rfl) ?_
        refine lv_bipush (v := 32) hx hb dX6_note_52 (by decide) ?_
        refine lv_icmp_ge (tgt := 83) hx hb dX6_note_54 (by decide) (fun c_4 => ?_) (fun c_4 => ?_)
        · have h := h.1 c_4
          refine lv_aload_n hx hb dX6_note_83 rfl (lv_at hl 0 rfl) ?_
          refine lv_dup hx hb dX6_note_84 rfl ?_
          refine va_get (D := (E.1, E.2.1)) (ci := 6) (v := .int (M0_51.1.1 9)) (C := RX6) (T := TX6) (N := 26) hx hb ht wu_X6 hown hK hP 0 rfl rfl 9 (by decide) (ht _ wk_X6_112) (fun _ h9 => h9) rfl dX6_note_85 ?_
          refine lv_iconst (v := 1) hx hb dX6_note_88 (by decide) ?_
          refine lv_iadd hx hb dX6_note_89 ?_
          refine va_put (D := (E.1, E.2.1)) (ci := 6) (v := .int ((M0_51.1.1 9) + 1)) (ty := .int) (C := RX6) (T := TX6) (N := 26) hx hb ht wu_X6 tyX6 tyX6_ok nmX6 hown hK hP hD hS 0 rfl rfl 9 (by decide) (ht _ wk_X6_112) (fun _ h9 => h9) rfl (by decide +kernel) rfl rfl (Nat.le_of_ble_eq_true rfl) dX6_note_90 (fun H locs hP hD hS => ?_)
          have hP : gP E (gW [bModel E a0 (pmf M0_51 9 ((M0_51.1.1 9) + 1))]) H := hP
          have hD : va_D A (gW [bModel E a0 (pmf M0_51 9 ((M0_51.1.1 9) + 1))]) := hD
          exact hret (pmf M0_51 9 ((M0_51.1.1 9) + 1)) _ _ _ _ _ h rfl hP hD hS dX6_note_93
        · have h := h.2 c_4
          refine lv_aload_n hx hb dX6_note_57 rfl (lv_at hl 0 rfl) ?_
          refine va_get (D := (E.1, E.2.1)) (ci := 6) (v := .ref (a0 8)) (C := RX6) (T := TX6) (N := 26) hx hb ht wu_X6 hown hK hP 0 rfl rfl 8 (by decide) (ht _ wk_X6_26) (fun _ h9 => h9) rfl dX6_note_58 ?_
          refine lv_bipush (v := 32) hx hb dX6_note_61 (by decide) ?_
          refine lv_aload_n hx hb dX6_note_63 rfl (lv_at hl 0 rfl) ?_
          refine va_get (D := (E.1, E.2.1)) (ci := 6) (v := .int (M0_51.1.1 9)) (C := RX6) (T := TX6) (N := 26) hx hb ht wu_X6 hown hK hP 0 rfl rfl 9 (by decide) (ht _ wk_X6_112) (fun _ h9 => h9) rfl dX6_note_64 ?_
          refine lv_imul hx hb dX6_note_67 ?_
          refine lv_iload_n hx hb dX6_note_68 rfl (lv_at hl 1 rfl) ?_
          refine lv_iadd hx hb dX6_note_69 ?_
          refine lv_aload_n hx hb dX6_note_70 rfl (lv_at hl 0 rfl) ?_
          refine va_get (D := (E.1, E.2.1)) (ci := 6) (v := .ref (a0 7)) (C := RX6) (T := TX6) (N := 26) hx hb ht wu_X6 hown hK hP 0 rfl rfl 7 (by decide) (ht _ wk_X6_23) (fun _ h9 => h9) rfl dX6_note_71 ?_
          refine lv_iload_n hx hb dX6_note_74 rfl (lv_at hl 1 rfl) ?_
          refine va_iald hx hb hK hP 4 0 rfl rfl h.1 dX6_note_75 ?_
          have h := h.2
          refine va_iast hx hb hK hP hD hS 5 0 rfl rfl h.1 dX6_note_76 (fun H locs hP hD hS => ?_)
          have h := h.2
          have hP : gP E (gW [bModel E a0 (pma M0_51 8 (((32 * (M0_51.1.1 9)) + x1_51).toNatClampNeg) (M0_51.1.2 7 x1_51.toNatClampNeg))]) H := hP
          have hD : va_D A (gW [bModel E a0 (pma M0_51 8 (((32 * (M0_51.1.1 9)) + x1_51).toNatClampNeg) (M0_51.1.2 7 x1_51.toNatClampNeg))]) := hD
          obtain ⟨M_5, eM_5⟩ : ∃ z : Mo, z = (pma M0_51 8 (((32 * (M0_51.1.1 9)) + x1_51).toNatClampNeg) (M0_51.1.2 7 x1_51.toNatClampNeg)) := ⟨_, rfl⟩
          have h := h M_5 eM_5
          rw [← eM_5] at hP hD
          refine lv_iinc (v := (x1_51 + 1)) (lv' := [(1, .int (x1_51 + 1)), (0, .ref (a0 99))]) hx hb dX6_note_77 hl (k := 1) rfl rfl (by decide) rfl (fun ls hl => ?_)
          refine lv_goto (tgt := 51) hx hb dX6_note_80 (by decide) ?_
          exact ih51 (x1_51 + 1) M_5 _ _ _ h hP hD hS (lv_sub hl [1, 0] rfl)
    obtain ⟨n51, h⟩ := h
    exact L51 n51 0 M0 _ _ _ h hP hD hS (lv_sub hl [1, 0] rfl)
  · have h := h.2 c_1
    refine lv_iconst (v := 0) hx hb dX6_note_9 (by decide) ?_
    refine lv_istore_n (lv' := [(1, .int 0), (0, .ref (a0 99))]) hx hb dX6_note_10 rfl hl (by decide) rfl (fun ls hl => ?_)
    have L11 : ∀ (n11 : Nat) (x1_11 : Int32) (M0_11 : Mo) (H : Heap) (locs : List Loc) (ls : Array Slot), wp_X6_note_L11 post n11 x1_11 M0_11 → gP E (gW [bModel E a0 M0_11]) H → va_D A (gW [bModel E a0 M0_11]) → va_S A s.heap H locs → lv_has ls 2 [(0, .ref (a0 99)), (1, .int x1_11)] → W p l e { frames := 0, cells := 0, slots := 0, locals := 0 } s m ([.ref (a0 99)] : List Value).toArray below meth c H locs 0 0 Q (F0 m 11 ls []) := by
      intro n11
      induction n11 with
      | zero => intro x1_11 M0_11 H locs ls h; exact h.elim
      | succ n11 ih11 =>
        intro x1_11 M0_11 H locs ls h hP hD hS hl
        rw [wp_X6_note_L11] at h
        refine lv_iload_n hx hb dX6_note_11 rfl (lv_at hl 1 rfl) ?_
        refine lv_sipush (v := 288) hx hb dX6_note_12 (by decide) ?_
        refine lv_icmp_ge (tgt := 39) hx hb dX6_note_15 (by decide) (fun c_10 => ?_) (fun c_10 => ?_)
        · have h := h.1 c_10
          refine lv_aload_n hx hb dX6_note_39 rfl (lv_at hl 0 rfl) ?_
          refine lv_dup hx hb dX6_note_40 rfl ?_
          refine va_get (D := (E.1, E.2.1)) (ci := 6) (v := .int (M0_11.1.1 9)) (C := RX6) (T := TX6) (N := 26) hx hb ht wu_X6 hown hK hP 0 rfl rfl 9 (by decide) (ht _ wk_X6_112) (fun _ h9 => h9) rfl dX6_note_41 ?_
          refine lv_iconst (v := 1) hx hb dX6_note_44 (by decide) ?_
          refine lv_isub hx hb dX6_note_45 ?_
          refine va_put (D := (E.1, E.2.1)) (ci := 6) (v := .int ((M0_11.1.1 9) - 1)) (ty := .int) (C := RX6) (T := TX6) (N := 26) hx hb ht wu_X6 tyX6 tyX6_ok nmX6 hown hK hP hD hS 0 rfl rfl 9 (by decide) (ht _ wk_X6_112) (fun _ h9 => h9) rfl (by decide +kernel) rfl rfl (Nat.le_of_ble_eq_true rfl) dX6_note_46 (fun H locs hP hD hS => ?_)
          have hP : gP E (gW [bModel E a0 (pmf M0_11 9 ((M0_11.1.1 9) - 1))]) H := hP
          have hD : va_D A (gW [bModel E a0 (pmf M0_11 9 ((M0_11.1.1 9) - 1))]) := hD
          refine lv_iconst (v := 0) hx hb dX6_note_49 (by decide) ?_
          refine lv_istore_n (lv' := [(1, .int 0), (0, .ref (a0 99))]) hx hb dX6_note_50 rfl hl (by decide) rfl (fun ls hl => ?_)
          have L51 : ∀ (n51 : Nat) (x1_51 : Int32) (M0_51 : Mo) (H : Heap) (locs : List Loc) (ls : Array Slot), wp_X6_note_L51 post n51 x1_51 M0_51 → gP E (gW [bModel E a0 M0_51]) H → va_D A (gW [bModel E a0 M0_51]) → va_S A s.heap H locs → lv_has ls 2 [(0, .ref (a0 99)), (1, .int x1_51)] → W p l e { frames := 0, cells := 0, slots := 0, locals := 0 } s m ([.ref (a0 99)] : List Value).toArray below meth c H locs 0 0 Q (F0 m 51 ls []) := by
            intro n51
            induction n51 with
            | zero => intro x1_51 M0_51 H locs ls h; exact h.elim
            | succ n51 ih51 =>
              intro x1_51 M0_51 H locs ls h hP hD hS hl
              rw [wp_X6_note_L51] at h
              refine lv_iload_n hx hb dX6_note_51 rfl (lv_at hl 1 rfl) ?_
              refine lv_bipush (v := 32) hx hb dX6_note_52 (by decide) ?_
              refine lv_icmp_ge (tgt := 83) hx hb dX6_note_54 (by decide) (fun c_11 => ?_) (fun c_11 => ?_)
              · have h := h.1 c_11
                refine lv_aload_n hx hb dX6_note_83 rfl (lv_at hl 0 rfl) ?_
                refine lv_dup hx hb dX6_note_84 rfl ?_
                refine va_get (D := (E.1, E.2.1)) (ci := 6) (v := .int (M0_51.1.1 9)) (C := RX6) (T := TX6) (N := 26) hx hb ht wu_X6 hown hK hP 0 rfl rfl 9 (by decide) (ht _ wk_X6_112) (fun _ h9 => h9) rfl dX6_note_85 ?_
                refine lv_iconst (v := 1) hx hb dX6_note_88 (by decide) ?_
                refine lv_iadd hx hb dX6_note_89 ?_
                refine va_put (D := (E.1, E.2.1)) (ci := 6) (v := .int ((M0_51.1.1 9) + 1)) (ty := .int) (C := RX6) (T := TX6) (N := 26) hx hb ht wu_X6 tyX6 tyX6_ok nmX6 hown hK hP hD hS 0 rfl rfl 9 (by decide) (ht _ wk_X6_112) (fun _ h9 => h9) rfl (by decide +kernel) rfl rfl (Nat.le_of_ble_eq_true rfl) dX6_note_90 (fun H locs hP hD hS => ?_)
                have hP : gP E (gW [bModel E a0 (pmf M0_51 9 ((M0_51.1.1 9) + 1))]) H := hP
                have hD : va_D A (gW [bModel E a0 (pmf M0_51 9 ((M0_51.1.1 9) + 1))]) := hD
                exact hret (pmf M0_51 9 ((M0_51.1.1 9) + 1)) _ _ _ _ _ h rfl hP hD hS dX6_note_93
              · have h := h.2 c_11
                refine lv_aload_n hx hb dX6_note_57 rfl (lv_at hl 0 rfl) ?_
                refine va_get (D := (E.1, E.2.1)) (ci := 6) (v := .ref (a0 8)) (C := RX6) (T := TX6) (N := 26) hx hb ht wu_X6 hown hK hP 0 rfl rfl 8 (by decide) (ht _ wk_X6_26) (fun _ h9 => h9) rfl dX6_note_58 ?_
                refine lv_bipush (v := 32) hx hb dX6_note_61 (by decide) ?_
                refine lv_aload_n hx hb dX6_note_63 rfl (lv_at hl 0 rfl) ?_
                refine va_get (D := (E.1, E.2.1)) (ci := 6) (v := .int (M0_51.1.1 9)) (C := RX6) (T := TX6) (N := 26) hx hb ht wu_X6 hown hK hP 0 rfl rfl 9 (by decide) (ht _ wk_X6_112) (fun _ h9 => h9) rfl dX6_note_64 ?_
                refine lv_imul hx hb dX6_note_67 ?_
                refine lv_iload_n hx hb dX6_note_68 rfl (lv_at hl 1 rfl) ?_
                refine lv_iadd hx hb dX6_note_69 ?_
                refine lv_aload_n hx hb dX6_note_70 rfl (lv_at hl 0 rfl) ?_
                refine va_get (D := (E.1, E.2.1)) (ci := 6) (v := .ref (a0 7)) (C := RX6) (T := TX6) (N := 26) hx hb ht wu_X6 hown hK hP 0 rfl rfl 7 (by decide) (ht _ wk_X6_23) (fun _ h9 => h9) rfl dX6_note_71 ?_
                refine lv_iload_n hx hb dX6_note_74 rfl (lv_at hl 1 rfl) ?_
                refine va_iald hx hb hK hP 4 0 rfl rfl h.1 dX6_note_75 ?_
                have h := h.2
                refine va_iast hx hb hK hP hD hS 5 0 rfl rfl h.1 dX6_note_76 (fun H locs hP hD hS => ?_)
                have h := h.2
                have hP : gP E (gW [bModel E a0 (pma M0_51 8 (((32 * (M0_51.1.1 9)) + x1_51).toNatClampNeg) (M0_51.1.2 7 x1_51.toNatClampNeg))]) H := hP
                have hD : va_D A (gW [bModel E a0 (pma M0_51 8 (((32 * (M0_51.1.1 9)) + x1_51).toNatClampNeg) (M0_51.1.2 7 x1_51.toNatClampNeg))]) := hD
                obtain ⟨M_12, eM_12⟩ : ∃ z : Mo, z = (pma M0_51 8 (((32 * (M0_51.1.1 9)) + x1_51).toNatClampNeg) (M0_51.1.2 7 x1_51.toNatClampNeg)) := ⟨_, rfl⟩
                have h := h M_12 eM_12
                rw [← eM_12] at hP hD
                refine lv_iinc (v := (x1_51 + 1)) (lv' := [(1, .int (x1_51 + 1)), (0, .ref (a0 99))]) hx hb dX6_note_77 hl (k := 1) rfl rfl (by decide) rfl (fun ls hl => ?_)
                refine lv_goto (tgt := 51) hx hb dX6_note_80 (by decide) ?_
                exact ih51 (x1_51 + 1) M_12 _ _ _ h hP hD hS (lv_sub hl [1, 0] rfl)
          obtain ⟨n51, h⟩ := h
          exact L51 n51 0 (pmf M0_11 9 ((M0_11.1.1 9) - 1)) _ _ _ h hP hD hS (lv_sub hl [1, 0] rfl)
        · have h := h.2 c_10
          refine lv_aload_n hx hb dX6_note_18 rfl (lv_at hl 0 rfl) ?_
          refine va_get (D := (E.1, E.2.1)) (ci := 6) (v := .ref (a0 8)) (C := RX6) (T := TX6) (N := 26) hx hb ht wu_X6 hown hK hP 0 rfl rfl 8 (by decide) (ht _ wk_X6_26) (fun _ h9 => h9) rfl dX6_note_19 ?_
          refine lv_iload_n hx hb dX6_note_22 rfl (lv_at hl 1 rfl) ?_
          refine lv_aload_n hx hb dX6_note_23 rfl (lv_at hl 0 rfl) ?_
          refine va_get (D := (E.1, E.2.1)) (ci := 6) (v := .ref (a0 8)) (C := RX6) (T := TX6) (N := 26) hx hb ht wu_X6 hown hK hP 0 rfl rfl 8 (by decide) (ht _ wk_X6_26) (fun _ h9 => h9) rfl dX6_note_24 ?_
          refine lv_bipush (v := 32) hx hb dX6_note_27 (by decide) ?_
          refine lv_iload_n hx hb dX6_note_29 rfl (lv_at hl 1 rfl) ?_
          refine lv_iadd hx hb dX6_note_30 ?_
          refine va_iald hx hb hK hP 5 0 rfl rfl h.1 dX6_note_31 ?_
          have h := h.2
          refine va_iast hx hb hK hP hD hS 5 0 rfl rfl h.1 dX6_note_32 (fun H locs hP hD hS => ?_)
          have h := h.2
          have hP : gP E (gW [bModel E a0 (pma M0_11 8 (x1_11.toNatClampNeg) (M0_11.1.2 8 (32 + x1_11).toNatClampNeg))]) H := hP
          have hD : va_D A (gW [bModel E a0 (pma M0_11 8 (x1_11.toNatClampNeg) (M0_11.1.2 8 (32 + x1_11).toNatClampNeg))]) := hD
          obtain ⟨M_13, eM_13⟩ : ∃ z : Mo, z = (pma M0_11 8 (x1_11.toNatClampNeg) (M0_11.1.2 8 (32 + x1_11).toNatClampNeg)) := ⟨_, rfl⟩
          have h := h M_13 eM_13
          rw [← eM_13] at hP hD
          refine lv_iinc (v := (x1_11 + 1)) (lv' := [(1, .int (x1_11 + 1)), (0, .ref (a0 99))]) hx hb dX6_note_33 hl (k := 1) rfl rfl (by decide) rfl (fun ls hl => ?_)
          refine lv_goto (tgt := 11) hx hb dX6_note_36 (by decide) ?_
          exact ih11 (x1_11 + 1) M_13 _ _ _ h hP hD hS (lv_sub hl [1, 0] rfl)
    obtain ⟨n11, h⟩ := h
    exact L11 n11 0 M0 _ _ _ h hP hD hS (lv_sub hl [1, 0] rfl)
