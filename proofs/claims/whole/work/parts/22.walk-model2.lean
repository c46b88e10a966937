theorem dX6_opens_0 : decode cX6_opens 0 = .ok (.aload_n 0, 1) := by decide +kernel
theorem dX6_opens_1 : decode cX6_opens 1 = .ok (.iload_n 1, 1) := by decide +kernel
theorem dX6_opens_2 : decode cX6_opens 2 = .ok (.invokevirtual 158, 3) := by decide +kernel
theorem dX6_opens_5 : decode cX6_opens 5 = .ok (.ifCond .eq 11, 3) := by decide +kernel
theorem dX6_opens_8 : decode cX6_opens 8 = .ok (.aload_n 0, 1) := by decide +kernel
theorem dX6_opens_9 : decode cX6_opens 9 = .ok (.iload_n 2, 1) := by decide +kernel
theorem dX6_opens_10 : decode cX6_opens 10 = .ok (.invokevirtual 149, 3) := by decide +kernel
theorem dX6_opens_13 : decode cX6_opens 13 = .ok (.ifCond .ne 5, 3) := by decide +kernel
theorem dX6_opens_16 : decode cX6_opens 16 = .ok (.iconst (-1), 1) := by decide +kernel
theorem dX6_opens_17 : decode cX6_opens 17 = .ok (.ireturn, 1) := by decide +kernel
theorem dX6_opens_18 : decode cX6_opens 18 = .ok (.aload_n 0, 1) := by decide +kernel
theorem dX6_opens_19 : decode cX6_opens 19 = .ok (.getfield 23, 3) := by decide +kernel
theorem dX6_opens_22 : decode cX6_opens 22 = .ok (.bipush 9, 2) := by decide +kernel
theorem dX6_opens_24 : decode cX6_opens 24 = .ok (.iaload, 1) := by decide +kernel
theorem dX6_opens_25 : decode cX6_opens 25 = .ok (.bipush (-9), 2) := by decide +kernel
theorem dX6_opens_27 : decode cX6_opens 27 = .ok (.if_icmp .ne 27, 3) := by decide +kernel
theorem dX6_opens_30 : decode cX6_opens 30 = .ok (.aload_n 0, 1) := by decide +kernel
theorem dX6_opens_31 : decode cX6_opens 31 = .ok (.iload_n 2, 1) := by decide +kernel
theorem dX6_opens_32 : decode cX6_opens 32 = .ok (.invokevirtual 129, 3) := by decide +kernel
theorem dX6_opens_35 : decode cX6_opens 35 = .ok (.ifCond .eq 19, 3) := by decide +kernel
theorem dX6_opens_38 : decode cX6_opens 38 = .ok (.aload_n 0, 1) := by decide +kernel
theorem dX6_opens_39 : decode cX6_opens 39 = .ok (.getfield 23, 3) := by decide +kernel
theorem dX6_opens_42 : decode cX6_opens 42 = .ok (.bipush 26, 2) := by decide +kernel
theorem dX6_opens_44 : decode cX6_opens 44 = .ok (.iload_n 1, 1) := by decide +kernel
theorem dX6_opens_45 : decode cX6_opens 45 = .ok (.iadd, 1) := by decide +kernel
theorem dX6_opens_46 : decode cX6_opens 46 = .ok (.iaload, 1) := by decide +kernel
theorem dX6_opens_47 : decode cX6_opens 47 = .ok (.iload_n 2, 1) := by decide +kernel
theorem dX6_opens_48 : decode cX6_opens 48 = .ok (.invokestatic 125, 3) := by decide +kernel
theorem dX6_opens_51 : decode cX6_opens 51 = .ok (.ifCond .ne 6, 3) := by decide +kernel
theorem dX6_opens_54 : decode cX6_opens 54 = .ok (.bipush (-2), 2) := by decide +kernel
theorem dX6_opens_56 : decode cX6_opens 56 = .ok (.ireturn, 1) := by decide +kernel
theorem dX6_opens_57 : decode cX6_opens 57 = .ok (.aload_n 0, 1) := by decide +kernel
theorem dX6_opens_58 : decode cX6_opens 58 = .ok (.invokevirtual 164, 3) := by decide +kernel
theorem dX6_opens_61 : decode cX6_opens 61 = .ok (.aload_n 0, 1) := by decide +kernel
theorem dX6_opens_62 : decode cX6_opens 62 = .ok (.getfield 23, 3) := by decide +kernel
theorem dX6_opens_65 : decode cX6_opens 65 = .ok (.bipush 18, 2) := by decide +kernel
theorem dX6_opens_67 : decode cX6_opens 67 = .ok (.iload_n 2, 1) := by decide +kernel
theorem dX6_opens_68 : decode cX6_opens 68 = .ok (.iadd, 1) := by decide +kernel
theorem dX6_opens_69 : decode cX6_opens 69 = .ok (.aload_n 0, 1) := by decide +kernel
theorem dX6_opens_70 : decode cX6_opens 70 = .ok (.getfield 23, 3) := by decide +kernel
theorem dX6_opens_73 : decode cX6_opens 73 = .ok (.bipush 10, 2) := by decide +kernel
theorem dX6_opens_75 : decode cX6_opens 75 = .ok (.iload_n 2, 1) := by decide +kernel
theorem dX6_opens_76 : decode cX6_opens 76 = .ok (.iadd, 1) := by decide +kernel
theorem dX6_opens_77 : decode cX6_opens 77 = .ok (.iaload, 1) := by decide +kernel
theorem dX6_opens_78 : decode cX6_opens 78 = .ok (.iastore, 1) := by decide +kernel
theorem dX6_opens_79 : decode cX6_opens 79 = .ok (.aload_n 0, 1) := by decide +kernel
theorem dX6_opens_80 : decode cX6_opens 80 = .ok (.getfield 23, 3) := by decide +kernel
theorem dX6_opens_83 : decode cX6_opens 83 = .ok (.bipush 9, 2) := by decide +kernel
theorem dX6_opens_85 : decode cX6_opens 85 = .ok (.iload_n 2, 1) := by decide +kernel
theorem dX6_opens_86 : decode cX6_opens 86 = .ok (.iastore, 1) := by decide +kernel
theorem dX6_opens_87 : decode cX6_opens 87 = .ok (.aload_n 0, 1) := by decide +kernel
theorem dX6_opens_88 : decode cX6_opens 88 = .ok (.getfield 23, 3) := by decide +kernel
theorem dX6_opens_91 : decode cX6_opens 91 = .ok (.bipush 8, 2) := by decide +kernel
theorem dX6_opens_93 : decode cX6_opens 93 = .ok (.iaload, 1) := by decide +kernel
theorem dX6_opens_94 : decode cX6_opens 94 = .ok (.ireturn, 1) := by decide +kernel
set_option maxHeartbeats 4000000 in
set_option maxRecDepth 100000 in
theorem c_X6_opens (E : GE) (l : Launch) (a0 : Nat → Nat) (M0 : Mo) (x1 : Int32) (x2 : Int32) (post : Int32 → Mo → Prop) (h : wp_X6_opens M0 x1 x2 post) : Met l yX6_opens (wz yX6_opens cX6_opens 3 (some .int)) { frames := 2, cells := 0, slots := 0, locals := 46 } (gPc E [.ref (a0 99), .int x1, .int x2] (gW [bModel E a0 M0])) (gQi E (gW [bModel E a0 M0]) (fun r (u : Mo) => post r u) (fun (u : Mo) w => w = gW [bModel E a0 u])) 0 0 (gIn (gW [bModel E a0 M0])) := by
  unfold wp_X6_opens at h
  refine g_of_i (by decide) (Nat.le_of_ble_eq_true rfl) ?_
  intro p e s m below meth c A Q hx hb hml hown ht hE hP hD hret ls hl
  have hK := hE.1
  have hS : va_S A s.heap s.heap [] := va_S.rf
  have hl : lv_has ls 3 [(0, .ref (a0 99)), (1, .int x1), (2, .int x2)] := hl
  refine lv_aload_n hx hb dX6_opens_0 rfl (lv_at hl 0 rfl) ?_
  refine lv_iload_n hx hb dX6_opens_1 rfl (lv_at hl 1 rfl) ?_
  have p1 := gB (n := 1) (bs := [bModel E a0 M0]) (bc := [bModel E a0 M0]) (br := []) [0] rfl rfl (by decide)
  refine g_i (g_runV (As := [.int x1]) (rest := []) ⟨hx, hb, hml, hown, ht⟩ hE (c_X6_isOne E l a0 M0 x1 _ h) ⟨rfl, rfl⟩ wk_X6_158 wi_X6_isOne ws_X6_isOne wn_X6 wc_X6_isOne yd_X6_isOne ⟨Nat.le_of_ble_eq_true rfl, Nat.le_of_ble_eq_true rfl⟩ hP hD p1 (ci := 6) rfl rfl rfl rfl rfl hl.1 rfl (lv_room (Nat.le_of_ble_eq_true rfl)) dX6_opens_2 ⟨Nat.zero_le _, Nat.zero_le _⟩) hP hD hS p1 (fun r_1 _ w H locs h hw hP hD hS => ?_)
  subst hw
  clear p1
  have p2 := gB (n := 1) (bs := [bModel E a0 M0]) (bc := [bModel E a0 M0]) (br := []) [0] rfl rfl (by decide)
  have hP := gP_perm p2.symm hP
  have hD := gD_perm p2.symm hD
  clear p2
  refine lv_if_eq (tgt := 16) hx hb dX6_opens_5 (by decide) (fun c_2 => ?_) (fun c_2 => ?_)
  · have h := h.1 c_2
    refine lv_iconst (v := (-1)) hx hb dX6_opens_16 (by decide) ?_
    exact hret (-1) M0 _ _ _ _ _ h rfl hP hD hS dX6_opens_17
  · have h := h.2 c_2
    refine lv_aload_n hx hb dX6_opens_8 rfl (lv_at hl 0 rfl) ?_
    refine lv_iload_n hx hb dX6_opens_9 rfl (lv_at hl 2 rfl) ?_
    have p1 := gB (n := 1) (bs := [bModel E a0 M0]) (bc := [bModel E a0 M0]) (br := []) [0] rfl rfl (by decide)
    refine g_i (g_runV (As := [.int x2]) (rest := []) ⟨hx, hb, hml, hown, ht⟩ hE (c_X6_isLock E l a0 M0 x2 _ h) ⟨rfl, rfl⟩ wk_X6_149 wi_X6_isLock ws_X6_isLock wn_X6 wc_X6_isLock yd_X6_isLock ⟨Nat.le_of_ble_eq_true rfl, Nat.le_of_ble_eq_true rfl⟩ hP hD p1 (ci := 6) rfl rfl rfl rfl rfl hl.1 rfl (lv_room (Nat.le_of_ble_eq_true rfl)) dX6_opens_10 ⟨Nat.zero_le _, Nat.zero_le _⟩) hP hD hS p1 (fun r_3 _ w H locs h hw hP hD hS => ?_)
    subst hw
    clear p1
    have p2 := gB (n := 1) (bs := [bModel E a0 M0]) (bc := [bModel E a0 M0]) (br := []) [0] rfl rfl (by decide)
    have hP := gP_perm p2.symm hP
    have hD := gD_perm p2.symm hD
    clear p2
    refine lv_if_ne (tgt := 18) hx hb dX6_opens_13 (by decide) (fun c_4 => ?_) (fun c_4 => ?_)
    · have h := h.1 c_4
      refine lv_aload_n hx hb dX6_opens_18 rfl (lv_at hl 0 rfl) ?_
      refine va_get (D := (E.1, E.2.1)) (ci := 6) (v := .ref (a0 7)) (C := RX6) (T := TX6) (N := 26) hx hb ht wu_X6 hown hK hP 0 rfl rfl 7 (by decide) (ht _ wk_X6_23) (fun _ h9 => h9) rfl dX6_opens_19 ?_
      refine lv_bipush (v := 9) hx hb dX6_opens_22 (by decide) ?_
      refine va_iald hx hb hK hP 4 0 rfl rfl (by unfold vp_in; decide) dX6_opens_24 ?_
      refine lv_asi (x' := (M0.1.2 7 9)) rfl ?_
      refine lv_bipush (v := (-9)) hx hb dX6_opens_25 (by decide) ?_
      refine lv_icmp_ne (tgt := 54) hx hb dX6_opens_27 (by decide) (fun c_5 => ?_) (fun c_5 => ?_)
      · have h := h.1 c_5
        refine lv_bipush (v := (-2)) hx hb dX6_opens_54 (by decide) ?_
        exact hret (-2) M0 _ _ _ _ _ h rfl hP hD hS dX6_opens_56
      · have h := h.2 c_5
        refine lv_aload_n hx hb dX6_opens_30 rfl (lv_at hl 0 rfl) ?_
        refine lv_iload_n hx hb dX6_opens_31 rfl (lv_at hl 2 rfl) ?_
        have p1 := gB (n := 1) (bs := [bModel E a0 M0]) (bc := [bModel E a0 M0]) (br := []) [0] rfl rfl (by decide)
        refine g_i (g_runV (As := [.int x2]) (rest := []) ⟨hx, hb, hml, hown, ht⟩ hE (c_X6_isRing E l a0 M0 x2 _ h) ⟨rfl, rfl⟩ wk_X6_129 wi_X6_isRing ws_X6_isRing wn_X6 wc_X6_isRing yd_X6_isRing ⟨Nat.le_of_ble_eq_true rfl, Nat.le_of_ble_eq_true rfl⟩ hP hD p1 (ci := 6) rfl rfl rfl rfl rfl hl.1 rfl (lv_room (Nat.le_of_ble_eq_true rfl)) dX6_opens_32 ⟨Nat.zero_le _, Nat.zero_le _⟩) hP hD hS p1 (fun r_6 _ w H locs h hw hP hD hS => ?_)
        subst hw
        clear p1
        have p2 := gB (n := 1) (bs := [bModel E a0 M0]) (bc := [bModel E a0 M0]) (br := []) [0] rfl rfl (by decide)
        have hP := gP_perm p2.symm hP
        have hD := gD_perm p2.symm hD
        clear p2
        refine lv_if_eq (tgt := 54) hx hb dX6_opens_35 (by decide) (fun c_7 => ?_) (fun c_7 => ?_)
        · have h := h.1 c_7
          refine lv_bipush (v := (-2)) hx hb dX6_opens_54 (by decide) ?_
          exact hret (-2) M0 _ _ _ _ _ h rfl hP hD hS dX6_opens_56
        · have h := h.2 c_7
          refine lv_aload_n hx hb dX6_opens_38 rfl (lv_at hl 0 rfl) ?_
          refine va_get (D := (E.1, E.2.1)) (ci := 6) (v := .ref (a0 7)) (C := RX6) (T := TX6) (N := 26) hx hb ht wu_X6 hown hK hP 0 rfl rfl 7 (by decide) (ht _ wk_X6_23) (fun _ h9 => h9) rfl dX6_opens_39 ?_
          refine lv_bipush (v := 26) hx hb dX6_opens_42 (by decide) ?_
          refine lv_iload_n hx hb dX6_opens_44 rfl (lv_at hl 1 rfl) ?_
          refine lv_iadd hx hb dX6_opens_45 ?_
          refine va_iald hx hb hK hP 4 0 rfl rfl h.1 dX6_opens_46 ?_
          have h := h.2
          refine lv_iload_n hx hb dX6_opens_47 rfl (lv_at hl 2 rfl) ?_
          have p1 := gB (n := 1) (bs := [bModel E a0 M0]) (bc := []) (br := [bModel E a0 M0]) [0] rfl rfl (by decide)
          refine g_i (g_runS (As := [.int (M0.1.2 7 (26 + x1).toNatClampNeg), .int x2]) (rest := []) ⟨hx, hb, hml, hown, ht⟩ hE (c_X6_has E l (M0.1.2 7 (26 + x1).toNatClampNeg) x2 _ h) ⟨rfl, rfl⟩ wk_X6_125 wt_X6_has wn_X6 wc_X6_has yd_X6_has ⟨Nat.le_of_ble_eq_true rfl, Nat.le_of_ble_eq_true rfl⟩ hP hD p1 rfl rfl hl.1 rfl (lv_room (Nat.le_of_ble_eq_true rfl)) dX6_opens_48 ⟨Nat.zero_le _, Nat.zero_le _⟩) hP hD hS p1 (fun r_8 _ w H locs h hw hP hD hS => ?_)
          subst hw
          clear p1
          have p2 := gB (n := 1) (bs := [bModel E a0 M0]) (bc := []) (br := [bModel E a0 M0]) [0] rfl rfl (by decide)
          have hP := gP_perm p2.symm hP
          have hD := gD_perm p2.symm hD
          clear p2
          refine lv_if_ne (tgt := 57) hx hb dX6_opens_51 (by decide) (fun c_9 => ?_) (fun c_9 => ?_)
          · have h := h.1 c_9
            refine lv_aload_n hx hb dX6_opens_57 rfl (lv_at hl 0 rfl) ?_
            have p1 := gB (n := 1) (bs := [bModel E a0 M0]) (bc := [bModel E a0 M0]) (br := []) [0] rfl rfl (by decide)
            refine g_v (g_runV (As := []) (rest := []) ⟨hx, hb, hml, hown, ht⟩ hE (c_X6_note E l a0 M0 _ h) ⟨rfl, rfl⟩ wk_X6_164 wi_X6_note ws_X6_note wn_X6 wc_X6_note yd_X6_note ⟨Nat.le_of_ble_eq_true rfl, Nat.le_of_ble_eq_true rfl⟩ hP hD p1 (ci := 6) rfl rfl rfl rfl rfl hl.1 rfl (lv_room (Nat.le_of_ble_eq_true rfl)) dX6_opens_58 ⟨Nat.zero_le _, Nat.zero_le _⟩) hP hD hS p1 (fun M_10 w H locs h hw hP hD hS => ?_)
            subst hw
            clear p1
            have p2 := gB (n := 1) (bs := [bModel E a0 M_10]) (bc := [bModel E a0 M_10]) (br := []) [0] rfl rfl (by decide)
            have hP := gP_perm p2.symm hP
            have hD := gD_perm p2.symm hD
            clear p2
            refine lv_aload_n hx hb dX6_opens_61 rfl (lv_at hl 0 rfl) ?_
            refine va_get (D := (E.1, E.2.1)) (ci := 6) (v := .ref (a0 7)) (C := RX6) (T := TX6) (N := 26) hx hb ht wu_X6 hown hK hP 0 rfl rfl 7 (by decide) (ht _ wk_X6_23) (fun _ h9 => h9) rfl dX6_opens_62 ?_
            refine lv_bipush (v := 18) hx hb dX6_opens_65 (by decide) ?_
            refine lv_iload_n hx hb dX6_opens_67 rfl (lv_at hl 2 rfl) ?_
            refine lv_iadd hx hb dX6_opens_68 ?_
            refine lv_aload_n hx hb dX6_opens_69 rfl (lv_at hl 0 rfl) ?_
            refine va_get (D := (E.1, E.2.1)) (ci := 6) (v := .ref (a0 7)) (C := RX6) (T := TX6) (N := 26) hx hb ht wu_X6 hown hK hP 0 rfl rfl 7 (by decide) (ht _ wk_X6_23) (fun _ h9 => h9) rfl dX6_opens_70 ?_
            refine lv_bipush (v := 10) hx hb dX6_opens_73 (by decide) ?_
            refine lv_iload_n hx hb dX6_opens_75 rfl (lv_at hl 2 rfl) ?_
            refine lv_iadd hx hb dX6_opens_76 ?_
            refine va_iald hx hb hK hP 4 0 rfl rfl h.1 dX6_opens_77 ?_
            have h := h.2
            refine va_iast hx hb hK hP hD hS 4 0 rfl rfl h.1 dX6_opens_78 (fun H locs hP hD hS => ?_)
            have h := h.2
            have hP : gP E (gW [bModel E a0 (pma M_10 7 ((18 + x2).toNatClampNeg) (M_10.1.2 7 (10 + x2).toNatClampNeg))]) H := hP
            have hD : va_D A (gW [bModel E a0 (pma M_10 7 ((18 + x2).toNatClampNeg) (M_10.1.2 7 (10 + x2).toNatClampNeg))]) := hD
            obtain ⟨M_11, eM_11⟩ : ∃ z : Mo, z = (pma M_10 7 ((18 + x2).toNatClampNeg) (M_10.1.2 7 (10 + x2).toNatClampNeg)) := ⟨_, rfl⟩
            have h := h M_11 eM_11
            rw [← eM_11] at hP hD
            refine lv_aload_n hx hb dX6_opens_79 rfl (lv_at hl 0 rfl) ?_
            refine va_get (D := (E.1, E.2.1)) (ci := 6) (v := .ref (a0 7)) (C := RX6) (T := TX6) (N := 26) hx hb ht wu_X6 hown hK hP 0 rfl rfl 7 (by decide) (ht _ wk_X6_23) (fun _ h9 => h9) rfl dX6_opens_80 ?_
            refine lv_bipush (v := 9) hx hb dX6_opens_83 (by decide) ?_
            refine lv_iload_n hx hb dX6_opens_85 rfl (lv_at hl 2 rfl) ?_
            refine va_iast hx hb hK hP hD hS 4 0 rfl rfl (by unfold vp_in; decide) dX6_opens_86 (fun H locs hP hD hS => ?_)
            have hP : gP E (gW [bModel E a0 (pma M_11 7 9 x2)]) H := hP
            have hD : va_D A (gW [bModel E a0 (pma M_11 7 9 x2)]) := hD
            refine lv_aload_n hx hb dX6_opens_87 rfl (lv_at hl 0 rfl) ?_
            refine va_get (D := (E.1, E.2.1)) (ci := 6) (v := .ref (a0 7)) (C := RX6) (T := TX6) (N := 26) hx hb ht wu_X6 hown hK hP 0 rfl rfl 7 (by decide) (ht _ wk_X6_23) (fun _ h9 => h9) rfl dX6_opens_88 ?_
            refine lv_bipush (v := 8) hx hb dX6_opens_91 (by decide) ?_
            refine va_iald hx hb hK hP 4 0 rfl rfl (by unfold vp_in; decide) dX6_opens_93 ?_
            refine lv_asi (x' := ((pma M_11 7 9 x2).1.2 7 8)) rfl ?_
            exact hret ((pma M_11 7 9 x2).1.2 7 8) (pma M_11 7 9 x2) _ _ _ _ _ h rfl hP hD hS dX6_opens_94
          · have h := h.2 c_9
            refine lv_bipush (v := (-2)) hx hb dX6_opens_54 (by decide) ?_
            exact hret (-2) M0 _ _ _ _ _ h rfl hP hD hS dX6_opens_56
    · have h := h.2 c_4
      refine lv_iconst (v := (-1)) hx hb dX6_opens_16 (by decide) ?_
      exact hret (-1) M0 _ _ _ _ _ h rfl hP hD hS dX6_opens_17
theorem dX6_shuts_0 : decode cX6_shuts 0 = .ok (.aload_n 0, 1) := by decide +kernel
theorem dX6_shuts_1 : decode cX6_shuts 1 = .ok (.iload_n 1, 1) := by decide +kernel
theorem dX6_shuts_2 : decode cX6_shuts 2 = .ok (.invokevirtual 149, 3) := by decide +kernel
theorem dX6_shuts_5 : decode cX6_shuts 5 = .ok (.ifCond .eq 15, 3) := by decide +kernel
theorem dX6_shuts_8 : decode cX6_shuts 8 = .ok (.iload_n 2, 1) := by decide +kernel
theorem dX6_shuts_9 : decode cX6_shuts 9 = .ok (.i2l, 1) := by decide +kernel
theorem dX6_shuts_10 : decode cX6_shuts 10 = .ok (.lconst 0, 1) := by decide +kernel
theorem dX6_shuts_11 : decode cX6_shuts 11 = .ok (.ldc2_w 167, 3) := by decide +kernel
theorem dX6_shuts_14 : decode cX6_shuts 14 = .ok (.invokestatic 55, 3) := by decide +kernel
theorem dX6_shuts_17 : decode cX6_shuts 17 = .ok (.ifCond .ne 5, 3) := by decide +kernel
theorem dX6_shuts_20 : decode cX6_shuts 20 = .ok (.iconst (-1), 1) := by decide +kernel
theorem dX6_shuts_21 : decode cX6_shuts 21 = .ok (.ireturn, 1) := by decide +kernel
theorem dX6_shuts_22 : decode cX6_shuts 22 = .ok (.aload_n 0, 1) := by decide +kernel
theorem dX6_shuts_23 : decode cX6_shuts 23 = .ok (.iload_n 1, 1) := by decide +kernel
theorem dX6_shuts_24 : decode cX6_shuts 24 = .ok (.invokevirtual 132, 3) := by decide +kernel
theorem dX6_shuts_27 : decode cX6_shuts 27 = .ok (.ifCond .ne 6, 3) := by decide +kernel
theorem dX6_shuts_30 : decode cX6_shuts 30 = .ok (.bipush (-2), 2) := by decide +kernel
theorem dX6_shuts_32 : decode cX6_shuts 32 = .ok (.ireturn, 1) := by decide +kernel
theorem dX6_shuts_33 : decode cX6_shuts 33 = .ok (.aload_n 0, 1) := by decide +kernel
theorem dX6_shuts_34 : decode cX6_shuts 34 = .ok (.invokevirtual 164, 3) := by decide +kernel
theorem dX6_shuts_37 : decode cX6_shuts 37 = .ok (.aload_n 0, 1) := by decide +kernel
theorem dX6_shuts_38 : decode cX6_shuts 38 = .ok (.iload_n 1, 1) := by decide +kernel
theorem dX6_shuts_39 : decode cX6_shuts 39 = .ok (.invokevirtual 142, 3) := by decide +kernel
theorem dX6_shuts_42 : decode cX6_shuts 42 = .ok (.istore_n 3, 1) := by decide +kernel
theorem dX6_shuts_43 : decode cX6_shuts 43 = .ok (.iconst 0, 1) := by decide +kernel
theorem dX6_shuts_44 : decode cX6_shuts 44 = .ok (.istore 4, 2) := by decide +kernel
theorem dX6_shuts_46 : decode cX6_shuts 46 = .ok (.iconst 0, 1) := by decide +kernel
theorem dX6_shuts_47 : decode cX6_shuts 47 = .ok (.istore 5, 2) := by decide +kernel
theorem dX6_shuts_49 : decode cX6_shuts 49 = .ok (.iload 5, 2) := by decide +kernel
theorem dX6_shuts_51 : decode cX6_shuts 51 = .ok (.aload_n 0, 1) := by decide +kernel
theorem dX6_shuts_52 : decode cX6_shuts 52 = .ok (.getfield 23, 3) := by decide +kernel
theorem dX6_shuts_55 : decode cX6_shuts 55 = .ok (.bipush 8, 2) := by decide +kernel
theorem dX6_shuts_57 : decode cX6_shuts 57 = .ok (.iaload, 1) := by decide +kernel
theorem dX6_shuts_58 : decode cX6_shuts 58 = .ok (.if_icmp .ge 39, 3) := by decide +kernel
theorem dX6_shuts_61 : decode cX6_shuts 61 = .ok (.aload_n 0, 1) := by decide +kernel
theorem dX6_shuts_62 : decode cX6_shuts 62 = .ok (.getfield 23, 3) := by decide +kernel
theorem dX6_shuts_65 : decode cX6_shuts 65 = .ok (.iload 5, 2) := by decide +kernel
theorem dX6_shuts_67 : decode cX6_shuts 67 = .ok (.iaload, 1) := by decide +kernel
theorem dX6_shuts_68 : decode cX6_shuts 68 = .ok (.istore 6, 2) := by decide +kernel
theorem dX6_shuts_70 : decode cX6_shuts 70 = .ok (.iload_n 3, 1) := by decide +kernel
theorem dX6_shuts_71 : decode cX6_shuts 71 = .ok (.iload 6, 2) := by decide +kernel
theorem dX6_shuts_73 : decode cX6_shuts 73 = .ok (.invokestatic 125, 3) := by decide +kernel
theorem dX6_shuts_76 : decode cX6_shuts 76 = .ok (.ifCond .ne 15, 3) := by decide +kernel
theorem dX6_shuts_79 : decode cX6_shuts 79 = .ok (.aload_n 0, 1) := by decide +kernel
theorem dX6_shuts_80 : decode cX6_shuts 80 = .ok (.getfield 23, 3) := by decide +kernel
theorem dX6_shuts_83 : decode cX6_shuts 83 = .ok (.iload 4, 2) := by decide +kernel
theorem dX6_shuts_85 : decode cX6_shuts 85 = .ok (.iload 6, 2) := by decide +kernel
theorem dX6_shuts_87 : decode cX6_shuts 87 = .ok (.iastore, 1) := by decide +kernel
theorem dX6_shuts_88 : decode cX6_shuts 88 = .ok (.iinc 4 1, 3) := by decide +kernel
theorem dX6_shuts_91 : decode cX6_shuts 91 = .ok (.iinc 5 1, 3) := by decide +kernel
theorem dX6_shuts_94 : decode cX6_shuts 94 = .ok (.goto (-45), 3) := by decide +kernel
theorem dX6_shuts_97 : decode cX6_shuts 97 = .ok (.aload_n 0, 1) := by decide +kernel
theorem dX6_shuts_98 : decode cX6_shuts 98 = .ok (.getfield 23, 3) := by decide +kernel
theorem dX6_shuts_101 : decode cX6_shuts 101 = .ok (.bipush 8, 2) := by decide +kernel
theorem dX6_shuts_103 : decode cX6_shuts 103 = .ok (.iload 4, 2) := by decide +kernel
theorem dX6_shuts_105 : decode cX6_shuts 105 = .ok (.iastore, 1) := by decide +kernel
theorem dX6_shuts_106 : decode cX6_shuts 106 = .ok (.aload_n 0, 1) := by decide +kernel
theorem dX6_shuts_107 : decode cX6_shuts 107 = .ok (.getfield 23, 3) := by decide +kernel
theorem dX6_shuts_110 : decode cX6_shuts 110 = .ok (.bipush 18, 2) := by decide +kernel
theorem dX6_shuts_112 : decode cX6_shuts 112 = .ok (.aload_n 0, 1) := by decide +kernel
theorem dX6_shuts_113 : decode cX6_shuts 113 = .ok (.getfield 23, 3) := by decide +kernel
theorem dX6_shuts_116 : decode cX6_shuts 116 = .ok (.bipush 9, 2) := by decide +kernel
theorem dX6_shuts_118 : decode cX6_shuts 118 = .ok (.iaload, 1) := by decide +kernel
theorem dX6_shuts_119 : decode cX6_shuts 119 = .ok (.iadd, 1) := by decide +kernel
theorem dX6_shuts_120 : decode cX6_shuts 120 = .ok (.iload_n 2, 1) := by decide +kernel
theorem dX6_shuts_121 : decode cX6_shuts 121 = .ok (.iastore, 1) := by decide +kernel
theorem dX6_shuts_122 : decode cX6_shuts 122 = .ok (.aload_n 0, 1) := by decide +kernel
theorem dX6_shuts_123 : decode cX6_shuts 123 = .ok (.getfield 23, 3) := by decide +kernel
theorem dX6_shuts_126 : decode cX6_shuts 126 = .ok (.bipush 9, 2) := by decide +kernel
theorem dX6_shuts_128 : decode cX6_shuts 128 = .ok (.bipush (-9), 2) := by decide +kernel
theorem dX6_shuts_130 : decode cX6_shuts 130 = .ok (.iastore, 1) := by decide +kernel
theorem dX6_shuts_131 : decode cX6_shuts 131 = .ok (.iload_n 3, 1) := by decide +kernel
theorem dX6_shuts_132 : decode cX6_shuts 132 = .ok (.invokestatic 169, 3) := by decide +kernel
theorem dX6_shuts_135 : decode cX6_shuts 135 = .ok (.ireturn, 1) := by decide +kernel
set_option maxHeartbeats 4000000 in
set_option maxRecDepth 100000 in
theorem c_X6_shuts (E : GE) (l : Launch) (a0 : Nat → Nat) (M0 : Mo) (x1 : Int32) (x2 : Int32) (post : Int32 → Mo → Prop) (h : wp_X6_shuts M0 x1 x2 post) : Met l yX6_shuts (wz yX6_shuts cX6_shuts 7 (some .int)) { frames := 3, cells := 0, slots := 0, locals := 65 } (gPc E [.ref (a0 99), .int x1, .int x2] (gW [bModel E a0 M0])) (gQi E (gW [bModel E a0 M0]) (fun r (u : Mo) => post r u) (fun (u : Mo) w => w = gW [bModel E a0 u])) 0 0 (gIn (gW [bModel E a0 M0])) := by
  unfold wp_X6_shuts at h
  refine g_of_i (by decide) (Nat.le_of_ble_eq_true rfl) ?_
  intro p e s m below meth c A Q hx hb hml hown ht hE hP hD hret ls hl
  have hK := hE.1
  have hS : va_S A s.heap s.heap [] := va_S.rf
  have hl : lv_has ls 7 [(0, .ref (a0 99)), (1, .int x1), (2, .int x2)] := hl
  refine lv_aload_n hx hb dX6_shuts_0 rfl (lv_at hl 0 rfl) ?_
  refine lv_iload_n hx hb dX6_shuts_1 rfl (lv_at hl 1 rfl) ?_
  have p1 := gB (n := 1) (bs := [bModel E a0 M0]) (bc := [bModel E a0 M0]) (br := []) [0] rfl rfl (by decide)
  refine g_i (g_runV (As := [.int x1]) (rest := []) ⟨hx, hb, hml, hown, ht⟩ hE (c_X6_isLock E l a0 M0 x1 _ h) ⟨rfl, rfl⟩ wk_X6_149 wi_X6_isLock ws_X6_isLock wn_X6 wc_X6_isLock yd_X6_isLock ⟨Nat.le_of_ble_eq_true rfl, Nat.le_of_ble_eq_true rfl⟩ hP hD p1 (ci := 6) rfl rfl rfl rfl rfl hl.1 rfl (lv_room (Nat.le_of_ble_eq_true rfl)) dX6_shuts_2 ⟨Nat.zero_le _, Nat.zero_le _⟩) hP hD hS p1 (fun r_1 _ w H locs h hw hP hD hS => ?_)
  subst hw
  clear p1
  have p2 := gB (n := 1) (bs := [bModel E a0 M0]) (bc := [bModel E a0 M0]) (br := []) [0] rfl rfl (by decide)
  have hP := gP_perm p2.symm hP
  have hD := gD_perm p2.symm hD
  clear p2
  refine lv_if_eq (tgt := 20) hx hb dX6_shuts_5 (by decide) (fun c_2 => ?_) (fun c_2 => ?_)
  · have h := h.1 c_2
    refine lv_iconst (v := (-1)) hx hb dX6_shuts_20 (by decide) ?_
    exact hret (-1) M0 _ _ _ _ _ h rfl hP hD hS dX6_shuts_21
  · have h := h.2 c_2
    refine lv_iload_n hx hb dX6_shuts_8 rfl (lv_at hl 2 rfl) ?_
    refine lv_i2l (v := x2.toInt64) hx hb dX6_shuts_9 rfl ?_
    refine lv_lconst (v := 0) hx hb dX6_shuts_10 (by decide) ?_
    refine lv_ldc2 hx hb hown (ht _ wk_X6_167) dX6_shuts_11 ?_
    have p1 := gB (n := 1) (bs := [bModel E a0 M0]) (bc := []) (br := [bModel E a0 M0]) [0] rfl rfl (by decide)
    refine g_i (g_runS (As := [.long (x2.toInt64), .long 0, .long 999]) (rest := []) ⟨hx, hb, hml, hown, ht⟩ hE (c_X6_in E l (x2.toInt64) 0 999 _ h) ⟨rfl, rfl⟩ wk_X6_55 wt_X6_in wn_X6 wc_X6_in yd_X6_in ⟨Nat.le_of_ble_eq_true rfl, Nat.le_of_ble_eq_true rfl⟩ hP hD p1 rfl rfl hl.1 rfl (lv_room (Nat.le_of_ble_eq_true rfl)) dX6_shuts_14 ⟨Nat.zero_le _, Nat.zero_le _⟩) hP hD hS p1 (fun r_3 _ w H locs h hw hP hD hS => ?_)
    subst hw
    clear p1
    have p2 := gB (n := 1) (bs := [bModel E a0 M0]) (bc := []) (br := [bModel E a0 M0]) [0] rfl rfl (by decide)
    have hP := gP_perm p2.symm hP
    have hD := gD_perm p2.symm hD
    clear p2
    refine lv_if_ne (tgt := 22) hx hb dX6_shuts_17 (by decide) (fun c_4 => ?_) (fun c_4 => ?_)
    · have h := h.1 c_4
      refine lv_aload_n hx hb dX6_shuts_22 rfl (lv_at hl 0 rfl) ?_
      refine lv_iload_n hx hb dX6_shuts_23 rfl (lv_at hl 1 rfl) ?_
      have p1 := gB (n := 1) (bs := [bModel E a0 M0]) (bc := [bModel E a0 M0]) (br := []) [0] rfl rfl (by decide)
      refine g_i (g_runV (As := [.int x1]) (rest := []) ⟨hx, hb, hml, hown, ht⟩ hE (c_X6_canShut E l a0 M0 x1 _ h) ⟨rfl, rfl⟩ wk_X6_132 wi_X6_canShut ws_X6_canShut wn_X6 wc_X6_canShut yd_X6_canShut ⟨Nat.le_of_ble_eq_true rfl, Nat.le_of_ble_eq_true rfl⟩ hP hD p1 (ci := 6) rfl rfl rfl rfl rfl hl.1 rfl (lv_room (Nat.le_of_ble_eq_true rfl)) dX6_shuts_24 ⟨Nat.zero_le _, Nat.zero_le _⟩) hP hD hS p1 (fun r_5 _ w H locs h hw hP hD hS => ?_)
      subst hw
      clear p1
      have p2 := gB (n := 1) (bs := [bModel E a0 M0]) (bc := [bModel E a0 M0]) (br := []) [0] rfl rfl (by decide)
      have hP := gP_perm p2.symm hP
      have hD := gD_perm p2.symm hD
      clear p2
      refine lv_if_ne (tgt := 33) hx hb dX6_shuts_27 (by decide) (fun c_6 => ?_) (fun c_6 => ?_)
      · have h := h.1 c_6
        refine lv_aload_n hx hb dX6_shuts_33 rfl (lv_at hl 0 rfl) ?_
        have p1 := gB (n := 1) (bs := [bModel E a0 M0]) (bc := [bModel E a0 M0]) (br := []) [0] rfl rfl (by decide)
        refine g_v (g_runV (As := []) (rest := []) ⟨hx, hb, hml, hown, ht⟩ hE (c_X6_note E l a0 M0 _ h) ⟨rfl, rfl⟩ wk_X6_164 wi_X6_note ws_X6_note wn_X6 wc_X6_note yd_X6_note ⟨Nat.le_of_ble_eq_true rfl, Nat.le_of_ble_eq_true rfl⟩ hP hD p1 (ci := 6) rfl rfl rfl rfl rfl hl.1 rfl (lv_room (Nat.le_of_ble_eq_true rfl)) dX6_shuts_34 ⟨Nat.zero_le _, Nat.zero_le _⟩) hP hD hS p1 (fun M_7 w H locs h hw hP hD hS => ?_)
        subst hw
        clear p1
        have p2 := gB (n := 1) (bs := [bModel E a0 M_7]) (bc := [bModel E a0 M_7]) (br := []) [0] rfl rfl (by decide)
        have hP := gP_perm p2.symm hP
        have hD := gD_perm p2.symm hD
        clear p2
        refine lv_aload_n hx hb dX6_shuts_37 rfl (lv_at hl 0 rfl) ?_
        refine lv_iload_n hx hb dX6_shuts_38 rfl (lv_at hl 1 rfl) ?_
        have p1 := gB (n := 1) (bs := [bModel E a0 M_7]) (bc := [bModel E a0 M_7]) (br := []) [0] rfl rfl (by decide)
        refine g_i (g_runV (As := [.int x1]) (rest := []) ⟨hx, hb, hml, hown, ht⟩ hE (c_X6_besideBy E l a0 M_7 x1 _ h) ⟨rfl, rfl⟩ wk_X6_142 wi_X6_besideBy ws_X6_besideBy wn_X6 wc_X6_besideBy yd_X6_besideBy ⟨Nat.le_of_ble_eq_true rfl, Nat.le_of_ble_eq_true rfl⟩ hP hD p1 (ci := 6) rfl rfl rfl rfl rfl hl.1 rfl (lv_room (Nat.le_of_ble_eq_true rfl)) dX6_shuts_39 ⟨Nat.zero_le _, Nat.zero_le _⟩) hP hD hS p1 (fun r_8 _ w H locs h hw hP hD hS => ?_)
        subst hw
        clear p1
        have p2 := gB (n := 1) (bs := [bModel E a0 M_7]) (bc := [bModel E a0 M_7]) (br := []) [0] rfl rfl (by decide)
        have hP := gP_perm p2.symm hP
        have hD := gD_perm p2.symm hD
        clear p2
        refine lv_istore_n (lv' := [(3, .int r_8), (0, .ref (a0 99)), (1, .int x1), (2, .int x2)]) hx hb dX6_shuts_42 rfl hl (by decide) rfl (fun ls hl => ?_)
        refine lv_iconst (v := 0) hx hb dX6_shuts_43 (by decide) ?_
        refine lv_istore (lv' := [(4, .int 0), (3, .int r_8), (0, .ref (a0 99)), (1, .int x1), (2, .int x2)]) hx hb dX6_shuts_44 hl (by decide) rfl (fun ls hl => ?_)
        refine lv_iconst (v := 0) hx hb dX6_shuts_46 (by decide) ?_
        refine lv_istore (lv' := [(5, .int 0), (4, .int 0), (3, .int r_8), (0, .ref (a0 99)), (1, .int x1), (2, .int x2)]) hx hb dX6_shuts_47 hl (by decide) rfl (fun ls hl => ?_)
        have L49 : ∀ (n49 : Nat) (x4_49 : Int32) (x5_49 : Int32) (M0_49 : Mo) (H : Heap) (locs : List Loc) (ls : Array Slot), wp_X6_shuts_L49 post x1 x2 r_8 n49 x4_49 x5_49 M0_49 → gP E (gW [bModel E a0 M0_49]) H → va_D A (gW [bModel E a0 M0_49]) → va_S A s.heap H locs → lv_has ls 7 [(0, .ref (a0 99)), (1, .int x1), (2, .int x2), (3, .int r_8), (4, .int x4_49), (5, .int x5_49)] → W p l e { frames := 3, cells := 0, slots := 0, locals := 65 } s m ([.ref (a0 99), .int x1, .int x2] : List Value).toArray below meth c H locs 0 0 Q (F0 m 49 ls []) := by
          intro n49
          induction n49 with
          | zero => intro x4_49 x5_49 M0_49 H locs ls h; exact h.elim
          | succ n49 ih49 =>
            intro x4_49 x5_49 M0_49 H locs ls h hP hD hS hl
            rw [wp_X6_shuts_L49] at h
            refine lv_iload hx hb dX6_shuts_49 (lv_at hl 5 rfl) ?_
            refine lv_aload_n hx hb dX6_shuts_51 rfl (lv_at hl 0 rfl) ?_
            refine va_get (D := (E.1, E.2.1)) (ci := 6) (v := .ref (a0 7)) (C := RX6) (T := TX6) (N := 26) hx hb ht wu_X6 hown hK hP 0 rfl rfl 7 (by decide) (ht _ wk_X6_23) (fun _ h9 => h9) rfl dX6_shuts_52 ?_
            refine lv_bipush (v := 8) hx hb dX6_shuts_55 (by decide) ?_
            refine va_iald hx hb hK hP 4 0 rfl rfl (by unfold vp_in; decide) dX6_shuts_57 ?_
            refine lv_asi (x' := (M0_49.1.2 7 8)) rfl ?_
            refine lv_icmp_ge (tgt := 97) hx hb dX6_shuts_58 (by decide) (fun c_15 => ?_) (fun c_15 => ?_)
            · have h := h.1 c_15
              refine lv_aload_n hx hb dX6_shuts_97 rfl (lv_at hl 0 rfl) ?_
              refine va_get (D := (E.1, E.2.1)) (ci := 6) (v := .ref (a0 7)) (C := RX6) (T := TX6) (N := 26) hx hb ht wu_X6 hown hK hP 0 rfl rfl 7 (by decide) (ht _ wk_X6_23) (fun _ h9 => h9) rfl dX6_shuts_98 ?_
              refine lv_bipush (v := 8) hx hb dX6_shuts_101 (by decide) ?_
              refine lv_iload hx hb dX6_shuts_103 (lv_at hl 4 rfl) ?_
              refine va_iast hx hb hK hP hD hS 4 0 rfl rfl (by unfold vp_in; decide) dX6_shuts_105 (fun H locs hP hD hS => ?_)
              have hP : gP E (gW [bModel E a0 (pma M0_49 7 8 x4_49)]) H := hP
              have hD : va_D A (gW [bModel E a0 (pma M0_49 7 8 x4_49)]) := hD
              refine lv_aload_n hx hb dX6_shuts_106 rfl (lv_at hl 0 rfl) ?_
              refine va_get (D := (E.1, E.2.1)) (ci := 6) (v := .ref (a0 7)) (C := RX6) (T := TX6) (N := 26) hx hb ht wu_X6 hown hK hP 0 rfl rfl 7 (by decide) (ht _ wk_X6_23) (fun _ h9 => h9) rfl dX6_shuts_107 ?_
              refine lv_bipush (v := 18) hx hb dX6_shuts_110 (by decide) ?_
              refine lv_aload_n hx hb dX6_shuts_112 rfl (lv_at hl 0 rfl) ?_
              refine va_get (D := (E.1, E.2.1)) (ci := 6) (v := .ref (a0 7)) (C := RX6) (T := TX6) (N := 26) hx hb ht wu_X6 hown hK hP 0 rfl rfl 7 (by decide) (ht _ wk_X6_23) (fun _ h9 => h9) rfl dX6_shuts_113 ?_
              refine lv_bipush (v := 9) hx hb dX6_shuts_116 (by decide) ?_
              refine va_iald hx hb hK hP 4 0 rfl rfl (by unfold vp_in; decide) dX6_shuts_118 ?_
              refine lv_asi (x' := ((pma M0_49 7 8 x4_49).1.2 7 9)) rfl ?_
              refine lv_iadd hx hb dX6_shuts_119 ?_
              refine lv_iload_n hx hb dX6_shuts_120 rfl (lv_at hl 2 rfl) ?_
              refine va_iast hx hb hK hP hD hS 4 0 rfl rfl h.1 dX6_shuts_121 (fun H locs hP hD hS => ?_)
              have h := h.2
              have hP : gP E (gW [bModel E a0 (pma (pma M0_49 7 8 x4_49) 7 ((18 + ((pma M0_49 7 8 x4_49).1.2 7 9)).toNatClampNeg) x2)]) H := hP
              have hD : va_D A (gW [bModel E a0 (pma (pma M0_49 7 8 x4_49) 7 ((18 + ((pma M0_49 7 8 x4_49).1.2 7 9)).toNatClampNeg) x2)]) := hD
              obtain ⟨M_16, eM_16⟩ : ∃ z : Mo, z = (pma (pma M0_49 7 8 x4_49) 7 ((18 + ((pma M0_49 7 8 x4_49).1.2 7 9)).toNatClampNeg) x2) := ⟨_, rfl⟩
              have h := h M_16 eM_16
              rw [← eM_16] at hP hD
              refine lv_aload_n hx hb dX6_shuts_122 rfl (lv_at hl 0 rfl) ?_
              refine va_get (D := (E.1, E.2.1)) (ci := 6) (v := .ref (a0 7)) (C := RX6) (T := TX6) (N := 26) hx hb ht wu_X6 hown hK hP 0 rfl rfl 7 (by decide) (ht _ wk_X6_23) (fun _ h9 => h9) rfl dX6_shuts_123 ?_
              refine lv_bipush (v := 9) hx hb dX6_shuts_126 (by decide) ?_
              refine lv_bipush (v := (-9)) hx hb dX6_shuts_128 (by decide) ?_
              refine va_iast hx hb hK hP hD hS 4 0 rfl rfl (by unfold vp_in; decide) dX6_shuts_130 (fun H locs hP hD hS => ?_)
              have hP : gP E (gW [bModel E a0 (pma M_16 7 9 (-9))]) H := hP
              have hD : va_D A (gW [bModel E a0 (pma M_16 7 9 (-9))]) := hD
              refine lv_iload_n hx hb dX6_shuts_131 rfl (lv_at hl 3 rfl) ?_
              have p1 := gB (n := 1) (bs := [bModel E a0 (pma M_16 7 9 (-9))]) (bc := []) (br := [bModel E a0 (pma M_16 7 9 (-9))]) [0] rfl rfl (by decide)
              refine g_i (g_runS (As := [.int r_8]) (rest := []) ⟨hx, hb, hml, hown, ht⟩ hE (c_X6_ones E l r_8 _ h) ⟨rfl, rfl⟩ wk_X6_169 wt_X6_ones wn_X6 wc_X6_ones yd_X6_ones ⟨Nat.le_of_ble_eq_true rfl, Nat.le_of_ble_eq_true rfl⟩ hP hD p1 rfl rfl hl.1 rfl (lv_room (Nat.le_of_ble_eq_true rfl)) dX6_shuts_132 ⟨Nat.zero_le _, Nat.zero_le _⟩) hP hD hS p1 (fun r_17 _ w H locs h hw hP hD hS => ?_)
              subst hw
              clear p1
              have p2 := gB (n := 1) (bs := [bModel E a0 (pma M_16 7 9 (-9))]) (bc := []) (br := [bModel E a0 (pma M_16 7 9 (-9))]) [0] rfl rfl (by decide)
              have hP := gP_perm p2.symm hP
              have hD := gD_perm p2.symm hD
              clear p2
              exact hret r_17 (pma M_16 7 9 (-9)) _ _ _ _ _ h rfl hP hD hS dX6_shuts_135
            · have h := h.2 c_15
              refine lv_aload_n hx hb dX6_shuts_61 rfl (lv_at hl 0 rfl) ?_
              refine va_get (D := (E.1, E.2.1)) (ci := 6) (v := .ref (a0 7)) (C := RX6) (T := TX6) (N := 26) hx hb ht wu_X6 hown hK hP 0 rfl rfl 7 (by decide) (ht _ wk_X6_23) (fun _ h9 => h9) rfl dX6_shuts_62 ?_
              refine lv_iload hx hb dX6_shuts_65 (lv_at hl 5 rfl) ?_
              refine va_iald hx hb hK hP 4 0 rfl rfl h.1 dX6_shuts_67 ?_
              have h := h.2
              refine lv_istore (lv' := [(6, .int (M0_49.1.2 7 x5_49.toNatClampNeg)), (0, .ref (a0 99)), (1, .int x1), (2, .int x2), (3, .int r_8), (4, .int x4_49), (5, .int x5_49)]) hx hb dX6_shuts_68 hl (by decide) rfl (fun ls hl => ?_)
              refine lv_iload_n hx hb dX6_shuts_70 rfl (lv_at hl 4 rfl) ?_
              refine lv_iload hx hb dX6_shuts_71 (lv_at hl 0 rfl) ?_
              have p1 := gB (n := 1) (bs := [bModel E a0 M0_49]) (bc := []) (br := [bModel E a0 M0_49]) [0] rfl rfl (by decide)
              refine g_i (g_runS (As := [.int r_8, .int (M0_49.1.2 7 x5_49.toNatClampNeg)]) (rest := []) ⟨hx, hb, hml, hown, ht⟩ hE (c_X6_has E l r_8 (M0_49.1.2 7 x5_49.toNatClampNeg) _ h) ⟨rfl, rfl⟩ wk_X6_125 wt_X6_has wn_X6 wc_X6_has yd_X6_has ⟨Nat.le_of_ble_eq_true rfl, Nat.le_of_ble_eq_true rfl⟩ hP hD p1 rfl rfl hl.1 rfl (lv_room (Nat.le_of_ble_eq_true rfl)) dX6_shuts_73 ⟨Nat.zero_le _, Nat.zero_le _⟩) hP hD hS p1 (fun r_18 _ w H locs h hw hP hD hS => ?_)
              subst hw
              clear p1
              have p2 := gB (n := 1) (bs := [bModel E a0 M0_49]) (bc := []) (br := [bModel E a0 M0_49]) [0] rfl rfl (by decide)
              have hP := gP_perm p2.symm hP
              have hD := gD_perm p2.symm hD
              clear p2
              refine lv_if_ne (tgt := 91) hx hb dX6_shuts_76 (by decide) (fun c_19 => ?_) (fun c_19 => ?_)
              · have h := h.1 c_19
                refine lv_iinc (v := (x5_49 + 1)) (lv' := [(5, .int (x5_49 + 1)), (6, .int (M0_49.1.2 7 x5_49.toNatClampNeg)), (0, .ref (a0 99)), (1, .int x1), (2, .int x2), (3, .int r_8), (4, .int x4_49)]) hx hb dX6_shuts_91 hl (k := 6) rfl rfl (by decide) rfl (fun ls hl => ?_)
                refine lv_goto (tgt := 49) hx hb dX6_shuts_94 (by decide) ?_
                exact ih49 x4_49 (x5_49 + 1) M0_49 _ _ _ h hP hD hS (lv_sub hl [2, 3, 4, 5, 6, 0] rfl)
              · have h := h.2 c_19
                refine lv_aload_n hx hb dX6_shuts_79 rfl (lv_at hl 1 rfl) ?_
                refine va_get (D := (E.1, E.2.1)) (ci := 6) (v := .ref (a0 7)) (C := RX6) (T := TX6) (N := 26) hx hb ht wu_X6 hown hK hP 0 rfl rfl 7 (by decide) (ht _ wk_X6_23) (fun _ h9 => h9) rfl dX6_shuts_80 ?_
                refine lv_iload hx hb dX6_shuts_83 (lv_at hl 5 rfl) ?_
                refine lv_iload hx hb dX6_shuts_85 (lv_at hl 0 rfl) ?_
                refine va_iast hx hb hK hP hD hS 4 0 rfl rfl h.1 dX6_shuts_87 (fun H locs hP hD hS => ?_)
                have h := h.2
                have hP : gP E (gW [bModel E a0 (pma M0_49 7 (x4_49.toNatClampNeg) (M0_49.1.2 7 x5_49.toNatClampNeg))]) H := hP
                have hD : va_D A (gW [bModel E a0 (pma M0_49 7 (x4_49.toNatClampNeg) (M0_49.1.2 7 x5_49.toNatClampNeg))]) := hD
                obtain ⟨M_20, eM_20⟩ : ∃ z : Mo, z = (pma M0_49 7 (x4_49.toNatClampNeg) (M0_49.1.2 7 x5_49.toNatClampNeg)) := ⟨_, rfl⟩
                have h := h M_20 eM_20
                rw [← eM_20] at hP hD
                refine lv_iinc (v := (x4_49 + 1)) (lv' := [(4, .int (x4_49 + 1)), (6, .int (M0_49.1.2 7 x5_49.toNatClampNeg)), (0, .ref (a0 99)), (1, .int x1), (2, .int x2), (3, .int r_8), (5, .int x5_49)]) hx hb dX6_shuts_88 hl (k := 5) rfl rfl (by decide) rfl (fun ls hl => ?_)
                refine lv_iinc (v := (x5_49 + 1)) (lv' := [(5, .int (x5_49 + 1)), (4, .int (x4_49 + 1)), (6, .int (M0_49.1.2 7 x5_49.toNatClampNeg)), (0, .ref (a0 99)), (1, .int x1), (2, .int x2), (3, .int r_8)]) hx hb dX6_shuts_91 hl (k := 6) rfl rfl (by decide) rfl (fun ls hl => ?_)
                refine lv_goto (tgt := 49) hx hb dX6_shuts_94 (by decide) ?_
                exact ih49 (x4_49 + 1) (x5_49 + 1) M_20 _ _ _ h hP hD hS (lv_sub hl [3, 4, 5, 6, 1, 0] rfl)
        obtain ⟨n49, h⟩ := h
        exact L49 n49 0 0 M_7 _ _ _ h hP hD hS (lv_sub hl [3, 4, 5, 2, 1, 0] rfl)
      · have h := h.2 c_6
        refine lv_bipush (v := (-2)) hx hb dX6_shuts_30 (by decide) ?_
        exact hret (-2) M0 _ _ _ _ _ h rfl hP hD hS dX6_shuts_32
    · have h := h.2 c_4
      refine lv_iconst (v := (-1)) hx hb dX6_shuts_20 (by decide) ?_
      exact hret (-1) M0 _ _ _ _ _ h rfl hP hD hS dX6_shuts_21
theorem dX6_hangs_0 : decode cX6_hangs 0 = .ok (.aload_n 0, 1) := by decide +kernel
theorem dX6_hangs_1 : decode cX6_hangs 1 = .ok (.iload_n 1, 1) := by decide +kernel
theorem dX6_hangs_2 : decode cX6_hangs 2 = .ok (.invokevirtual 158, 3) := by decide +kernel
theorem dX6_hangs_5 : decode cX6_hangs 5 = .ok (.ifCond .eq 11, 3) := by decide +kernel
theorem dX6_hangs_8 : decode cX6_hangs 8 = .ok (.aload_n 0, 1) := by decide +kernel
theorem dX6_hangs_9 : decode cX6_hangs 9 = .ok (.iload_n 2, 1) := by decide +kernel
theorem dX6_hangs_10 : decode cX6_hangs 10 = .ok (.invokevirtual 149, 3) := by decide +kernel
theorem dX6_hangs_13 : decode cX6_hangs 13 = .ok (.ifCond .ne 5, 3) := by decide +kernel
theorem dX6_hangs_16 : decode cX6_hangs 16 = .ok (.iconst (-1), 1) := by decide +kernel
theorem dX6_hangs_17 : decode cX6_hangs 17 = .ok (.ireturn, 1) := by decide +kernel
theorem dX6_hangs_18 : decode cX6_hangs 18 = .ok (.aload_n 0, 1) := by decide +kernel
theorem dX6_hangs_19 : decode cX6_hangs 19 = .ok (.getfield 23, 3) := by decide +kernel
theorem dX6_hangs_22 : decode cX6_hangs 22 = .ok (.bipush 9, 2) := by decide +kernel
theorem dX6_hangs_24 : decode cX6_hangs 24 = .ok (.iaload, 1) := by decide +kernel
theorem dX6_hangs_25 : decode cX6_hangs 25 = .ok (.bipush (-9), 2) := by decide +kernel
theorem dX6_hangs_27 : decode cX6_hangs 27 = .ok (.if_icmp .eq 27, 3) := by decide +kernel
theorem dX6_hangs_30 : decode cX6_hangs 30 = .ok (.aload_n 0, 1) := by decide +kernel
theorem dX6_hangs_31 : decode cX6_hangs 31 = .ok (.iload_n 2, 1) := by decide +kernel
theorem dX6_hangs_32 : decode cX6_hangs 32 = .ok (.invokevirtual 129, 3) := by decide +kernel
theorem dX6_hangs_35 : decode cX6_hangs 35 = .ok (.ifCond .ne 19, 3) := by decide +kernel
theorem dX6_hangs_38 : decode cX6_hangs 38 = .ok (.aload_n 0, 1) := by decide +kernel
theorem dX6_hangs_39 : decode cX6_hangs 39 = .ok (.getfield 23, 3) := by decide +kernel
theorem dX6_hangs_42 : decode cX6_hangs 42 = .ok (.bipush 26, 2) := by decide +kernel
theorem dX6_hangs_44 : decode cX6_hangs 44 = .ok (.iload_n 1, 1) := by decide +kernel
theorem dX6_hangs_45 : decode cX6_hangs 45 = .ok (.iadd, 1) := by decide +kernel
theorem dX6_hangs_46 : decode cX6_hangs 46 = .ok (.iaload, 1) := by decide +kernel
theorem dX6_hangs_47 : decode cX6_hangs 47 = .ok (.iload_n 2, 1) := by decide +kernel
theorem dX6_hangs_48 : decode cX6_hangs 48 = .ok (.invokestatic 125, 3) := by decide +kernel
theorem dX6_hangs_51 : decode cX6_hangs 51 = .ok (.ifCond .ne 6, 3) := by decide +kernel
theorem dX6_hangs_54 : decode cX6_hangs 54 = .ok (.bipush (-2), 2) := by decide +kernel
theorem dX6_hangs_56 : decode cX6_hangs 56 = .ok (.ireturn, 1) := by decide +kernel
theorem dX6_hangs_57 : decode cX6_hangs 57 = .ok (.aload_n 0, 1) := by decide +kernel
theorem dX6_hangs_58 : decode cX6_hangs 58 = .ok (.invokevirtual 164, 3) := by decide +kernel
theorem dX6_hangs_61 : decode cX6_hangs 61 = .ok (.aload_n 0, 1) := by decide +kernel
theorem dX6_hangs_62 : decode cX6_hangs 62 = .ok (.aload_n 0, 1) := by decide +kernel
theorem dX6_hangs_63 : decode cX6_hangs 63 = .ok (.getfield 23, 3) := by decide +kernel
theorem dX6_hangs_66 : decode cX6_hangs 66 = .ok (.bipush 9, 2) := by decide +kernel
theorem dX6_hangs_68 : decode cX6_hangs 68 = .ok (.iaload, 1) := by decide +kernel
theorem dX6_hangs_69 : decode cX6_hangs 69 = .ok (.invokevirtual 121, 3) := by decide +kernel
theorem dX6_hangs_72 : decode cX6_hangs 72 = .ok (.iconst 1, 1) := by decide +kernel
theorem dX6_hangs_73 : decode cX6_hangs 73 = .ok (.iadd, 1) := by decide +kernel
theorem dX6_hangs_74 : decode cX6_hangs 74 = .ok (.istore_n 3, 1) := by decide +kernel
theorem dX6_hangs_75 : decode cX6_hangs 75 = .ok (.aload_n 0, 1) := by decide +kernel
theorem dX6_hangs_76 : decode cX6_hangs 76 = .ok (.getfield 23, 3) := by decide +kernel
theorem dX6_hangs_79 : decode cX6_hangs 79 = .ok (.bipush 8, 2) := by decide +kernel
theorem dX6_hangs_81 : decode cX6_hangs 81 = .ok (.iaload, 1) := by decide +kernel
theorem dX6_hangs_82 : decode cX6_hangs 82 = .ok (.istore 4, 2) := by decide +kernel
theorem dX6_hangs_84 : decode cX6_hangs 84 = .ok (.iload 4, 2) := by decide +kernel
theorem dX6_hangs_86 : decode cX6_hangs 86 = .ok (.iload_n 3, 1) := by decide +kernel
theorem dX6_hangs_87 : decode cX6_hangs 87 = .ok (.if_icmp .le 25, 3) := by decide +kernel
theorem dX6_hangs_90 : decode cX6_hangs 90 = .ok (.aload_n 0, 1) := by decide +kernel
theorem dX6_hangs_91 : decode cX6_hangs 91 = .ok (.getfield 23, 3) := by decide +kernel
theorem dX6_hangs_94 : decode cX6_hangs 94 = .ok (.iload 4, 2) := by decide +kernel
theorem dX6_hangs_96 : decode cX6_hangs 96 = .ok (.aload_n 0, 1) := by decide +kernel
theorem dX6_hangs_97 : decode cX6_hangs 97 = .ok (.getfield 23, 3) := by decide +kernel
theorem dX6_hangs_100 : decode cX6_hangs 100 = .ok (.iload 4, 2) := by decide +kernel
theorem dX6_hangs_102 : decode cX6_hangs 102 = .ok (.iconst 1, 1) := by decide +kernel
theorem dX6_hangs_103 : decode cX6_hangs 103 = .ok (.isub, 1) := by decide +kernel
theorem dX6_hangs_104 : decode cX6_hangs 104 = .ok (.iaload, 1) := by decide +kernel
theorem dX6_hangs_105 : decode cX6_hangs 105 = .ok (.iastore, 1) := by decide +kernel
theorem dX6_hangs_106 : decode cX6_hangs 106 = .ok (.iinc 4 (-1), 3) := by decide +kernel
theorem dX6_hangs_109 : decode cX6_hangs 109 = .ok (.goto (-25), 3) := by decide +kernel
theorem dX6_hangs_112 : decode cX6_hangs 112 = .ok (.aload_n 0, 1) := by decide +kernel
theorem dX6_hangs_113 : decode cX6_hangs 113 = .ok (.getfield 23, 3) := by decide +kernel
theorem dX6_hangs_116 : decode cX6_hangs 116 = .ok (.iload_n 3, 1) := by decide +kernel
theorem dX6_hangs_117 : decode cX6_hangs 117 = .ok (.iload_n 2, 1) := by decide +kernel
theorem dX6_hangs_118 : decode cX6_hangs 118 = .ok (.iastore, 1) := by decide +kernel
theorem dX6_hangs_119 : decode cX6_hangs 119 = .ok (.aload_n 0, 1) := by decide +kernel
theorem dX6_hangs_120 : decode cX6_hangs 120 = .ok (.getfield 23, 3) := by decide +kernel
theorem dX6_hangs_123 : decode cX6_hangs 123 = .ok (.bipush 8, 2) := by decide +kernel
theorem dX6_hangs_125 : decode cX6_hangs 125 = .ok (.dup2, 1) := by decide +kernel
theorem dX6_hangs_126 : decode cX6_hangs 126 = .ok (.iaload, 1) := by decide +kernel
theorem dX6_hangs_127 : decode cX6_hangs 127 = .ok (.iconst 1, 1) := by decide +kernel
theorem dX6_hangs_128 : decode cX6_hangs 128 = .ok (.iadd, 1) := by decide +kernel
theorem dX6_hangs_129 : decode cX6_hangs 129 = .ok (.iastore, 1) := by decide +kernel
theorem dX6_hangs_130 : decode cX6_hangs 130 = .ok (.aload_n 0, 1) := by decide +kernel
theorem dX6_hangs_131 : decode cX6_hangs 131 = .ok (.getfield 23, 3) := by decide +kernel
theorem dX6_hangs_134 : decode cX6_hangs 134 = .ok (.bipush 8, 2) := by decide +kernel
theorem dX6_hangs_136 : decode cX6_hangs 136 = .ok (.iaload, 1) := by decide +kernel
theorem dX6_hangs_137 : decode cX6_hangs 137 = .ok (.ireturn, 1) := by decide +kernel
set_option maxHeartbeats 4000000 in
set_option maxRecDepth 100000 in
theorem c_X6_hangs (E : GE) (l : Launch) (a0 : Nat → Nat) (M0 : Mo) (x1 : Int32) (x2 : Int32) (post : Int32 → Mo → Prop) (h : wp_X6_hangs M0 x1 x2 post) : Met l yX6_hangs (wz yX6_hangs cX6_hangs 5 (some .int)) { frames := 2, cells := 0, slots := 0, locals := 46 } (gPc E [.ref (a0 99), .int x1, .int x2] (gW [bModel E a0 M0])) (gQi E (gW [bModel E a0 M0]) (fun r (u : Mo) => post r u) (fun (u : Mo) w => w = gW [bModel E a0 u])) 0 0 (gIn (gW [bModel E a0 M0])) := by
  unfold wp_X6_hangs at h
  refine g_of_i (by decide) (Nat.le_of_ble_eq_true rfl) ?_
  intro p e s m below meth c A Q hx hb hml hown ht hE hP hD hret ls hl
  have hK := hE.1
  have hS : va_S A s.heap s.heap [] := va_S.rf
  have hl : lv_has ls 5 [(0, .ref (a0 99)), (1, .int x1), (2, .int x2)] := hl
  refine lv_aload_n hx hb dX6_hangs_0 rfl (lv_at hl 0 rfl) ?_
  refine lv_iload_n hx hb dX6_hangs_1 rfl (lv_at hl 1 rfl) ?_
  have p1 := gB (n := 1) (bs := [bModel E a0 M0]) (bc := [bModel E a0 M0]) (br := []) [0] rfl rfl (by decide)
  refine g_i (g_runV (As := [.int x1]) (rest := []) ⟨hx, hb, hml, hown, ht⟩ hE (c_X6_isOne E l a0 M0 x1 _ h) ⟨rfl, rfl⟩ wk_X6_158 wi_X6_isOne ws_X6_isOne wn_X6 wc_X6_isOne yd_X6_isOne ⟨Nat.le_of_ble_eq_true rfl, Nat.le_of_ble_eq_true rfl⟩ hP hD p1 (ci := 6) rfl rfl rfl rfl rfl hl.1 rfl (lv_room (Nat.le_of_ble_eq_true rfl)) dX6_hangs_2 ⟨Nat.zero_le _, Nat.zero_le _⟩) hP hD hS p1 (fun r_1 _ w H locs h hw hP hD hS => ?_)
  subst hw
  clear p1
  have p2 := gB (n := 1) (bs := [bModel E a0 M0]) (bc := [bModel E a0 M0]) (br := []) [0] rfl rfl (by decide)
  have hP := gP_perm p2.symm hP
  have hD := gD_perm p2.symm hD
  clear p2
  refine lv_if_eq (tgt := 16) hx hb dX6_hangs_5 (by decide) (fun c_2 => ?_) (fun c_2 => ?_)
  · have h := h.1 c_2
    refine lv_iconst (v := (-1)) hx hb dX6_hangs_16 (by decide) ?_
    exact hret (-1) M0 _ _ _ _ _ h rfl hP hD hS dX6_hangs_17
  · have h := h.2 c_2
    refine lv_aload_n hx hb dX6_hangs_8 rfl (lv_at hl 0 rfl) ?_
    refine lv_iload_n hx hb dX6_hangs_9 rfl (lv_at hl 2 rfl) ?_
    have p1 := gB (n := 1) (bs := [bModel E a0 M0]) (bc := [bModel E a0 M0]) (br := []) [0] rfl rfl (by decide)
    refine g_i (g_runV (As := [.int x2]) (rest := []) ⟨hx, hb, hml, hown, ht⟩ hE (c_X6_isLock E l a0 M0 x2 _ h) ⟨rfl, rfl⟩ wk_X6_149 wi_X6_isLock ws_X6_isLock wn_X6 wc_X6_isLock yd_X6_isLock ⟨Nat.le_of_ble_eq_true rfl, Nat.le_of_ble_eq_true rfl⟩ hP hD p1 (ci := 6) rfl rfl rfl rfl rfl hl.1 rfl (lv_room (Nat.le_of_ble_eq_true rfl)) dX6_hangs_10 ⟨Nat.zero_le _, Nat.zero_le _⟩) hP hD hS p1 (fun r_3 _ w H locs h hw hP hD hS => ?_)
    subst hw
    clear p1
    have p2 := gB (n := 1) (bs := [bModel E a0 M0]) (bc := [bModel E a0 M0]) (br := []) [0] rfl rfl (by decide)
    have hP := gP_perm p2.symm hP
    have hD := gD_perm p2.symm hD
    clear p2
    refine lv_if_ne (tgt := 18) hx hb dX6_hangs_13 (by decide) (fun c_4 => ?_) (fun c_4 => ?_)
    · have h := h.1 c_4
      refine lv_aload_n hx hb dX6_hangs_18 rfl (lv_at hl 0 rfl) ?_
      refine va_get (D := (E.1, E.2.1)) (ci := 6) (v := .ref (a0 7)) (C := RX6) (T := TX6) (N := 26) hx hb ht wu_X6 hown hK hP 0 rfl rfl 7 (by decide) (ht _ wk_X6_23) (fun _ h9 => h9) rfl dX6_hangs_19 ?_
      refine lv_bipush (v := 9) hx hb dX6_hangs_22 (by decide) ?_
      refine va_iald hx hb hK hP 4 0 rfl rfl (by unfold vp_in; decide) dX6_hangs_24 ?_
      refine lv_asi (x' := (M0.1.2 7 9)) rfl ?_
      refine lv_bipush (v := (-9)) hx hb dX6_hangs_25 (by decide) ?_
      refine lv_icmp_eq (tgt := 54) hx hb dX6_hangs_27 (by decide) (fun c_5 => ?_) (fun c_5 => ?_)
      · have h := h.1 c_5
        refine lv_bipush (v := (-2)) hx hb dX6_hangs_54 (by decide) ?_
        exact hret (-2) M0 _ _ _ _ _ h rfl hP hD hS dX6_hangs_56
      · have h := h.2 c_5
        refine lv_aload_n hx hb dX6_hangs_30 rfl (lv_at hl 0 rfl) ?_
        refine lv_iload_n hx hb dX6_hangs_31 rfl (lv_at hl 2 rfl) ?_
        have p1 := gB (n := 1) (bs := [bModel E a0 M0]) (bc := [bModel E a0 M0]) (br := []) [0] rfl rfl (by decide)
        refine g_i (g_runV (As := [.int x2]) (rest := []) ⟨hx, hb, hml, hown, ht⟩ hE (c_X6_isRing E l a0 M0 x2 _ h) ⟨rfl, rfl⟩ wk_X6_129 wi_X6_isRing ws_X6_isRing wn_X6 wc_X6_isRing yd_X6_isRing ⟨Nat.le_of_ble_eq_true rfl, Nat.le_of_ble_eq_true rfl⟩ hP hD p1 (ci := 6) rfl rfl rfl rfl rfl hl.1 rfl (lv_room (Nat.le_of_ble_eq_true rfl)) dX6_hangs_32 ⟨Nat.zero_le _, Nat.zero_le _⟩) hP hD hS p1 (fun r_6 _ w H locs h hw hP hD hS => ?_)
        subst hw
        clear p1
        have p2 := gB (n := 1) (bs := [bModel E a0 M0]) (bc := [bModel E a0 M0]) (br := []) [0] rfl rfl (by decide)
        have hP := gP_perm p2.symm hP
        have hD := gD_perm p2.symm hD
        clear p2
        refine lv_if_ne (tgt := 54) hx hb dX6_hangs_35 (by decide) (fun c_7 => ?_) (fun c_7 => ?_)
        · have h := h.1 c_7
          refine lv_bipush (v := (-2)) hx hb dX6_hangs_54 (by decide) ?_
          exact hret (-2) M0 _ _ _ _ _ h rfl hP hD hS dX6_hangs_56
        · have h := h.2 c_7
          refine lv_aload_n hx hb dX6_hangs_38 rfl (lv_at hl 0 rfl) ?_
          refine va_get (D := (E.1, E.2.1)) (ci := 6) (v := .ref (a0 7)) (C := RX6) (T := TX6) (N := 26) hx hb ht wu_X6 hown hK hP 0 rfl rfl 7 (by decide) (ht _ wk_X6_23) (fun _ h9 => h9) rfl dX6_hangs_39 ?_
          refine lv_bipush (v := 26) hx hb dX6_hangs_42 (by decide) ?_
          refine lv_iload_n hx hb dX6_hangs_44 rfl (lv_at hl 1 rfl) ?_
          refine lv_iadd hx hb dX6_hangs_45 ?_
          refine va_iald hx hb hK hP 4 0 rfl rfl h.1 dX6_hangs_46 ?_
          have h := h.2
          refine lv_iload_n hx hb dX6_hangs_47 rfl (lv_at hl 2 rfl) ?_
          have p1 := gB (n := 1) (bs := [bModel E a0 M0]) (bc := []) (br := [bModel E a0 M0]) [0] rfl rfl (by decide)
          refine g_i (g_runS (As := [.int (M0.1.2 7 (26 + x1).toNatClampNeg), .int x2]) (rest := []) ⟨hx, hb, hml, hown, ht⟩ hE (c_X6_has E l (M0.1.2 7 (26 + x1).toNatClampNeg) x2 _ h) ⟨rfl, rfl⟩ wk_X6_125 wt_X6_has wn_X6 wc_X6_has yd_X6_has ⟨Nat.le_of_ble_eq_true rfl, Nat.le_of_ble_eq_true rfl⟩ hP hD p1 rfl rfl hl.1 rfl (lv_room (Nat.le_of_ble_eq_true rfl)) dX6_hangs_48 ⟨Nat.zero_le _, Nat.zero_le _⟩) hP hD hS p1 (fun r_8 _ w H locs h hw hP hD hS => ?_)
          subst hw
          clear p1
          have p2 := gB (n := 1) (bs := [bModel E a0 M0]) (bc := []) (br := [bModel E a0 M0]) [0] rfl rfl (by decide)
          have hP := gP_perm p2.symm hP
          have hD := gD_perm p2.symm hD
          clear p2
          refine lv_if_ne (tgt := 57) hx hb dX6_hangs_51 (by decide) (fun c_9 => ?_) (fun c_9 => ?_)
          · have h := h.1 c_9
            refine lv_aload_n hx hb dX6_hangs_57 rfl (lv_at hl 0 rfl) ?_
            have p1 := gB (n := 1) (bs := [bModel E a0 M0]) (bc := [bModel E a0 M0]) (br := []) [0] rfl rfl (by decide)
            refine g_v (g_runV (As := []) (rest := []) ⟨hx, hb, hml, hown, ht⟩ hE (c_X6_note E l a0 M0 _ h) ⟨rfl, rfl⟩ wk_X6_164 wi_X6_note ws_X6_note wn_X6 wc_X6_note yd_X6_note ⟨Nat.le_of_ble_eq_true rfl, Nat.le_of_ble_eq_true rfl⟩ hP hD p1 (ci := 6) rfl rfl rfl rfl rfl hl.1 rfl (lv_room (Nat.le_of_ble_eq_true rfl)) dX6_hangs_58 ⟨Nat.zero_le _, Nat.zero_le _⟩) hP hD hS p1 (fun M_10 w H locs h hw hP hD hS => ?_)
            subst hw
            clear p1
            have p2 := gB (n := 1) (bs := [bModel E a0 M_10]) (bc := [bModel E a0 M_10]) (br := []) [0] rfl rfl (by decide)
            have hP := gP_perm p2.symm hP
            have hD := gD_perm p2.symm hD
            clear p2
            refine lv_aload_n hx hb dX6_hangs_61 rfl (lv_at hl 0 rfl) ?_
            refine lv_aload_n hx hb dX6_hangs_62 rfl (lv_at hl 0 rfl) ?_
            refine va_get (D := (E.1, E.2.1)) (ci := 6) (v := .ref (a0 7)) (C := RX6) (T := TX6) (N := 26) hx hb ht wu_X6 hown hK hP 0 rfl rfl 7 (by decide) (ht _ wk_X6_23) (fun _ h9 => h9) rfl dX6_hangs_63 ?_
            refine lv_bipush (v := 9) hx hb dX6_hangs_66 (by decide) ?_
            refine va_iald hx hb hK hP 4 0 rfl rfl (by unfold vp_in; decide) dX6_hangs_68 ?_
            refine lv_asi (x' := (M_10.1.2 7 9)) rfl ?_
            have p1 := gB (n := 1) (bs := [bModel E a0 M_10]) (bc := [bModel E a0 M_10]) (br := []) [0] rfl rfl (by decide)
            refine g_i (g_runV (As := [.int (M_10.1.2 7 9)]) (rest := []) ⟨hx, hb, hml, hown, ht⟩ hE (c_X6_placeOf E l a0 M_10 (M_10.1.2 7 9) _ h) ⟨rfl, rfl⟩ wk_X6_121 wi_X6_placeOf ws_X6_placeOf wn_X6 wc_X6_placeOf yd_X6_placeOf ⟨Nat.le_of_ble_eq_true rfl, Nat.le_of_ble_eq_true rfl⟩ hP hD p1 (ci := 6) rfl rfl rfl rfl rfl hl.1 rfl (lv_room (Nat.le_of_ble_eq_true rfl)) dX6_hangs_69 ⟨Nat.zero_le _, Nat.zero_le _⟩) hP hD hS p1 (fun r_11 _ w H locs h hw hP hD hS => ?_)
            subst hw
            clear p1
            have p2 := gB (n := 1) (bs := [bModel E a0 M_10]) (bc := [bModel E a0 M_10]) (br := []) [0] rfl rfl (by decide)
            have hP := gP_perm p2.symm hP
            have hD := gD_perm p2.symm hD
            clear p2
            refine lv_iconst (v := 1) hx hb dX6_hangs_72 (by decide) ?_
            refine lv_iadd hx hb dX6_hangs_73 ?_
            refine lv_istore_n (lv' := [(3, .int (r_11 + 1)), (0, .ref (a0 99)), (1, .int x1), (2, .int x2)]) hx hb dX6_hangs_74 rfl hl (by decide) rfl (fun ls hl => ?_)
            refine lv_aload_n hx hb dX6_hangs_75 rfl (lv_at hl 1 rfl) ?_
            refine va_get (D := (E.1, E.2.1)) (ci := 6) (v := .ref (a0 7)) (C := RX6) (T := TX6) (N := 26) hx hb ht wu_X6 hown hK hP 0 rfl rfl 7 (by decide) (ht _ wk_X6_23) (fun _ h9 => h9) rfl dX6_hangs_76 ?_
            refine lv_bipush (v := 8) hx hb dX6_hangs_79 (by decide) ?_
            refine va_iald hx hb hK hP 4 0 rfl rfl (by unfold vp_in; decide) dX6_hangs_81 ?_
            refine lv_asi (x' := (M_10.1.2 7 8)) rfl ?_
            refine lv_istore (lv' := [(4, .int (M_10.1.2 7 8)), (3, .int (r_11 + 1)), (0, .ref (a0 99)), (1, .int x1), (2, .int x2)]) hx hb dX6_hangs_82 hl (by decide) rfl (fun ls hl => ?_)
            obtain ⟨y_12, ey_12⟩ : ∃ z : Int32, z = (r_11 + 1) := ⟨_, rfl⟩
            have h := h y_12 ey_12
            rw [← ey_12] at hl
            have L84 : ∀ (n84 : Nat) (x4_84 : Int32) (M0_84 : Mo) (H : Heap) (locs : List Loc) (ls : Array Slot), wp_X6_hangs_L84 post x1 x2 y_12 n84 x4_84 M0_84 → gP E (gW [bModel E a0 M0_84]) H → va_D A (gW [bModel E a0 M0_84]) → va_S A s.heap H locs → lv_has ls 5 [(0, .ref (a0 99)), (1, .int x1), (2, .int x2), (3, .int y_12), (4, .int x4_84)] → W p l e { frames := 2, cells := 0, slots := 0, locals := 46 } s m ([.ref (a0 99), .int x1, .int x2] : List Value).toArray below meth c H locs 0 0 Q (F0 m 84 ls []) := by
              intro n84
              induction n84 with
              | zero => intro x4_84 M0_84 H locs ls h; exact h.elim
              | succ n84 ih84 =>
                intro x4_84 M0_84 H locs ls h hP hD hS hl
                rw [wp_X6_hangs_L84] at h
                refine lv_iload hx hb dX6_hangs_84 (lv_at hl 4 rfl) ?_
                refine lv_iload_n hx hb dX6_hangs_86 rfl (lv_at hl 3 rfl) ?_
                refine lv_icmp_le (tgt := 112) hx hb dX6_hangs_87 (by decide) (fun c_16 => ?_) (fun c_16 => ?_)
                · have h := h.1 c_16
                  refine lv_aload_n hx hb dX6_hangs_112 rfl (lv_at hl 0 rfl) ?_
                  refine va_get (D := (E.1, E.2.1)) (ci := 6) (v := .ref (a0 7)) (C := RX6) (T := TX6) (N := 26) hx hb ht wu_X6 hown hK hP 0 rfl rfl 7 (by decide) (ht _ wk_X6_23) (fun _ h9 => h9) rfl dX6_hangs_113 ?_
                  refine lv_iload_n hx hb dX6_hangs_116 rfl (lv_at hl 3 rfl) ?_
                  refine lv_iload_n hx hb dX6_hangs_117 rfl (lv_at hl 2 rfl) ?_
                  refine va_iast hx hb hK hP hD hS 4 0 rfl rfl h.1 dX6_hangs_118 (fun H locs hP hD hS => ?_)
                  have h := h.2
                  have hP : gP E (gW [bModel E a0 (pma M0_84 7 (y_12.toNatClampNeg) x2)]) H := hP
                  have hD : va_D A (gW [bModel E a0 (pma M0_84 7 (y_12.toNatClampNeg) x2)]) := hD
                  refine lv_aload_n hx hb dX6_hangs_119 rfl (lv_at hl 0 rfl) ?_
                  refine va_get (D := (E.1, E.2.1)) (ci := 6) (v := .ref (a0 7)) (C := RX6) (T := TX6) (N := 26) hx hb ht wu_X6 hown hK hP 0 rfl rfl 7 (by decide) (ht _ wk_X6_23) (fun _ h9 => h9) rfl dX6_hangs_120 ?_
                  refine lv_bipush (v := 8) hx hb dX6_hangs_123 (by decide) ?_
                  refine lv_dup2_11 hx hb dX6_hangs_125 rfl rfl ?_
                  refine va_iald hx hb hK hP 4 0 rfl rfl (by unfold vp_in; decide) dX6_hangs_126 ?_
                  refine lv_asi (x' := ((pma M0_84 7 (y_12.toNatClampNeg) x2).1.2 7 8)) rfl ?_
                  refine lv_iconst (v := 1) hx hb dX6_hangs_127 (by decide) ?_
                  refine lv_iadd hx hb dX6_hangs_128 ?_
                  refine va_iast hx hb hK hP hD hS 4 0 rfl rfl (by unfold vp_in; decide) dX6_hangs_129 (fun H locs hP hD hS => ?_)
                  have hP : gP E (gW [bModel E a0 (pma (pma M0_84 7 (y_12.toNatClampNeg) x2) 7 8 (((pma M0_84 7 (y_12.toNatClampNeg) x2).1.2 7 8) + 1))]) H := hP
                  have hD : va_D A (gW [bModel E a0 (pma (pma M0_84 7 (y_12.toNatClampNeg) x2) 7 8 (((pma M0_84 7 (y_12.toNatClampNeg) x2).1.2 7 8) + 1))]) := hD
                  obtain ⟨M_17, eM_17⟩ : ∃ z : Mo, z = (pma (pma M0_84 7 (y_12.toNatClampNeg) x2) 7 8 (((pma M0_84 7 (y_12.toNatClampNeg) x2).1.2 7 8) + 1)) := ⟨_, rfl⟩
                  have h := h M_17 eM_17
                  rw [← eM_17] at hP hD
                  refine lv_aload_n hx hb dX6_hangs_130 rfl (lv_at hl 0 rfl) ?_
                  refine va_get (D := (E.1, E.2.1)) (ci := 6) (v := .ref (a0 7)) (C := RX6) (T := TX6) (N := 26) hx hb ht wu_X6 hown hK hP 0 rfl rfl 7 (by decide) (ht _ wk_X6_23) (fun _ h9 => h9) rfl dX6_hangs_131 ?_
                  refine lv_bipush (v := 8) hx hb dX6_hangs_134 (by decide) ?_
                  refine va_iald hx hb hK hP 4 0 rfl rfl (by unfold vp_in; decide) dX6_hangs_136 ?_
                  refine lv_asi (x' := (M_17.1.2 7 8)) rfl ?_
                  exact hret (M_17.1.2 7 8) M_17 _ _ _ _ _ h rfl hP hD hS dX6_hangs_137
                · have h := h.2 c_16
                  refine lv_aload_n hx hb dX6_hangs_90 rfl (lv_at hl 0 rfl) ?_
                  refine va_get (D := (E.1, E.2.1)) (ci := 6) (v := .ref (a0 7)) (C := RX6) (T := TX6) (N := 26) hx hb ht wu_X6 hown hK hP 0 rfl rfl 7 (by decide) (ht _ wk_X6_23) (fun _ h9 => h9) rfl dX6_hangs_91 ?_
                  refine lv_iload hx hb dX6_hangs_94 (lv_at hl 4 rfl) ?_
                  refine lv_aload_n hx hb dX6_hangs_96 rfl (lv_at hl 0 rfl) ?_
                  refine va_get (D := (E.1, E.2.1)) (ci := 6) (v := .ref (a0 7)) (C := RX6) (T := TX6) (N := 26) hx hb ht wu_X6 hown hK hP 0 rfl rfl 7 (by decide) (ht _ wk_X6_23) (fun _ h9 => h9) rfl dX6_hangs_97 ?_
                  refine lv_iload hx hb dX6_hangs_100 (lv_at hl 4 rfl) ?_
                  refine lv_iconst (v := 1) hx hb dX6_hangs_102 (by decide) ?_
                  refine lv_isub hx hb dX6_hangs_103 ?_
                  refine va_iald hx hb hK hP 4 0 rfl rfl h.1 dX6_hangs_104 ?_
                  have h := h.2
                  refine va_iast hx hb hK hP hD hS 4 0 rfl rfl h.1 dX6_hangs_105 (fun H locs hP hD hS => ?_)
                  have h := h.2
                  have hP : gP E (gW [bModel E a0 (pma M0_84 7 (x4_84.toNatClampNeg) (M0_84.1.2 7 (x4_84 - 1).toNatClampNeg))]) H := hP
                  have hD : va_D A (gW [bModel E a0 (pma M0_84 7 (x4_84.toNatClampNeg) (M0_84.1.2 7 (x4_84 - 1).toNatClampNeg))]) := hD
                  obtain ⟨M_18, eM_18⟩ : ∃ z : Mo, z = (pma M0_84 7 (x4_84.toNatClampNeg) (M0_84.1.2 7 (x4_84 - 1).toNatClampNeg)) := ⟨_, rfl⟩
                  have h := h M_18 eM_18
                  rw [← eM_18] at hP hD
                  refine lv_iinc (v := (x4_84 + (-1))) (lv' := [(4, .int (x4_84 + (-1))), (0, .ref (a0 99)), (1, .int x1), (2, .int x2), (3, .int y_12)]) hx hb dX6_hangs_106 hl (k := 4) rfl rfl (by decide) rfl (fun ls hl => ?_)
                  refine lv_goto (tgt := 84) hx hb dX6_hangs_109 (by decide) ?_
                  exact ih84 (x4_84 + (-1)) M_18 _ _ _ h hP hD hS (lv_sub hl [1, 2, 3, 4, 0] rfl)
            obtain ⟨n84, h⟩ := h
            exact L84 n84 (M_10.1.2 7 8) M_10 _ _ _ h hP hD hS (lv_sub hl [2, 3, 4, 1, 0] rfl)
          · have h := h.2 c_9
            refine lv_bipush (v := (-2)) hx hb dX6_hangs_54 (by decide) ?_
            exact hret (-2) M0 _ _ _ _ _ h rfl hP hD hS dX6_hangs_56
    · have h := h.2 c_4
      refine lv_iconst (v := (-1)) hx hb dX6_hangs_16 (by decide) ?_
      exact hret (-1) M0 _ _ _ _ _ h rfl hP hD hS dX6_hangs_17
theorem dX6_tells_0 : decode cX6_tells 0 = .ok (.aload_n 0, 1) := by decide +kernel
theorem dX6_tells_1 : decode cX6_tells 1 = .ok (.iload_n 1, 1) := by decide +kernel
theorem dX6_tells_2 : decode cX6_tells 2 = .ok (.invokevirtual 158, 3) := by decide +kernel
theorem dX6_tells_5 : decode cX6_tells 5 = .ok (.ifCond .eq 24, 3) := by decide +kernel
theorem dX6_tells_8 : decode cX6_tells 8 = .ok (.aload_n 0, 1) := by decide +kernel
theorem dX6_tells_9 : decode cX6_tells 9 = .ok (.iload_n 2, 1) := by decide +kernel
theorem dX6_tells_10 : decode cX6_tells 10 = .ok (.invokevirtual 158, 3) := by decide +kernel
theorem dX6_tells_13 : decode cX6_tells 13 = .ok (.ifCond .eq 16, 3) := by decide +kernel
theorem dX6_tells_16 : decode cX6_tells 16 = .ok (.iload_n 1, 1) := by decide +kernel
theorem dX6_tells_17 : decode cX6_tells 17 = .ok (.iload_n 2, 1) := by decide +kernel
theorem dX6_tells_18 : decode cX6_tells 18 = .ok (.if_icmp .eq 11, 3) := by decide +kernel
theorem dX6_tells_21 : decode cX6_tells 21 = .ok (.aload_n 0, 1) := by decide +kernel
theorem dX6_tells_22 : decode cX6_tells 22 = .ok (.iload_n 3, 1) := by decide +kernel
theorem dX6_tells_23 : decode cX6_tells 23 = .ok (.invokevirtual 149, 3) := by decide +kernel
theorem dX6_tells_26 : decode cX6_tells 26 = .ok (.ifCond .ne 5, 3) := by decide +kernel
theorem dX6_tells_29 : decode cX6_tells 29 = .ok (.iconst (-1), 1) := by decide +kernel
theorem dX6_tells_30 : decode cX6_tells 30 = .ok (.ireturn, 1) := by decide +kernel
theorem dX6_tells_31 : decode cX6_tells 31 = .ok (.aload_n 0, 1) := by decide +kernel
theorem dX6_tells_32 : decode cX6_tells 32 = .ok (.getfield 23, 3) := by decide +kernel
theorem dX6_tells_35 : decode cX6_tells 35 = .ok (.bipush 26, 2) := by decide +kernel
theorem dX6_tells_37 : decode cX6_tells 37 = .ok (.iload_n 1, 1) := by decide +kernel
theorem dX6_tells_38 : decode cX6_tells 38 = .ok (.iadd, 1) := by decide +kernel
theorem dX6_tells_39 : decode cX6_tells 39 = .ok (.iaload, 1) := by decide +kernel
theorem dX6_tells_40 : decode cX6_tells 40 = .ok (.iload_n 3, 1) := by decide +kernel
theorem dX6_tells_41 : decode cX6_tells 41 = .ok (.invokestatic 125, 3) := by decide +kernel
theorem dX6_tells_44 : decode cX6_tells 44 = .ok (.ifCond .eq 19, 3) := by decide +kernel
theorem dX6_tells_47 : decode cX6_tells 47 = .ok (.aload_n 0, 1) := by decide +kernel
theorem dX6_tells_48 : decode cX6_tells 48 = .ok (.getfield 23, 3) := by decide +kernel
theorem dX6_tells_51 : decode cX6_tells 51 = .ok (.bipush 26, 2) := by decide +kernel
theorem dX6_tells_53 : decode cX6_tells 53 = .ok (.iload_n 2, 1) := by decide +kernel
theorem dX6_tells_54 : decode cX6_tells 54 = .ok (.iadd, 1) := by decide +kernel
theorem dX6_tells_55 : decode cX6_tells 55 = .ok (.iaload, 1) := by decide +kernel
theorem dX6_tells_56 : decode cX6_tells 56 = .ok (.iload_n 3, 1) := by decide +kernel
theorem dX6_tells_57 : decode cX6_tells 57 = .ok (.invokestatic 125, 3) := by decide +kernel
theorem dX6_tells_60 : decode cX6_tells 60 = .ok (.ifCond .eq 6, 3) := by decide +kernel
theorem dX6_tells_63 : decode cX6_tells 63 = .ok (.bipush (-2), 2) := by decide +kernel
theorem dX6_tells_65 : decode cX6_tells 65 = .ok (.ireturn, 1) := by decide +kernel
theorem dX6_tells_66 : decode cX6_tells 66 = .ok (.aload_n 0, 1) := by decide +kernel
theorem dX6_tells_67 : decode cX6_tells 67 = .ok (.invokevirtual 164, 3) := by decide +kernel
theorem dX6_tells_70 : decode cX6_tells 70 = .ok (.aload_n 0, 1) := by decide +kernel
theorem dX6_tells_71 : decode cX6_tells 71 = .ok (.getfield 23, 3) := by decide +kernel
theorem dX6_tells_74 : decode cX6_tells 74 = .ok (.bipush 26, 2) := by decide +kernel
theorem dX6_tells_76 : decode cX6_tells 76 = .ok (.iload_n 2, 1) := by decide +kernel
theorem dX6_tells_77 : decode cX6_tells 77 = .ok (.iadd, 1) := by decide +kernel
theorem dX6_tells_78 : decode cX6_tells 78 = .ok (.dup2, 1) := by decide +kernel
theorem dX6_tells_79 : decode cX6_tells 79 = .ok (.iaload, 1) := by decide +kernel
theorem dX6_tells_80 : decode cX6_tells 80 = .ok (.iconst 1, 1) := by decide +kernel
theorem dX6_tells_81 : decode cX6_tells 81 = .ok (.iload_n 3, 1) := by decide +kernel
theorem dX6_tells_82 : decode cX6_tells 82 = .ok (.ishl, 1) := by decide +kernel
theorem dX6_tells_83 : decode cX6_tells 83 = .ok (.ior, 1) := by decide +kernel
theorem dX6_tells_84 : decode cX6_tells 84 = .ok (.iastore, 1) := by decide +kernel
theorem dX6_tells_85 : decode cX6_tells 85 = .ok (.aload_n 0, 1) := by decide +kernel
theorem dX6_tells_86 : decode cX6_tells 86 = .ok (.iload_n 3, 1) := by decide +kernel
theorem dX6_tells_87 : decode cX6_tells 87 = .ok (.invokevirtual 152, 3) := by decide +kernel
theorem dX6_tells_90 : decode cX6_tells 90 = .ok (.invokestatic 169, 3) := by decide +kernel
theorem dX6_tells_93 : decode cX6_tells 93 = .ok (.ireturn, 1) := by decide +kernel
set_option maxHeartbeats 4000000 in
set_option maxRecDepth 100000 in
theorem c_X6_tells (E : GE) (l : Launch) (a0 : Nat → Nat) (M0 : Mo) (x1 : Int32) (x2 : Int32) (x3 : Int32) (post : Int32 → Mo → Prop) (h : wp_X6_tells M0 x1 x2 x3 post) : Met l yX6_tells (wz yX6_tells cX6_tells 4 (some .int)) { frames := 2, cells := 0, slots := 0, locals := 46 } (gPc E [.ref (a0 99), .int x1, .int x2, .int x3] (gW [bModel E a0 M0])) (gQi E (gW [bModel E a0 M0]) (fun r (u : Mo) => post r u) (fun (u : Mo) w => w = gW [bModel E a0 u])) 0 0 (gIn (gW [bModel E a0 M0])) := by
  unfold wp_X6_tells at h
  refine g_of_i (by decide) (Nat.le_of_ble_eq_true rfl) ?_
  intro p e s m below meth c A Q hx hb hml hown ht hE hP hD hret ls hl
  have hK := hE.1
  have hS : va_S A s.heap s.heap [] := va_S.rf
  have hl : lv_has ls 4 [(0, .ref (a0 99)), (1, .int x1), (2, .int x2), (3, .int x3)] := hl
  refine lv_aload_n hx hb dX6_tells_0 rfl (lv_at hl 0 rfl) ?_
  refine lv_iload_n hx hb dX6_tells_1 rfl (lv_at hl 1 rfl) ?_
  have p1 := gB (n := 1) (bs := [bModel E a0 M0]) (bc := [bModel E a0 M0]) (br := []) [0] rfl rfl (by decide)
  refine g_i (g_runV (As := [.int x1]) (rest := []) ⟨hx, hb, hml, hown, ht⟩ hE (c_X6_isOne E l a0 M0 x1 _ h) ⟨rfl, rfl⟩ wk_X6_158 wi_X6_isOne ws_X6_isOne wn_X6 wc_X6_isOne yd_X6_isOne ⟨Nat.le_of_ble_eq_true rfl, Nat.le_of_ble_eq_true rfl⟩ hP hD p1 (ci := 6) rfl rfl rfl rfl rfl hl.1 rfl (lv_room (Nat.le_of_ble_eq_true rfl)) dX6_tells_2 ⟨Nat.zero_le _, Nat.zero_le _⟩) hP hD hS p1 (fun r_1 _ w H locs h hw hP hD hS => ?_)
  subst hw
  clear p1
  have p2 := gB (n := 1) (bs := [bModel E a0 M0]) (bc := [bModel E a0 M0]) (br := []) [0] rfl rfl (by decide)
  have hP := gP_perm p2.symm hP
  have hD := gD_perm p2.symm hD
  clear p2
  refine lv_if_eq (tgt := 29) hx hb dX6_tells_5 (by decide) (fun c_2 => ?_) (fun c_2 => ?_)
  · have h := h.1 c_2
    refine lv_iconst (v := (-1)) hx hb dX6_tells_29 (by decide) ?_
    exact hret (-1) M0 _ _ _ _ _ h rfl hP hD hS dX6_tells_30
  · have h := h.2 c_2
    refine lv_aload_n hx hb dX6_tells_8 rfl (lv_at hl 0 rfl) ?_
    refine lv_iload_n hx hb dX6_tells_9 rfl (lv_at hl 2 rfl) ?_
    have p1 := gB (n := 1) (bs := [bModel E a0 M0]) (bc := [bModel E a0 M0]) (br := []) [0] rfl rfl (by decide)
    refine g_i (g_runV (As := [.int x2]) (rest := []) ⟨hx, hb, hml, hown, ht⟩ hE (c_X6_isOne E l a0 M0 x2 _ h) ⟨rfl, rfl⟩ wk_X6_158 wi_X6_isOne ws_X6_isOne wn_X6 wc_X6_isOne yd_X6_isOne ⟨Nat.le_of_ble_eq_true rfl, Nat.le_of_ble_eq_true rfl⟩ hP hD p1 (ci := 6) rfl rfl rfl rfl rfl hl.1 rfl (lv_room (Nat.le_of_ble_eq_true rfl)) dX6_tells_10 ⟨Nat.zero_le _, Nat.zero_le _⟩) hP hD hS p1 (fun r_3 _ w H locs h hw hP hD hS => ?_)
    subst hw
    clear p1
    have p2 := gB (n := 1) (bs := [bModel E a0 M0]) (bc := [bModel E a0 M0]) (br := []) [0] rfl rfl (by decide)
    have hP := gP_perm p2.symm hP
    have hD := gD_perm p2.symm hD
    clear p2
    refine lv_if_eq (tgt := 29) hx hb dX6_tells_13 (by decide) (fun c_4 => ?_) (fun c_4 => ?_)
    · have h := h.1 c_4
      refine lv_iconst (v := (-1)) hx hb dX6_tells_29 (by decide) ?_
      exact hret (-1) M0 _ _ _ _ _ h rfl hP hD hS dX6_tells_30
    · have h := h.2 c_4
      refine lv_iload_n hx hb dX6_tells_16 rfl (lv_at hl 1 rfl) ?_
      refine lv_iload_n hx hb dX6_tells_17 rfl (lv_at hl 2 rfl) ?_
      refine lv_icmp_eq (tgt := 29) hx hb dX6_tells_18 (by decide) (fun c_5 => ?_) (fun c_5 => ?_)
      · have h := h.1 c_5
        refine lv_iconst (v := (-1)) hx hb dX6_tells_29 (by decide) ?_
        exact hret (-1) M0 _ _ _ _ _ h rfl hP hD hS dX6_tells_30
      · have h := h.2 c_5
        refine lv_aload_n hx hb dX6_tells_21 rfl (lv_at hl 0 rfl) ?_
        refine lv_iload_n hx hb dX6_tells_22 rfl (lv_at hl 3 rfl) ?_
        have p1 := gB (n := 1) (bs := [bModel E a0 M0]) (bc := [bModel E a0 M0]) (br := []) [0] rfl rfl (by decide)
        refine g_i (g_runV (As := [.int x3]) (rest := []) ⟨hx, hb, hml, hown, ht⟩ hE (c_X6_isLock E l a0 M0 x3 _ h) ⟨rfl, rfl⟩ wk_X6_149 wi_X6_isLock ws_X6_isLock wn_X6 wc_X6_isLock yd_X6_isLock ⟨Nat.le_of_ble_eq_true rfl, Nat.le_of_ble_eq_true rfl⟩ hP hD p1 (ci := 6) rfl rfl rfl rfl rfl hl.1 rfl (lv_room (Nat.le_of_ble_eq_true rfl)) dX6_tells_23 ⟨Nat.zero_le _, Nat.zero_le _⟩) hP hD hS p1 (fun r_6 _ w H locs h hw hP hD hS => ?_)
        subst hw
        clear p1
        have p2 := gB (n := 1) (bs := [bModel E a0 M0]) (bc := [bModel E a0 M0]) (br := []) [0] rfl rfl (by decide)
        have hP := gP_perm p2.symm hP
        have hD := gD_perm p2.symm hD
        clear p2
        refine lv_if_ne (tgt := 31) hx hb dX6_tells_26 (by decide) (fun c_7 => ?_) (fun c_7 => ?_)
        · have h := h.1 c_7
          refine lv_aload_n hx hb dX6_tells_31 rfl (lv_at hl 0 rfl) ?_
          refine va_get (D := (E.1, E.2.1)) (ci := 6) (v := .ref (a0 7)) (C := RX6) (T := TX6) (N := 26) hx hb ht wu_X6 hown hK hP 0 rfl rfl 7 (by decide) (ht _ wk_X6_23) (fun _ h9 => h9) rfl dX6_tells_32 ?_
          refine lv_bipush (v := 26) hx hb dX6_tells_35 (by decide) ?_
          refine lv_iload_n hx hb dX6_tells_37 rfl (lv_at hl 1 rfl) ?_
          refine lv_iadd hx hb dX6_tells_38 ?_
          refine va_iald hx hb hK hP 4 0 rfl rfl h.1 dX6_tells_39 ?_
          have h := h.2
          refine lv_iload_n hx hb dX6_tells_40 rfl (lv_at hl 3 rfl) ?_
          have p1 := gB (n := 1) (bs := [bModel E a0 M0]) (bc := []) (br := [bModel E a0 M0]) [0] rfl rfl (by decide)
          refine g_i (g_runS (As := [.int (M0.1.2 7 (26 + x1).toNatClampNeg), .int x3]) (rest := []) ⟨hx, hb, hml, hown, ht⟩ hE (c_X6_has E l (M0.1.2 7 (26 + x1).toNatClampNeg) x3 _ h) ⟨rfl, rfl⟩ wk_X6_125 wt_X6_has wn_X6 wc_X6_has yd_X6_has ⟨Nat.le_of_ble_eq_true rfl, Nat.le_of_ble_eq_true rfl⟩ hP hD p1 rfl rfl hl.1 rfl (lv_room (Nat.le_of_ble_eq_true rfl)) dX6_tells_41 ⟨Nat.zero_le _, Nat.zero_le _⟩) hP hD hS p1 (fun r_8 _ w H locs h hw hP hD hS => ?_)
          subst hw
          clear p1
          have p2 := gB (n := 1) (bs := [bModel E a0 M0]) (bc := []) (br := [bModel E a0 M0]) [0] rfl rfl (by decide)
          have hP := gP_perm p2.symm hP
          have hD := gD_perm p2.symm hD
          clear p2
          refine lv_if_eq (tgt := 63) hx hb dX6_tells_44 (by decide) (fun c_9 => ?_) (fun c_9 => ?_)
          · have h := h.1 c_9
            refine lv_bipush (v := (-2)) hx hb dX6_tells_63 (by decide) ?_
            exact hret (-2) M0 _ _ _ _ _ h rfl hP hD hS dX6_tells_65
          · have h := h.2 c_9
            refine lv_aload_n hx hb dX6_tells_47 rfl (lv_at hl 0 rfl) ?_
            refine va_get (D := (E.1, E.2.1)) (ci := 6) (v := .ref (a0 7)) (C := RX6) (T := TX6) (N := 26) hx hb ht wu_X6 hown hK hP 0 rfl rfl 7 (by decide) (ht _ wk_X6_23) (fun _ h9 => h9) rfl dX6_tells_48 ?_
            refine lv_bipush (v := 26) hx hb dX6_tells_51 (by decide) ?_
            refine lv_iload_n hx hb dX6_tells_53 rfl (lv_at hl 2 rfl) ?_
            refine lv_iadd hx hb dX6_tells_54 ?_
            refine va_iald hx hb hK hP 4 0 rfl rfl h.1 dX6_tells_55 ?_
            have h := h.2
            refine lv_iload_n hx hb dX6_tells_56 rfl (lv_at hl 3 rfl) ?_
            have p1 := gB (n := 1) (bs := [bModel E a0 M0]) (bc := []) (br := [bModel E a0 M0]) [0] rfl rfl (by decide)
            refine g_i (g_runS (As := [.int (M0.1.2 7 (26 + x2).toNatClampNeg), .int x3]) (rest := []) ⟨hx, hb, hml, hown, ht⟩ hE (c_X6_has E l (M0.1.2 7 (26 + x2).toNatClampNeg) x3 _ h) ⟨rfl, rfl⟩ wk_X6_125 wt_X6_has wn_X6 wc_X6_has yd_X6_has ⟨Nat.le_of_ble_eq_true rfl, Nat.le_of_ble_eq_true rfl⟩ hP hD p1 rfl rfl hl.1 rfl (lv_room (Nat.le_of_ble_eq_true rfl)) dX6_tells_57 ⟨Nat.zero_le _, Nat.zero_le _⟩) hP hD hS p1 (fun r_10 _ w H locs h hw hP hD hS => ?_)
            subst hw
            clear p1
            have p2 := gB (n := 1) (bs := [bModel E a0 M0]) (bc := []) (br := [bModel E a0 M0]) [0] rfl rfl (by decide)
            have hP := gP_perm p2.symm hP
            have hD := gD_perm p2.symm hD
            clear p2
            refine lv_if_eq (tgt := 66) hx hb dX6_tells_60 (by decide) (fun c_11 => ?_) (fun c_11 => ?_)
            · have h := h.1 c_11
              refine lv_aload_n hx hb dX6_tells_66 rfl (lv_at hl 0 rfl) ?_
              have p1 := gB (n := 1) (bs := [bModel E a0 M0]) (bc := [bModel E a0 M0]) (br := []) [0] rfl rfl (by decide)
              refine g_v (g_runV (As := []) (rest := []) ⟨hx, hb, hml, hown, ht⟩ hE (c_X6_note E l a0 M0 _ h) ⟨rfl, rfl⟩ wk_X6_164 wi_X6_note ws_X6_note wn_X6 wc_X6_note yd_X6_note ⟨Nat.le_of_ble_eq_true rfl, Nat.le_of_ble_eq_true rfl⟩ hP hD p1 (ci := 6) rfl rfl rfl rfl rfl hl.1 rfl (lv_room (Nat.le_of_ble_eq_true rfl)) dX6_tells_67 ⟨Nat.zero_le _, Nat.zero_le _⟩) hP hD hS p1 (fun M_12 w H locs h hw hP hD hS => ?_)
              subst hw
              clear p1
              have p2 := gB (n := 1) (bs := [bModel E a0 M_12]) (bc := [bModel E a0 M_12]) (br := []) [0] rfl rfl (by decide)
              have hP := gP_perm p2.symm hP
              have hD := gD_perm p2.symm hD
              clear p2
              refine lv_aload_n hx hb dX6_tells_70 rfl (lv_at hl 0 rfl) ?_
              refine va_get (D := (E.1, E.2.1)) (ci := 6) (v := .ref (a0 7)) (C := RX6) (T := TX6) (N := 26) hx hb ht wu_X6 hown hK hP 0 rfl rfl 7 (by decide) (ht _ wk_X6_23) (fun _ h9 => h9) rfl dX6_tells_71 ?_
              refine lv_bipush (v := 26) hx hb dX6_tells_74 (by decide) ?_
              refine lv_iload_n hx hb dX6_tells_76 rfl (lv_at hl 2 rfl) ?_
              refine lv_iadd hx hb dX6_tells_77 ?_
              refine lv_dup2_11 hx hb dX6_tells_78 rfl rfl ?_
              refine va_iald hx hb hK hP 4 0 rfl rfl h.1 dX6_tells_79 ?_
              have h := h.2
              refine lv_iconst (v := 1) hx hb dX6_tells_80 (by decide) ?_
              refine lv_iload_n hx hb dX6_tells_81 rfl (lv_at hl 3 rfl) ?_
              refine lv_ishl hx hb dX6_tells_82 ?_
              refine lv_ior hx hb dX6_tells_83 ?_
              refine va_iast hx hb hK hP hD hS 4 0 rfl rfl h.1 dX6_tells_84 (fun H locs hP hD hS => ?_)
              have h := h.2
              have hP : gP E (gW [bModel E a0 (pma M_12 7 ((26 + x2).toNatClampNeg) ((M_12.1.2 7 (26 + x2).toNatClampNeg) ||| ((1 : Int32) <<< (x3 &&& 31))))]) H := hP
              have hD : va_D A (gW [bModel E a0 (pma M_12 7 ((26 + x2).toNatClampNeg) ((M_12.1.2 7 (26 + x2).toNatClampNeg) ||| ((1 : Int32) <<< (x3 &&& 31))))]) := hD
              obtain ⟨M_13, eM_13⟩ : ∃ z : Mo, z = (pma M_12 7 ((26 + x2).toNatClampNeg) ((M_12.1.2 7 (26 + x2).toNatClampNeg) ||| ((1 : Int32) <<< (x3 &&& 31)))) := ⟨_, rfl⟩
              have h := h M_13 eM_13
              rw [← eM_13] at hP hD
              refine lv_aload_n hx hb dX6_tells_85 rfl (lv_at hl 0 rfl) ?_
              refine lv_iload_n hx hb dX6_tells_86 rfl (lv_at hl 3 rfl) ?_
              have p1 := gB (n := 1) (bs := [bModel E a0 M_13]) (bc := [bModel E a0 M_13]) (br := []) [0] rfl rfl (by decide)
              refine g_i (g_runV (As := [.int x3]) (rest := []) ⟨hx, hb, hml, hown, ht⟩ hE (c_X6_knowers E l a0 M_13 x3 _ h) ⟨rfl, rfl⟩ wk_X6_152 wi_X6_knowers ws_X6_knowers wn_X6 wc_X6_knowers yd_X6_knowers ⟨Nat.le_of_ble_eq_true rfl, Nat.le_of_ble_eq_true rfl⟩ hP hD p1 (ci := 6) rfl rfl rfl rfl rfl hl.1 rfl (lv_room (Nat.le_of_ble_eq_true rfl)) dX6_tells_87 ⟨Nat.zero_le _, Nat.zero_le _⟩) hP hD hS p1 (fun r_14 _ w H locs h hw hP hD hS => ?_)
              subst hw
              clear p1
              have p2 := gB (n := 1) (bs := [bModel E a0 M_13]) (bc := [bModel E a0 M_13]) (br := []) [0] rfl rfl (by decide)
              have hP := gP_perm p2.symm hP
              have hD := gD_perm p2.symm hD
              clear p2
              have p1 := gB (n := 1) (bs := [bModel E a0 M_13]) (bc := []) (br := [bModel E a0 M_13]) [0] rfl rfl (by decide)
              refine g_i (g_runS (As := [.int r_14]) (rest := []) ⟨hx, hb, hml, hown, ht⟩ hE (c_X6_ones E l r_14 _ h) ⟨rfl, rfl⟩ wk_X6_169 wt_X6_ones wn_X6 wc_X6_ones yd_X6_ones ⟨Nat.le_of_ble_eq_true rfl, Nat.le_of_ble_eq_true rfl⟩ hP hD p1 rfl rfl hl.1 rfl (lv_room (Nat.le_of_ble_eq_true rfl)) dX6_tells_90 ⟨Nat.zero_le _, Nat.zero_le _⟩) hP hD hS p1 (fun r_15 _ w H locs h hw hP hD hS => ?_)
              subst hw
              clear p1
              have p2 := gB (n := 1) (bs := [bModel E a0 M_13]) (bc := []) (br := [bModel E a0 M_13]) [0] rfl rfl (by decide)
              have hP := gP_perm p2.symm hP
              have hD := gD_perm p2.symm hD
              clear p2
              exact hret r_15 M_13 _ _ _ _ _ h rfl hP hD hS dX6_tells_93
            · have h := h.2 c_11
              refine lv_bipush (v := (-2)) hx hb dX6_tells_63 (by decide) ?_
              exact hret (-2) M0 _ _ _ _ _ h rfl hP hD hS dX6_tells_65
        · have h := h.2 c_7
          refine lv_iconst (v := (-1)) hx hb dX6_tells_29 (by decide) ?_
          exact hret (-1) M0 _ _ _ _ _ h rfl hP hD hS dX6_tells_30
theorem dX6_changes_0 : decode cX6_changes 0 = .ok (.aload_n 0, 1) := by decide +kernel
theorem dX6_changes_1 : decode cX6_changes 1 = .ok (.iload_n 1, 1) := by decide +kernel
theorem dX6_changes_2 : decode cX6_changes 2 = .ok (.invokevirtual 158, 3) := by decide +kernel
theorem dX6_changes_5 : decode cX6_changes 5 = .ok (.ifCond .eq 15, 3) := by decide +kernel
theorem dX6_changes_8 : decode cX6_changes 8 = .ok (.iload_n 2, 1) := by decide +kernel
theorem dX6_changes_9 : decode cX6_changes 9 = .ok (.i2l, 1) := by decide +kernel
theorem dX6_changes_10 : decode cX6_changes 10 = .ok (.lconst 0, 1) := by decide +kernel
theorem dX6_changes_11 : decode cX6_changes 11 = .ok (.ldc2_w 167, 3) := by decide +kernel
theorem dX6_changes_14 : decode cX6_changes 14 = .ok (.invokestatic 55, 3) := by decide +kernel
theorem dX6_changes_17 : decode cX6_changes 17 = .ok (.ifCond .ne 5, 3) := by decide +kernel
theorem dX6_changes_20 : decode cX6_changes 20 = .ok (.iconst (-1), 1) := by decide +kernel
theorem dX6_changes_21 : decode cX6_changes 21 = .ok (.ireturn, 1) := by decide +kernel
theorem dX6_changes_22 : decode cX6_changes 22 = .ok (.aload_n 0, 1) := by decide +kernel
theorem dX6_changes_23 : decode cX6_changes 23 = .ok (.getfield 23, 3) := by decide +kernel
theorem dX6_changes_26 : decode cX6_changes 26 = .ok (.bipush 9, 2) := by decide +kernel
theorem dX6_changes_28 : decode cX6_changes 28 = .ok (.iaload, 1) := by decide +kernel
theorem dX6_changes_29 : decode cX6_changes 29 = .ok (.istore_n 3, 1) := by decide +kernel
theorem dX6_changes_30 : decode cX6_changes 30 = .ok (.iload_n 3, 1) := by decide +kernel
theorem dX6_changes_31 : decode cX6_changes 31 = .ok (.bipush (-9), 2) := by decide +kernel
theorem dX6_changes_33 : decode cX6_changes 33 = .ok (.if_icmp .eq 19, 3) := by decide +kernel
theorem dX6_changes_36 : decode cX6_changes 36 = .ok (.aload_n 0, 1) := by decide +kernel
theorem dX6_changes_37 : decode cX6_changes 37 = .ok (.getfield 23, 3) := by decide +kernel
theorem dX6_changes_40 : decode cX6_changes 40 = .ok (.bipush 26, 2) := by decide +kernel
theorem dX6_changes_42 : decode cX6_changes 42 = .ok (.iload_n 1, 1) := by decide +kernel
theorem dX6_changes_43 : decode cX6_changes 43 = .ok (.iadd, 1) := by decide +kernel
theorem dX6_changes_44 : decode cX6_changes 44 = .ok (.iaload, 1) := by decide +kernel
theorem dX6_changes_45 : decode cX6_changes 45 = .ok (.iload_n 3, 1) := by decide +kernel
theorem dX6_changes_46 : decode cX6_changes 46 = .ok (.invokestatic 125, 3) := by decide +kernel
theorem dX6_changes_49 : decode cX6_changes 49 = .ok (.ifCond .ne 6, 3) := by decide +kernel
theorem dX6_changes_52 : decode cX6_changes 52 = .ok (.bipush (-2), 2) := by decide +kernel
theorem dX6_changes_54 : decode cX6_changes 54 = .ok (.ireturn, 1) := by decide +kernel
theorem dX6_changes_55 : decode cX6_changes 55 = .ok (.aload_n 0, 1) := by decide +kernel
theorem dX6_changes_56 : decode cX6_changes 56 = .ok (.invokevirtual 164, 3) := by decide +kernel
theorem dX6_changes_59 : decode cX6_changes 59 = .ok (.aload_n 0, 1) := by decide +kernel
theorem dX6_changes_60 : decode cX6_changes 60 = .ok (.iload_n 3, 1) := by decide +kernel
theorem dX6_changes_61 : decode cX6_changes 61 = .ok (.invokevirtual 152, 3) := by decide +kernel
theorem dX6_changes_64 : decode cX6_changes 64 = .ok (.invokestatic 169, 3) := by decide +kernel
theorem dX6_changes_67 : decode cX6_changes 67 = .ok (.iconst 1, 1) := by decide +kernel
theorem dX6_changes_68 : decode cX6_changes 68 = .ok (.isub, 1) := by decide +kernel
theorem dX6_changes_69 : decode cX6_changes 69 = .ok (.istore 4, 2) := by decide +kernel
theorem dX6_changes_71 : decode cX6_changes 71 = .ok (.iconst 0, 1) := by decide +kernel
theorem dX6_changes_72 : decode cX6_changes 72 = .ok (.istore 5, 2) := by decide +kernel
theorem dX6_changes_74 : decode cX6_changes 74 = .ok (.iload 5, 2) := by decide +kernel
theorem dX6_changes_76 : decode cX6_changes 76 = .ok (.aload_n 0, 1) := by decide +kernel
theorem dX6_changes_77 : decode cX6_changes 77 = .ok (.getfield 7, 3) := by decide +kernel
theorem dX6_changes_80 : decode cX6_changes 80 = .ok (.if_icmp .ge 37, 3) := by decide +kernel
theorem dX6_changes_83 : decode cX6_changes 83 = .ok (.aload_n 0, 1) := by decide +kernel
theorem dX6_changes_84 : decode cX6_changes 84 = .ok (.getfield 23, 3) := by decide +kernel
theorem dX6_changes_87 : decode cX6_changes 87 = .ok (.bipush 26, 2) := by decide +kernel
theorem dX6_changes_89 : decode cX6_changes 89 = .ok (.iload 5, 2) := by decide +kernel
theorem dX6_changes_91 : decode cX6_changes 91 = .ok (.iadd, 1) := by decide +kernel
theorem dX6_changes_92 : decode cX6_changes 92 = .ok (.dup2, 1) := by decide +kernel
theorem dX6_changes_93 : decode cX6_changes 93 = .ok (.iaload, 1) := by decide +kernel
theorem dX6_changes_94 : decode cX6_changes 94 = .ok (.iload 5, 2) := by decide +kernel
theorem dX6_changes_96 : decode cX6_changes 96 = .ok (.iload_n 1, 1) := by decide +kernel
theorem dX6_changes_97 : decode cX6_changes 97 = .ok (.if_icmp .ne 7, 3) := by decide +kernel
theorem dX6_changes_100 : decode cX6_changes 100 = .ok (.iconst (-1), 1) := by decide +kernel
theorem dX6_changes_101 : decode cX6_changes 101 = .ok (.goto 8, 3) := by decide +kernel
theorem dX6_changes_104 : decode cX6_changes 104 = .ok (.iconst 1, 1) := by decide +kernel
theorem dX6_changes_105 : decode cX6_changes 105 = .ok (.iload_n 3, 1) := by decide +kernel
theorem dX6_changes_106 : decode cX6_changes 106 = .ok (.ishl, 1) := by decide +kernel
theorem dX6_changes_107 : decode cX6_changes 107 = .ok (.iconst (-1), 1) := by decide +kernel
theorem dX6_changes_108 : decode cX6_changes 108 = .ok (.ixor, 1) := by decide +kernel
theorem dX6_changes_109 : decode cX6_changes 109 = .ok (.iand, 1) := by decide +kernel
theorem dX6_changes_110 : decode cX6_changes 110 = .ok (.iastore, 1) := by decide +kernel
theorem dX6_changes_111 : decode cX6_changes 111 = .ok (.iinc 5 1, 3) := by decide +kernel
theorem dX6_changes_114 : decode cX6_changes 114 = .ok (.goto (-40), 3) := by decide +kernel
theorem dX6_changes_117 : decode cX6_changes 117 = .ok (.aload_n 0, 1) := by decide +kernel
theorem dX6_changes_118 : decode cX6_changes 118 = .ok (.getfield 23, 3) := by decide +kernel
theorem dX6_changes_121 : decode cX6_changes 121 = .ok (.bipush 10, 2) := by decide +kernel
theorem dX6_changes_123 : decode cX6_changes 123 = .ok (.iload_n 3, 1) := by decide +kernel
theorem dX6_changes_124 : decode cX6_changes 124 = .ok (.iadd, 1) := by decide +kernel
theorem dX6_changes_125 : decode cX6_changes 125 = .ok (.iload_n 2, 1) := by decide +kernel
theorem dX6_changes_126 : decode cX6_changes 126 = .ok (.iastore, 1) := by decide +kernel
theorem dX6_changes_127 : decode cX6_changes 127 = .ok (.aload_n 0, 1) := by decide +kernel
theorem dX6_changes_128 : decode cX6_changes 128 = .ok (.getfield 23, 3) := by decide +kernel
theorem dX6_changes_131 : decode cX6_changes 131 = .ok (.bipush 18, 2) := by decide +kernel
theorem dX6_changes_133 : decode cX6_changes 133 = .ok (.iload_n 3, 1) := by decide +kernel
theorem dX6_changes_134 : decode cX6_changes 134 = .ok (.iadd, 1) := by decide +kernel
theorem dX6_changes_135 : decode cX6_changes 135 = .ok (.iload_n 2, 1) := by decide +kernel
theorem dX6_changes_136 : decode cX6_changes 136 = .ok (.iastore, 1) := by decide +kernel
theorem dX6_changes_137 : decode cX6_changes 137 = .ok (.iload 4, 2) := by decide +kernel
theorem dX6_changes_139 : decode cX6_changes 139 = .ok (.ireturn, 1) := by decide +kernel
set_option maxHeartbeats 4000000 in
set_option maxRecDepth 100000 in
theorem c_X6_changes (E : GE) (l : Launch) (a0 : Nat → Nat) (M0 : Mo) (x1 : Int32) (x2 : Int32) (post : Int32 → Mo → Prop) (h : wp_X6_changes M0 x1 x2 post) : Met l yX6_changes (wz yX6_changes cX6_changes 6 (some .int)) { frames := 2, cells := 0, slots := 0, locals := 46 } (gPc E [.ref (a0 99), .int x1, .int x2] (gW [bModel E a0 M0])) (gQi E (gW [bModel E a0 M0]) (fun r (u : Mo) => post r u) (fun (u : Mo) w => w = gW [bModel E a0 u])) 0 0 (gIn (gW [bModel E a0 M0])) := by
  unfold wp_X6_changes at h
  refine g_of_i (by decide) (Nat.le_of_ble_eq_true rfl) ?_
  intro p e s m below meth c A Q hx hb hml hown ht hE hP hD hret ls hl
  have hK := hE.1
  have hS : va_S A s.heap s.heap [] := va_S.rf
  have hl : lv_has ls 6 [(0, .ref (a0 99)), (1, .int x1), (2, .int x2)] := hl
  refine lv_aload_n hx hb dX6_changes_0 rfl (lv_at hl 0 rfl) ?_
  refine lv_iload_n hx hb dX6_changes_1 rfl (lv_at hl 1 rfl) ?_
  have p1 := gB (n := 1) (bs := [bModel E a0 M0]) (bc := [bModel E a0 M0]) (br := []) [0] rfl rfl (by decide)
  refine g_i (g_runV (As := [.int x1]) (rest := []) ⟨hx, hb, hml, hown, ht⟩ hE (c_X6_isOne E l a0 M0 x1 _ h) ⟨rfl, rfl⟩ wk_X6_158 wi_X6_isOne ws_X6_isOne wn_X6 wc_X6_isOne yd_X6_isOne ⟨Nat.le_of_ble_eq_true rfl, Nat.le_of_ble_eq_true rfl⟩ hP hD p1 (ci := 6) rfl rfl rfl rfl rfl hl.1 rfl (lv_room (Nat.le_of_ble_eq_true rfl)) dX6_changes_2 ⟨Nat.zero_le _, Nat.zero_le _⟩) hP hD hS p1 (fun r_1 _ w H locs h hw hP hD hS => ?_)
  subst hw
  clear p1
  have p2 := gB (n := 1) (bs := [bModel E a0 M0]) (bc := [bModel E a0 M0]) (br := []) [0] rfl rfl (by decide)
  have hP := gP_perm p2.symm hP
  have hD := gD_perm p2.symm hD
  clear p2
  refine lv_if_eq (tgt := 20) hx hb dX6_changes_5 (by decide) (fun c_2 => ?_) (fun c_2 => ?_)
  · have h := h.1 c_2
    refine lv_iconst (v := (-1)) hx hb dX6_changes_20 (by decide) ?_
    exact hret (-1) M0 _ _ _ _ _ h rfl hP hD hS dX6_changes_21
  · have h := h.2 c_2
    refine lv_iload_n hx hb dX6_changes_8 rfl (lv_at hl 2 rfl) ?_
    refine lv_i2l (v := x2.toInt64) hx hb dX6_changes_9 rfl ?_
    refine lv_lconst (v := 0) hx hb dX6_changes_10 (by decide) ?_
    refine lv_ldc2 hx hb hown (ht _ wk_X6_167) dX6_changes_11 ?_
    have p1 := gB (n := 1) (bs := [bModel E a0 M0]) (bc := []) (br := [bModel E a0 M0]) [0] rfl rfl (by decide)
    refine g_i (g_runS (As := [.long (x2.toInt64), .long 0, .long 999]) (rest := []) ⟨hx, hb, hml, hown, ht⟩ hE (c_X6_in E l (x2.toInt64) 0 999 _ h) ⟨rfl, rfl⟩ wk_X6_55 wt_X6_in wn_X6 wc_X6_in yd_X6_in ⟨Nat.le_of_ble_eq_true rfl, Nat.le_of_ble_eq_true rfl⟩ hP hD p1 rfl rfl hl.1 rfl (lv_room (Nat.le_of_ble_eq_true rfl)) dX6_changes_14 ⟨Nat.zero_le _, Nat.zero_le _⟩) hP hD hS p1 (fun r_3 _ w H locs h hw hP hD hS => ?_)
    subst hw
    clear p1
    have p2 := gB (n := 1) (bs := [bModel E a0 M0]) (bc := []) (br := [bModel E a0 M0]) [0] rfl rfl (by decide)
    have hP := gP_perm p2.symm hP
    have hD := gD_perm p2.symm hD
    clear p2
    refine lv_if_ne (tgt := 22) hx hb dX6_changes_17 (by decide) (fun c_4 => ?_) (fun c_4 => ?_)
    · have h := h.1 c_4
      refine lv_aload_n hx hb dX6_changes_22 rfl (lv_at hl 0 rfl) ?_
      refine va_get (D := (E.1, E.2.1)) (ci := 6) (v := .ref (a0 7)) (C := RX6) (T := TX6) (N := 26) hx hb ht wu_X6 hown hK hP 0 rfl rfl 7 (by decide) (ht _ wk_X6_23) (fun _ h9 => h9) rfl dX6_changes_23 ?_
      refine lv_bipush (v := 9) hx hb dX6_changes_26 (by decide) ?_
      refine va_iald hx hb hK hP 4 0 rfl rfl (by unfold vp_in; decide) dX6_changes_28 ?_
      refine lv_asi (x' := (M0.1.2 7 9)) rfl ?_
      refine lv_istore_n (lv' := [(3, .int (M0.1.2 7 9)), (0, .ref (a0 99)), (1, .int x1), (2, .int x2)]) hx hb dX6_changes_29 rfl hl (by decide) rfl (fun ls hl => ?_)
      refine lv_iload_n hx hb dX6_changes_30 rfl (lv_at hl 0 rfl) ?_
      refine lv_bipush (v := (-9)) hx hb dX6_changes_31 (by decide) ?_
      refine lv_icmp_eq (tgt := 52) hx hb dX6_changes_33 (by decide) (fun c_5 => ?_) (fun c_5 => ?_)
      · have h := h.1 c_5
        refine lv_bipush (v := (-2)) hx hb dX6_changes_52 (by decide) ?_
        exact hret (-2) M0 _ _ _ _ _ h rfl hP hD hS dX6_changes_54
      · have h := h.2 c_5
        refine lv_aload_n hx hb dX6_changes_36 rfl (lv_at hl 1 rfl) ?_
        refine va_get (D := (E.1, E.2.1)) (ci := 6) (v := .ref (a0 7)) (C := RX6) (T := TX6) (N := 26) hx hb ht wu_X6 hown hK hP 0 rfl rfl 7 (by decide) (ht _ wk_X6_23) (fun _ h9 => h9) rfl dX6_changes_37 ?_
        refine lv_bipush (v := 26) hx hb dX6_changes_40 (by decide) ?_
        refine lv_iload_n hx hb dX6_changes_42 rfl (lv_at hl 2 rfl) ?_
        refine lv_iadd hx hb dX6_changes_43 ?_
        refine va_iald hx hb hK hP 4 0 rfl rfl h.1 dX6_changes_44 ?_
        have h := h.2
        refine lv_iload_n hx hb dX6_changes_45 rfl (lv_at hl 0 rfl) ?_
        have p1 := gB (n := 1) (bs := [bModel E a0 M0]) (bc := []) (br := [bModel E a0 M0]) [0] rfl rfl (by decide)
        refine g_i (g_runS (As := [.int (M0.1.2 7 (26 + x1).toNatClampNeg), .int (M0.1.2 7 9)]) (rest := []) ⟨hx, hb, hml, hown, ht⟩ hE (c_X6_has E l (M0.1.2 7 (26 + x1).toNatClampNeg) (M0.1.2 7 9) _ h) ⟨rfl, rfl⟩ wk_X6_125 wt_X6_has wn_X6 wc_X6_has yd_X6_has ⟨Nat.le_of_ble_eq_true rfl, Nat.le_of_ble_eq_true rfl⟩ hP hD p1 rfl rfl hl.1 rfl (lv_room (Nat.le_of_ble_eq_true rfl)) dX6_changes_46 ⟨Nat.zero_le _, Nat.zero_le _⟩) hP hD hS p1 (fun r_6 _ w H locs h hw hP hD hS => ?_)
        subst hw
        clear p1
        have p2 := gB (n := 1) (bs := [bModel E a0 M0]) (bc := []) (br := [bModel E a0 M0]) [0] rfl rfl (by decide)
        have hP := gP_perm p2.symm hP
        have hD := gD_perm p2.symm hD
        clear p2
        refine lv_if_ne (tgt := 55) hx hb dX6_changes_49 (by decide) (fun c_7 => ?_) (fun c_7 => ?_)
        · have h := h.1 c_7
          refine lv_aload_n hx hb dX6_changes_55 rfl (lv_at hl 1 rfl) ?_
          have p1 := gB (n := 1) (bs := [bModel E a0 M0]) (bc := [bModel E a0 M0]) (br := []) [0] rfl rfl (by decide)
          refine g_v (g_runV (As := []) (rest := []) ⟨hx, hb, hml, hown, ht⟩ hE (c_X6_note E l a0 M0 _ h) ⟨rfl, rfl⟩ wk_X6_164 wi_X6_note ws_X6_note wn_X6 wc_X6_note yd_X6_note ⟨Nat.le_of_ble_eq_true rfl, Nat.le_of_ble_eq_true rfl⟩ hP hD p1 (ci := 6) rfl rfl rfl rfl rfl hl.1 rfl (lv_room (Nat.le_of_ble_eq_true rfl)) dX6_changes_56 ⟨Nat.zero_le _, Nat.zero_le _⟩) hP hD hS p1 (fun M_8 w H locs h hw hP hD hS => ?_)
          subst hw
          clear p1
          have p2 := gB (n := 1) (bs := [bModel E a0 M_8]) (bc := [bModel E a0 M_8]) (br := []) [0] rfl rfl (by decide)
          have hP := gP_perm p2.symm hP
          have hD := gD_perm p2.symm hD
          clear p2
          refine lv_aload_n hx hb dX6_changes_59 rfl (lv_at hl 1 rfl) ?_
          refine lv_iload_n hx hb dX6_changes_60 rfl (lv_at hl 0 rfl) ?_
          have p1 := gB (n := 1) (bs := [bModel E a0 M_8]) (bc := [bModel E a0 M_8]) (br := []) [0] rfl rfl (by decide)
          refine g_i (g_runV (As := [.int (M0.1.2 7 9)]) (rest := []) ⟨hx, hb, hml, hown, ht⟩ hE (c_X6_knowers E l a0 M_8 (M0.1.2 7 9) _ h) ⟨rfl, rfl⟩ wk_X6_152 wi_X6_knowers ws_X6_knowers wn_X6 wc_X6_knowers yd_X6_knowers ⟨Nat.le_of_ble_eq_true rfl, Nat.le_of_ble_eq_true rfl⟩ hP hD p1 (ci := 6) rfl rfl rfl rfl rfl hl.1 rfl (lv_room (Nat.le_of_ble_eq_true rfl)) dX6_changes_61 ⟨Nat.zero_le _, Nat.zero_le _⟩) hP hD hS p1 (fun r_9 _ w H locs h hw hP hD hS => ?_)
          subst hw
          clear p1
          have p2 := gB (n := 1) (bs := [bModel E a0 M_8]) (bc := [bModel E a0 M_8]) (br := []) [0] rfl rfl (by decide)
          have hP := gP_perm p2.symm hP
          have hD := gD_perm p2.symm hD
          clear p2
          have p1 := gB (n := 1) (bs := [bModel E a0 M_8]) (bc := []) (br := [bModel E a0 M_8]) [0] rfl rfl (by decide)
          refine g_i (g_runS (As := [.int r_9]) (rest := []) ⟨hx, hb, hml, hown, ht⟩ hE (c_X6_ones E l r_9 _ h) ⟨rfl, rfl⟩ wk_X6_169 wt_X6_ones wn_X6 wc_X6_ones yd_X6_ones ⟨Nat.le_of_ble_eq_true rfl, Nat.le_of_ble_eq_true rfl⟩ hP hD p1 rfl rfl hl.1 rfl (lv_room (Nat.le_of_ble_eq_true rfl)) dX6_changes_64 ⟨Nat.zero_le _, Nat.zero_le _⟩) hP hD hS p1 (fun r_10 _ w H locs h hw hP hD hS => ?_)
          subst hw
          clear p1
          have p2 := gB (n := 1) (bs := [bModel E a0 M_8]) (bc := []) (br := [bModel E a0 M_8]) [0] rfl rfl (by decide)
          have hP := gP_perm p2.symm hP
          have hD := gD_perm p2.symm hD
          clear p2
          refine lv_iconst (v := 1) hx hb dX6_changes_67 (by decide) ?_
          refine lv_isub hx hb dX6_changes_68 ?_
          refine lv_istore (lv' := [(4, .int (r_10 - 1)), (3, .int (M0.1.2 7 9)), (0, .ref (a0 99)), (1, .int x1), (2, .int x2)]) hx hb dX6_changes_69 hl (by decide) rfl (fun ls hl => ?_)
          refine lv_iconst (v := 0) hx hb dX6_changes_71 (by decide) ?_
          refine lv_istore (lv' := [(5, .int 0), (4, .int (r_10 - 1)), (3, .int (M0.1.2 7 9)), (0, .ref (a0 99)), (1, .int x1), (2, .int x2)]) hx hb dX6_changes_72 hl (by decide) rfl (fun ls hl => ?_)
          obtain ⟨y_11, ey_11⟩ : ∃ z : Int32, z = (r_10 - 1) := ⟨_, rfl⟩
          have h := h y_11 ey_11
          rw [← ey_11] at hl
          obtain ⟨y_12, ey_12⟩ : ∃ z : Int32, z = (M0.1.2 7 9) := ⟨_, rfl⟩
          have h := h y_12 ey_12
          rw [← ey_12] at hl
          have L74 : ∀ (n74 : Nat) (x5_74 : Int32) (M0_74 : Mo) (H : Heap) (locs : List Loc) (ls : Array Slot), wp_X6_changes_L74 post x1 x2 y_12 y_11 n74 x5_74 M0_74 → gP E (gW [bModel E a0 M0_74]) H → va_D A (gW [bModel E a0 M0_74]) → va_S A s.heap H locs → lv_has ls 6 [(0, .ref (a0 99)), (1, .int x1), (2, .int x2), (3, .int y_12), (4, .int y_11), (5, .int x5_74)] → W p l e { frames := 2, cells := 0, slots := 0, locals := 46 } s m ([.ref (a0 99), .int x1, .int x2] : List Value).toArray below meth c H locs 0 0 Q (F0 m 74 ls []) := by
            intro n74
            induction n74 with
            | zero => intro x5_74 M0_74 H locs ls h; exact h.elim
            | succ n74 ih74 =>
              intro x5_74 M0_74 H locs ls h hP hD hS hl
              rw [wp_X6_changes_L74] at h
              refine lv_iload hx hb dX6_changes_74 (lv_at hl 5 rfl) ?_
              refine lv_aload_n hx hb dX6_changes_76 rfl (lv_at hl 0 rfl) ?_
              refine va_get (D := (E.1, E.2.1)) (ci := 6) (v := .int (M0_74.1.1 0)) (C := RX6) (T := TX6) (N := 26) hx hb ht wu_X6 hown hK hP 0 rfl rfl 0 (by decide) (ht _ wk_X6_7) (fun _ h9 => h9) rfl dX6_changes_77 ?_
              refine lv_icmp_ge (tgt := 117) hx hb dX6_changes_80 (by decide) (fun c_19 => ?_) (fun c_19 => ?_)
              · have h := h.1 c_19
                refine lv_aload_n hx hb dX6_changes_117 rfl (lv_at hl 0 rfl) ?_
                refine va_get (D := (E.1, E.2.1)) (ci := 6) (v := .ref (a0 7)) (C := RX6) (T := TX6) (N := 26) hx hb ht wu_X6 hown hK hP 0 rfl rfl 7 (by decide) (ht _ wk_X6_23) (fun _ h9 => h9) rfl dX6_changes_118 ?_
                refine lv_bipush (v := 10) hx hb dX6_changes_121 (by decide) ?_
                refine lv_iload_n hx hb dX6_changes_123 rfl (lv_at hl 3 rfl) ?_
                refine lv_iadd hx hb dX6_changes_124 ?_
                refine lv_iload_n hx hb dX6_changes_125 rfl (lv_at hl 2 rfl) ?_
                refine va_iast hx hb hK hP hD hS 4 0 rfl rfl h.1 dX6_changes_126 (fun H locs hP hD hS => ?_)
                have h := h.2
                have hP : gP E (gW [bModel E a0 (pma M0_74 7 ((10 + y_12).toNatClampNeg) x2)]) H := hP
                have hD : va_D A (gW [bModel E a0 (pma M0_74 7 ((10 + y_12).toNatClampNeg) x2)]) := hD
                obtain ⟨M_20, eM_20⟩ : ∃ z : Mo, z = (pma M0_74 7 ((10 + y_12).toNatClampNeg) x2) := ⟨_, rfl⟩
                have h := h M_20 eM_20
                rw [← eM_20] at hP hD
                refine lv_aload_n hx hb dX6_changes_127 rfl (lv_at hl 0 rfl) ?_
                refine va_get (D := (E.1, E.2.1)) (ci := 6) (v := .ref (a0 7)) (C := RX6) (T := TX6) (N := 26) hx hb ht wu_X6 hown hK hP 0 rfl rfl 7 (by decide) (ht _ wk_X6_23) (fun _ h9 => h9) rfl dX6_changes_128 ?_
                refine lv_bipush (v := 18) hx hb dX6_changes_131 (by decide) ?_
                refine lv_iload_n hx hb dX6_changes_133 rfl (lv_at hl 3 rfl) ?_
                refine lv_iadd hx hb dX6_changes_134 ?_
                refine lv_iload_n hx hb dX6_changes_135 rfl (lv_at hl 2 rfl) ?_
                refine va_iast hx hb hK hP hD hS 4 0 rfl rfl h.1 dX6_changes_136 (fun H locs hP hD hS => ?_)
                have h := h.2
                have hP : gP E (gW [bModel E a0 (pma M_20 7 ((18 + y_12).toNatClampNeg) x2)]) H := hP
                have hD : va_D A (gW [bModel E a0 (pma M_20 7 ((18 + y_12).toNatClampNeg) x2)]) := hD
                obtain ⟨M_21, eM_21⟩ : ∃ z : Mo, z = (pma M_20 7 ((18 + y_12).toNatClampNeg) x2) := ⟨_, rfl⟩
                have h := h M_21 eM_21
                rw [← eM_21] at hP hD
                refine lv_iload hx hb dX6_changes_137 (lv_at hl 4 rfl) ?_
                exact hret y_11 M_21 _ _ _ _ _ h rfl hP hD hS dX6_changes_139
              · have h := h.2 c_19
                refine lv_aload_n hx hb dX6_changes_83 rfl (lv_at hl 0 rfl) ?_
                refine va_get (D := (E.1, E.2.1)) (ci := 6) (v := .ref (a0 7)) (C := RX6) (T := TX6) (N := 26) hx hb ht wu_X6 hown hK hP 0 rfl rfl 7 (by decide) (ht _ wk_X6_23) (fun _ h9 => h9) rfl dX6_changes_84 ?_
                refine lv_bipush (v := 26) hx hb dX6_changes_87 (by decide) ?_
                refine lv_iload hx hb dX6_changes_89 (lv_at hl 5 rfl) ?_
                refine lv_iadd hx hb dX6_changes_91 ?_
                refine lv_dup2_11 hx hb dX6_changes_92 rfl rfl ?_
                refine va_iald hx hb hK hP 4 0 rfl rfl h.1 dX6_changes_93 ?_
                have h := h.2
                refine lv_iload hx hb dX6_changes_94 (lv_at hl 5 rfl) ?_
                refine lv_iload_n hx hb dX6_changes_96 rfl (lv_at hl 1 rfl) ?_
                refine lv_icmp_ne (tgt := 104) hx hb dX6_changes_97 (by decide) (fun c_22 => ?_) (fun c_22 => ?_)
                · have h := h.1 c_22
                  refine lv_iconst (v := 1) hx hb dX6_changes_104 (by decide) ?_
                  refine lv_iload_n hx hb dX6_changes_105 rfl (lv_at hl 3 rfl) ?_
                  refine lv_ishl hx hb dX6_changes_106 ?_
                  refine lv_iconst (v := (-1)) hx hb dX6_changes_107 (by decide) ?_
                  refine lv_ixor hx hb dX6_changes_108 ?_
                  refine lv_iand hx hb dX6_changes_109 ?_
                  refine va_iast hx hb hK hP hD hS 4 0 rfl rfl h.1 dX6_changes_110 (fun H locs hP hD hS => ?_)
                  have h := h.2
                  have hP : gP E (gW [bModel E a0 (pma M0_74 7 ((26 + x5_74).toNatClampNeg) ((M0_74.1.2 7 (26 + x5_74).toNatClampNeg) &&& (((1 : Int32) <<< (y_12 &&& 31)) ^^^ (-1))))]) H := hP
                  have hD : va_D A (gW [bModel E a0 (pma M0_74 7 ((26 + x5_74).toNatClampNeg) ((M0_74.1.2 7 (26 + x5_74).toNatClampNeg) &&& (((1 : Int32) <<< (y_12 &&& 31)) ^^^ (-1))))]) := hD
                  obtain ⟨M_23, eM_23⟩ : ∃ z : Mo, z = (pma M0_74 7 ((26 + x5_74).toNatClampNeg) ((M0_74.1.2 7 (26 + x5_74).toNatClampNeg) &&& (((1 : Int32) <<< (y_12 &&& 31)) ^^^ (-1)))) := ⟨_, rfl⟩
                  have h := h M_23 eM_23
                  rw [← eM_23] at hP hD
                  refine lv_iinc (v := (x5_74 + 1)) (lv' := [(5, .int (x5_74 + 1)), (0, .ref (a0 99)), (1, .int x1), (2, .int x2), (3, .int y_12), (4, .int y_11)]) hx hb dX6_changes_111 hl (k := 5) rfl rfl (by decide) rfl (fun ls hl => ?_)
                  refine lv_goto (tgt := 74) hx hb dX6_changes_114 (by decide) ?_
                  exact ih74 (x5_74 + 1) M_23 _ _ _ h hP hD hS (lv_sub hl [1, 2, 3, 4, 5, 0] rfl)
                · have h := h.2 c_22
                  refine lv_iconst (v := (-1)) hx hb dX6_changes_100 (by decide) ?_
                  refine lv_goto (tgt := 109) hx hb dX6_changes_101 (by decide) ?_
                  refine lv_iand hx hb dX6_changes_109 ?_
                  refine va_iast hx hb hK hP hD hS 4 0 rfl rfl h.1 dX6_changes_110 (fun H locs hP hD hS => ?_)
                  have h := h.2
                  have hP : gP E (gW [bModel E a0 (pma M0_74 7 ((26 + x5_74).toNatClampNeg) ((M0_74.1.2 7 (26 + x5_74).toNatClampNeg) &&& (-1)))]) H := hP
                  have hD : va_D A (gW [bModel E a0 (pma M0_74 7 ((26 + x5_74).toNatClampNeg) ((M0_74.1.2 7 (26 + x5_74).toNatClampNeg) &&& (-1)))]) := hD
                  obtain ⟨M_24, eM_24⟩ : ∃ z : Mo, z = (pma M0_74 7 ((26 + x5_74).toNatClampNeg) ((M0_74.1.2 7 (26 + x5_74).toNatClampNeg) &&& (-1))) := ⟨_, rfl⟩
                  have h := h M_24 eM_24
                  rw [← eM_24] at hP hD
                  refine lv_iinc (v := (x5_74 + 1)) (lv' := [(5, .int (x5_74 + 1)), (0, .ref (a0 99)), (1, .int x1), (2, .int x2), (3, .int y_12), (4, .int y_11)]) hx hb dX6_changes_111 hl (k := 5) rfl rfl (by decide) rfl (fun ls hl => ?_)
                  refine lv_goto (tgt := 74) hx hb dX6_changes_114 (by decide) ?_
                  exact ih74 (x5_74 + 1) M_24 _ _ _ h hP hD hS (lv_sub hl [1, 2, 3, 4, 5, 0] rfl)
          obtain ⟨n74, h⟩ := h
          exact L74 n74 0 M_8 _ _ _ h hP hD hS (lv_sub hl [3, 4, 5, 2, 1, 0] rfl)
        · have h := h.2 c_7
          refine lv_bipush (v := (-2)) hx hb dX6_changes_52 (by decide) ?_
          exact hret (-2) M0 _ _ _ _ _ h rfl hP hD hS dX6_changes_54
    · have h := h.2 c_4
      refine lv_iconst (v := (-1)) hx hb dX6_changes_20 (by decide) ?_
      exact hret (-1) M0 _ _ _ _ _ h rfl hP hD hS dX6_changes_21
theorem dX6_tries_0 : decode cX6_tries 0 = .ok (.aload_n 0, 1) := by decide +kernel
theorem dX6_tries_1 : decode cX6_tries 1 = .ok (.iload_n 1, 1) := by decide +kernel
theorem dX6_tries_2 : decode cX6_tries 2 = .ok (.invokevirtual 149, 3) := by decide +kernel
theorem dX6_tries_5 : decode cX6_tries 5 = .ok (.ifCond .eq 15, 3) := by decide +kernel
theorem dX6_tries_8 : decode cX6_tries 8 = .ok (.iload_n 2, 1) := by decide +kernel
theorem dX6_tries_9 : decode cX6_tries 9 = .ok (.i2l, 1) := by decide +kernel
theorem dX6_tries_10 : decode cX6_tries 10 = .ok (.lconst 0, 1) := by decide +kernel
theorem dX6_tries_11 : decode cX6_tries 11 = .ok (.ldc2_w 167, 3) := by decide +kernel
theorem dX6_tries_14 : decode cX6_tries 14 = .ok (.invokestatic 55, 3) := by decide +kernel
theorem dX6_tries_17 : decode cX6_tries 17 = .ok (.ifCond .ne 5, 3) := by decide +kernel
theorem dX6_tries_20 : decode cX6_tries 20 = .ok (.iconst (-1), 1) := by decide +kernel
theorem dX6_tries_21 : decode cX6_tries 21 = .ok (.ireturn, 1) := by decide +kernel
theorem dX6_tries_22 : decode cX6_tries 22 = .ok (.aload_n 0, 1) := by decide +kernel
theorem dX6_tries_23 : decode cX6_tries 23 = .ok (.getfield 23, 3) := by decide +kernel
theorem dX6_tries_26 : decode cX6_tries 26 = .ok (.bipush 9, 2) := by decide +kernel
theorem dX6_tries_28 : decode cX6_tries 28 = .ok (.iaload, 1) := by decide +kernel
theorem dX6_tries_29 : decode cX6_tries 29 = .ok (.bipush (-9), 2) := by decide +kernel
theorem dX6_tries_31 : decode cX6_tries 31 = .ok (.if_icmp .ne 11, 3) := by decide +kernel
theorem dX6_tries_34 : decode cX6_tries 34 = .ok (.aload_n 0, 1) := by decide +kernel
theorem dX6_tries_35 : decode cX6_tries 35 = .ok (.iload_n 1, 1) := by decide +kernel
theorem dX6_tries_36 : decode cX6_tries 36 = .ok (.invokevirtual 129, 3) := by decide +kernel
theorem dX6_tries_39 : decode cX6_tries 39 = .ok (.ifCond .ne 6, 3) := by decide +kernel
theorem dX6_tries_42 : decode cX6_tries 42 = .ok (.bipush (-2), 2) := by decide +kernel
theorem dX6_tries_44 : decode cX6_tries 44 = .ok (.ireturn, 1) := by decide +kernel
theorem dX6_tries_45 : decode cX6_tries 45 = .ok (.aload_n 0, 1) := by decide +kernel
theorem dX6_tries_46 : decode cX6_tries 46 = .ok (.invokevirtual 164, 3) := by decide +kernel
theorem dX6_tries_49 : decode cX6_tries 49 = .ok (.aload_n 0, 1) := by decide +kernel
theorem dX6_tries_50 : decode cX6_tries 50 = .ok (.getfield 23, 3) := by decide +kernel
theorem dX6_tries_53 : decode cX6_tries 53 = .ok (.bipush 18, 2) := by decide +kernel
theorem dX6_tries_55 : decode cX6_tries 55 = .ok (.iload_n 1, 1) := by decide +kernel
theorem dX6_tries_56 : decode cX6_tries 56 = .ok (.iadd, 1) := by decide +kernel
theorem dX6_tries_57 : decode cX6_tries 57 = .ok (.iload_n 2, 1) := by decide +kernel
theorem dX6_tries_58 : decode cX6_tries 58 = .ok (.iastore, 1) := by decide +kernel
theorem dX6_tries_59 : decode cX6_tries 59 = .ok (.iload_n 2, 1) := by decide +kernel
theorem dX6_tries_60 : decode cX6_tries 60 = .ok (.aload_n 0, 1) := by decide +kernel
theorem dX6_tries_61 : decode cX6_tries 61 = .ok (.getfield 23, 3) := by decide +kernel
theorem dX6_tries_64 : decode cX6_tries 64 = .ok (.bipush 10, 2) := by decide +kernel
theorem dX6_tries_66 : decode cX6_tries 66 = .ok (.iload_n 1, 1) := by decide +kernel
theorem dX6_tries_67 : decode cX6_tries 67 = .ok (.iadd, 1) := by decide +kernel
theorem dX6_tries_68 : decode cX6_tries 68 = .ok (.iaload, 1) := by decide +kernel
theorem dX6_tries_69 : decode cX6_tries 69 = .ok (.invokestatic 172, 3) := by decide +kernel
theorem dX6_tries_72 : decode cX6_tries 72 = .ok (.istore_n 3, 1) := by decide +kernel
theorem dX6_tries_73 : decode cX6_tries 73 = .ok (.aload_n 0, 1) := by decide +kernel
theorem dX6_tries_74 : decode cX6_tries 74 = .ok (.getfield 23, 3) := by decide +kernel
theorem dX6_tries_77 : decode cX6_tries 77 = .ok (.bipush 9, 2) := by decide +kernel
theorem dX6_tries_79 : decode cX6_tries 79 = .ok (.iload_n 3, 1) := by decide +kernel
theorem dX6_tries_80 : decode cX6_tries 80 = .ok (.iconst 3, 1) := by decide +kernel
theorem dX6_tries_81 : decode cX6_tries 81 = .ok (.if_icmp .ne 7, 3) := by decide +kernel
theorem dX6_tries_84 : decode cX6_tries 84 = .ok (.iload_n 1, 1) := by decide +kernel
theorem dX6_tries_85 : decode cX6_tries 85 = .ok (.goto 5, 3) := by decide +kernel
theorem dX6_tries_88 : decode cX6_tries 88 = .ok (.bipush (-9), 2) := by decide +kernel
theorem dX6_tries_90 : decode cX6_tries 90 = .ok (.iastore, 1) := by decide +kernel
theorem dX6_tries_91 : decode cX6_tries 91 = .ok (.iload_n 3, 1) := by decide +kernel
theorem dX6_tries_92 : decode cX6_tries 92 = .ok (.ireturn, 1) := by decide +kernel
set_option maxHeartbeats 4000000 in
set_option maxRecDepth 100000 in
theorem c_X6_tries (E : GE) (l : Launch) (a0 : Nat → Nat) (M0 : Mo) (x1 : Int32) (x2 : Int32) (post : Int32 → Mo → Prop) (h : wp_X6_tries M0 x1 x2 post) : Met l yX6_tries (wz yX6_tries cX6_tries 4 (some .int)) { frames := 2, cells := 0, slots := 0, locals := 46 } (gPc E [.ref (a0 99), .int x1, .int x2] (gW [bModel E a0 M0])) (gQi E (gW [bModel E a0 M0]) (fun r (u : Mo) => post r u) (fun (u : Mo) w => w = gW [bModel E a0 u])) 0 0 (gIn (gW [bModel E a0 M0])) := by
  unfold wp_X6_tries at h
  refine g_of_i (by decide) (Nat.le_of_ble_eq_true rfl) ?_
  intro p e s m below meth c A Q hx hb hml hown ht hE hP hD hret ls hl
  have hK := hE.1
  have hS : va_S A s.heap s.heap [] := va_S.rf
  have hl : lv_has ls 4 [(0, .ref (a0 99)), (1, .int x1), (2, .int x2)] := hl
  refine lv_aload_n hx hb dX6_tries_0 rfl (lv_at hl 0 rfl) ?_
  refine lv_iload_n hx hb dX6_tries_1 rfl (lv_at hl 1 rfl) ?_
  have p1 := gB (n := 1) (bs := [bModel E a0 M0]) (bc := [bModel E a0 M0]) (br := []) [0] rfl rfl (by decide)
  refine g_i (g_runV (As := [.int x1]) (rest := []) ⟨hx, hb, hml, hown, ht⟩ hE (c_X6_isLock E l a0 M0 x1 _ h) ⟨rfl, rfl⟩ wk_X6_149 wi_X6_isLock ws_X6_isLock wn_X6 wc_X6_isLock yd_X6_isLock ⟨Nat.le_of_ble_eq_true rfl, Nat.le_of_ble_eq_true rfl⟩ hP hD p1 (ci := 6) rfl rfl rfl rfl rfl hl.1 rfl (lv_room (Nat.le_of_ble_eq_true rfl)) dX6_tries_2 ⟨Nat.zero_le _, Nat.zero_le _⟩) hP hD hS p1 (fun r_1 _ w H locs h hw hP hD hS => ?_)
  subst hw
  clear p1
  have p2 := gB (n := 1) (bs := [bModel E a0 M0]) (bc := [bModel E a0 M0]) (br := []) [0] rfl rfl (by decide)
  have hP := gP_perm p2.symm hP
  have hD := gD_perm p2.symm hD
  clear p2
  refine lv_if_eq (tgt := 20) hx hb dX6_tries_5 (by decide) (fun c_2 => ?_) (fun c_2 => ?_)
  · have h := h.1 c_2
    refine lv_iconst (v := (-1)) hx hb dX6_tries_20 (by decide) ?_
    exact hret (-1) M0 _ _ _ _ _ h rfl hP hD hS dX6_tries_21
  · have h := h.2 c_2
    refine lv_iload_n hx hb dX6_tries_8 rfl (lv_at hl 2 rfl) ?_
    refine lv_i2l (v := x2.toInt64) hx hb dX6_tries_9 rfl ?_
    refine lv_lconst (v := 0) hx hb dX6_tries_10 (by decide) ?_
    refine lv_ldc2 hx hb hown (ht _ wk_X6_167) dX6_tries_11 ?_
    have p1 := gB (n := 1) (bs := [bModel E a0 M0]) (bc := []) (br := [bModel E a0 M0]) [0] rfl rfl (by decide)
    refine g_i (g_runS (As := [.long (x2.toInt64), .long 0, .long 999]) (rest := []) ⟨hx, hb, hml, hown, ht⟩ hE (c_X6_in E l (x2.toInt64) 0 999 _ h) ⟨rfl, rfl⟩ wk_X6_55 wt_X6_in wn_X6 wc_X6_in yd_X6_in ⟨Nat.le_of_ble_eq_true rfl, Nat.le_of_ble_eq_true rfl⟩ hP hD p1 rfl rfl hl.1 rfl (lv_room (Nat.le_of_ble_eq_true rfl)) dX6_tries_14 ⟨Nat.zero_le _, Nat.zero_le _⟩) hP hD hS p1 (fun r_3 _ w H locs h hw hP hD hS => ?_)
    subst hw
    clear p1
    have p2 := gB (n := 1) (bs := [bModel E a0 M0]) (bc := []) (br := [bModel E a0 M0]) [0] rfl rfl (by decide)
    have hP := gP_perm p2.symm hP
    have hD := gD_perm p2.symm hD
    clear p2
    refine lv_if_ne (tgt := 22) hx hb dX6_tries_17 (by decide) (fun c_4 => ?_) (fun c_4 => ?_)
    · have h := h.1 c_4
      refine lv_aload_n hx hb dX6_tries_22 rfl (lv_at hl 0 rfl) ?_
      refine va_get (D := (E.1, E.2.1)) (ci := 6) (v := .ref (a0 7)) (C := RX6) (T := TX6) (N := 26) hx hb ht wu_X6 hown hK hP 0 rfl rfl 7 (by decide) (ht _ wk_X6_23) (fun _ h9 => h9) rfl dX6_tries_23 ?_
      refine lv_bipush (v := 9) hx hb dX6_tries_26 (by decide) ?_
      refine va_iald hx hb hK hP 4 0 rfl rfl (by unfold vp_in; decide) dX6_tries_28 ?_
      refine lv_asi (x' := (M0.1.2 7 9)) rfl ?_
      refine lv_bipush (v := (-9)) hx hb dX6_tries_29 (by decide) ?_
      refine lv_icmp_ne (tgt := 42) hx hb dX6_tries_31 (by decide) (fun c_5 => ?_) (fun c_5 => ?_)
      · have h := h.1 c_5
        refine lv_bipush (v := (-2)) hx hb dX6_tries_42 (by decide) ?_
        exact hret (-2) M0 _ _ _ _ _ h rfl hP hD hS dX6_tries_44
      · have h := h.2 c_5
        refine lv_aload_n hx hb dX6_tries_34 rfl (lv_at hl 0 rfl) ?_
        refine lv_iload_n hx hb dX6_tries_35 rfl (lv_at hl 1 rfl) ?_
        have p1 := gB (n := 1) (bs := [bModel E a0 M0]) (bc := [bModel E a0 M0]) (br := []) [0] rfl rfl (by decide)
        refine g_i (g_runV (As := [.int x1]) (rest := []) ⟨hx, hb, hml, hown, ht⟩ hE (c_X6_isRing E l a0 M0 x1 _ h) ⟨rfl, rfl⟩ wk_X6_129 wi_X6_isRing ws_X6_isRing wn_X6 wc_X6_isRing yd_X6_isRing ⟨Nat.le_of_ble_eq_true rfl, Nat.le_of_ble_eq_true rfl⟩ hP hD p1 (ci := 6) rfl rfl rfl rfl rfl hl.1 rfl (lv_room (Nat.le_of_ble_eq_true rfl)) dX6_tries_36 ⟨Nat.zero_le _, Nat.zero_le _⟩) hP hD hS p1 (fun r_6 _ w H locs h hw hP hD hS => ?_)
        subst hw
        clear p1
        have p2 := gB (n := 1) (bs := [bModel E a0 M0]) (bc := [bModel E a0 M0]) (br := []) [0] rfl rfl (by decide)
        have hP := gP_perm p2.symm hP
        have hD := gD_perm p2.symm hD
        clear p2
        refine lv_if_ne (tgt := 45) hx hb dX6_tries_39 (by decide) (fun c_7 => ?_) (fun c_7 => ?_)
        · have h := h.1 c_7
          refine lv_aload_n hx hb dX6_tries_45 rfl (lv_at hl 0 rfl) ?_
          have p1 := gB (n := 1) (bs := [bModel E a0 M0]) (bc := [bModel E a0 M0]) (br := []) [0] rfl rfl (by decide)
          refine g_v (g_runV (As := []) (rest := []) ⟨hx, hb, hml, hown, ht⟩ hE (c_X6_note E l a0 M0 _ h) ⟨rfl, rfl⟩ wk_X6_164 wi_X6_note ws_X6_note wn_X6 wc_X6_note yd_X6_note ⟨Nat.le_of_ble_eq_true rfl, Nat.le_of_ble_eq_true rfl⟩ hP hD p1 (ci := 6) rfl rfl rfl rfl rfl hl.1 rfl (lv_room (Nat.le_of_ble_eq_true rfl)) dX6_tries_46 ⟨Nat.zero_le _, Nat.zero_le _⟩) hP hD hS p1 (fun M_8 w H locs h hw hP hD hS => ?_)
          subst hw
          clear p1
          have p2 := gB (n := 1) (bs := [bModel E a0 M_8]) (bc := [bModel E a0 M_8]) (br := []) [0] rfl rfl (by decide)
          have hP := gP_perm p2.symm hP
          have hD := gD_perm p2.symm hD
          clear p2
          refine lv_aload_n hx hb dX6_tries_49 rfl (lv_at hl 0 rfl) ?_
          refine va_get (D := (E.1, E.2.1)) (ci := 6) (v := .ref (a0 7)) (C := RX6) (T := TX6) (N := 26) hx hb ht wu_X6 hown hK hP 0 rfl rfl 7 (by decide) (ht _ wk_X6_23) (fun _ h9 => h9) rfl dX6_tries_50 ?_
          refine lv_bipush (v := 18) hx hb dX6_tries_53 (by decide) ?_
          refine lv_iload_n hx hb dX6_tries_55 rfl (lv_at hl 1 rfl) ?_
          refine lv_iadd hx hb dX6_tries_56 ?_
          refine lv_iload_n hx hb dX6_tries_57 rfl (lv_at hl 2 rfl) ?_
          refine va_iast hx hb hK hP hD hS 4 0 rfl rfl h.1 dX6_tries_58 (fun H locs hP hD hS => ?_)
          have h := h.2
          have hP : gP E (gW [bModel E a0 (pma M_8 7 ((18 + x1).toNatClampNeg) x2)]) H := hP
          have hD : va_D A (gW [bModel E a0 (pma M_8 7 ((18 + x1).toNatClampNeg) x2)]) := hD
          obtain ⟨M_9, eM_9⟩ : ∃ z : Mo, z = (pma M_8 7 ((18 + x1).toNatClampNeg) x2) := ⟨_, rfl⟩
          have h := h M_9 eM_9
          rw [← eM_9] at hP hD
          refine lv_iload_n hx hb dX6_tries_59 rfl (lv_at hl 2 rfl) ?_
          refine lv_aload_n hx hb dX6_tries_60 rfl (lv_at hl 0 rfl) ?_
          refine va_get (D := (E.1, E.2.1)) (ci := 6) (v := .ref (a0 7)) (C := RX6) (T := TX6) (N := 26) hx hb ht wu_X6 hown hK hP 0 rfl rfl 7 (by decide) (ht _ wk_X6_23) (fun _ h9 => h9) rfl dX6_tries_61 ?_
          refine lv_bipush (v := 10) hx hb dX6_tries_64 (by decide) ?_
          refine lv_iload_n hx hb dX6_tries_66 rfl (lv_at hl 1 rfl) ?_
          refine lv_iadd hx hb dX6_tries_67 ?_
          refine va_iald hx hb hK hP 4 0 rfl rfl h.1 dX6_tries_68 ?_
          have h := h.2
          have p1 := gB (n := 1) (bs := [bModel E a0 M_9]) (bc := []) (br := [bModel E a0 M_9]) [0] rfl rfl (by decide)
          refine g_i (g_runS (As := [.int x2, .int (M_9.1.2 7 (10 + x1).toNatClampNeg)]) (rest := []) ⟨hx, hb, hml, hown, ht⟩ hE (c_X6_rightOf E l x2 (M_9.1.2 7 (10 + x1).toNatClampNeg) _ h) ⟨rfl, rfl⟩ wk_X6_172 wt_X6_rightOf wn_X6 wc_X6_rightOf yd_X6_rightOf ⟨Nat.le_of_ble_eq_true rfl, Nat.le_of_ble_eq_true rfl⟩ hP hD p1 rfl rfl hl.1 rfl (lv_room (Nat.le_of_ble_eq_true rfl)) dX6_tries_69 ⟨Nat.zero_le _, Nat.zero_le _⟩) hP hD hS p1 (fun r_10 _ w H locs h hw hP hD hS => ?_)
          subst hw
          clear p1
          have p2 := gB (n := 1) (bs := [bModel E a0 M_9]) (bc := []) (br := [bModel E a0 M_9]) [0] rfl rfl (by decide)
          have hP := gP_perm p2.symm hP
          have hD := gD_perm p2.symm hD
          clear p2
          refine lv_istore_n (lv' := [(3, .int r_10), (0, .ref (a0 99)), (1, .int x1), (2, .int x2)]) hx hb dX6_tries_72 rfl hl (by decide) rfl (fun ls hl => ?_)
          refine lv_aload_n hx hb dX6_tries_73 rfl (lv_at hl 1 rfl) ?_
          refine va_get (D := (E.1, E.2.1)) (ci := 6) (v := .ref (a0 7)) (C := RX6) (T := TX6) (N := 26) hx hb ht wu_X6 hown hK hP 0 rfl rfl 7 (by decide) (ht _ wk_X6_23) (fun _ h9 => h9) rfl dX6_tries_74 ?_
          refine lv_bipush (v := 9) hx hb dX6_tries_77 (by decide) ?_
          refine lv_iload_n hx hb dX6_tries_79 rfl (lv_at hl 0 rfl) ?_
          refine lv_iconst (v := 3) hx hb dX6_tries_80 (by decide) ?_
          refine lv_icmp_ne (tgt := 88) hx hb dX6_tries_81 (by decide) (fun c_11 => ?_) (fun c_11 => ?_)
          · have h := h.1 c_11
            refine lv_bipush (v := (-9)) hx hb dX6_tries_88 (by decide) ?_
            refine va_iast hx hb hK hP hD hS 4 0 rfl rfl (by unfold vp_in; decide) dX6_tries_90 (fun H locs hP hD hS => ?_)
            have hP : gP E (gW [bModel E a0 (pma M_9 7 9 (-9))]) H := hP
            have hD : va_D A (gW [bModel E a0 (pma M_9 7 9 (-9))]) := hD
            refine lv_iload_n hx hb dX6_tries_91 rfl (lv_at hl 0 rfl) ?_
            exact hret r_10 (pma M_9 7 9 (-9)) _ _ _ _ _ h rfl hP hD hS dX6_tries_92
          · have h := h.2 c_11
            refine lv_iload_n hx hb dX6_tries_84 rfl (lv_at hl 2 rfl) ?_
            refine lv_goto (tgt := 90) hx hb dX6_tries_85 (by decide) ?_
            refine va_iast hx hb hK hP hD hS 4 0 rfl rfl (by unfold vp_in; decide) dX6_tries_90 (fun H locs hP hD hS => ?_)
            have hP : gP E (gW [bModel E a0 (pma M_9 7 9 x1)]) H := hP
            have hD : va_D A (gW [bModel E a0 (pma M_9 7 9 x1)]) := hD
            refine lv_iload_n hx hb dX6_tries_91 rfl (lv_at hl 0 rfl) ?_
            exact hret r_10 (pma M_9 7 9 x1) _ _ _ _ _ h rfl hP hD hS dX6_tries_92
        · have h := h.2 c_7
          refine lv_bipush (v := (-2)) hx hb dX6_tries_42 (by decide) ?_
          exact hret (-2) M0 _ _ _ _ _ h rfl hP hD hS dX6_tries_44
    · have h := h.2 c_4
      refine lv_iconst (v := (-1)) hx hb dX6_tries_20 (by decide) ?_
      exact hret (-1) M0 _ _ _ _ _ h rfl hP hD hS dX6_tries_21
theorem dX6_undo_0 : decode cX6_undo 0 = .ok (.aload_n 0, 1) := by decide +kernel
theorem dX6_undo_1 : decode cX6_undo 1 = .ok (.getfield 112, 3) := by decide +kernel
theorem dX6_undo_4 : decode cX6_undo 4 = .ok (.ifCond .ne 6, 3) := by decide +kernel
theorem dX6_undo_7 : decode cX6_undo 7 = .ok (.bipush (-2), 2) := by decide +kernel
theorem dX6_undo_9 : decode cX6_undo 9 = .ok (.ireturn, 1) := by decide +kernel
theorem dX6_undo_10 : decode cX6_undo 10 = .ok (.aload_n 0, 1) := by decide +kernel
theorem dX6_undo_11 : decode cX6_undo 11 = .ok (.dup, 1) := by decide +kernel
theorem dX6_undo_12 : decode cX6_undo 12 = .ok (.getfield 112, 3) := by decide +kernel
theorem dX6_undo_15 : decode cX6_undo 15 = .ok (.iconst 1, 1) := by decide +kernel
theorem dX6_undo_16 : decode cX6_undo 16 = .ok (.isub, 1) := by decide +kernel
theorem dX6_undo_17 : decode cX6_undo 17 = .ok (.putfield 112, 3) := by decide +kernel
theorem dX6_undo_20 : decode cX6_undo 20 = .ok (.iconst 0, 1) := by decide +kernel
theorem dX6_undo_21 : decode cX6_undo 21 = .ok (.istore_n 1, 1) := by decide +kernel
theorem dX6_undo_22 : decode cX6_undo 22 = .ok (.iload_n 1, 1) := by decide +kernel
theorem dX6_undo_23 : decode cX6_undo 23 = .ok (.bipush 32, 2) := by decide +kernel
theorem dX6_undo_25 : decode cX6_undo 25 = .ok (.if_icmp .ge 29, 3) := by decide +kernel
theorem dX6_undo_28 : decode cX6_undo 28 = .ok (.aload_n 0, 1) := by decide +kernel
theorem dX6_undo_29 : decode cX6_undo 29 = .ok (.getfield 23, 3) := by decide +kernel
theorem dX6_undo_32 : decode cX6_undo 32 = .ok (.iload_n 1, 1) := by decide +kernel
theorem dX6_undo_33 : decode cX6_undo 33 = .ok (.aload_n 0, 1) := by decide +kernel
theorem dX6_undo_34 : decode cX6_undo 34 = .ok (.getfield 26, 3) := by decide +kernel
theorem dX6_undo_37 : decode cX6_undo 37 = .ok (.bipush 32, 2) := by decide +kernel
theorem dX6_undo_39 : decode cX6_undo 39 = .ok (.aload_n 0, 1) := by decide +kernel
theorem dX6_undo_40 : decode cX6_undo 40 = .ok (.getfield 112, 3) := by decide +kernel
theorem dX6_undo_43 : decode cX6_undo 43 = .ok (.imul, 1) := by decide +kernel
theorem dX6_undo_44 : decode cX6_undo 44 = .ok (.iload_n 1, 1) := by decide +kernel
theorem dX6_undo_45 : decode cX6_undo 45 = .ok (.iadd, 1) := by decide +kernel
theorem dX6_undo_46 : decode cX6_undo 46 = .ok (.iaload, 1) := by decide +kernel
theorem dX6_undo_47 : decode cX6_undo 47 = .ok (.iastore, 1) := by decide +kernel
theorem dX6_undo_48 : decode cX6_undo 48 = .ok (.iinc 1 1, 3) := by decide +kernel
theorem dX6_undo_51 : decode cX6_undo 51 = .ok (.goto (-29), 3) := by decide +kernel
theorem dX6_undo_54 : decode cX6_undo 54 = .ok (.aload_n 0, 1) := by decide +kernel
theorem dX6_undo_55 : decode cX6_undo 55 = .ok (.getfield 112, 3) := by decide +kernel
theorem dX6_undo_58 : decode cX6_undo 58 = .ok (.ireturn, 1) := by decide +kernel
set_option maxHeartbeats 4000000 in
set_option maxRecDepth 100000 in
theorem c_X6_undo (E : GE) (l : Launch) (a0 : Nat → Nat) (M0 : Mo) (post : Int32 → Mo → Prop) (h : wp_X6_undo M0 post) : Met l yX6_undo (wz yX6_undo cX6_undo 2 (some .int)) { frames := 0, cells := 0, slots := 0, locals := 0 } (gPc E [.ref (a0 99)] (gW [bModel E a0 M0])) (gQi E (gW [bModel E a0 M0]) (fun r (u : Mo) => post r u) (fun (u : Mo) w => w = gW [bModel E a0 u])) 0 0 (gIn (gW [bModel E a0 M0])) := by
  unfold wp_X6_undo at h
  refine g_of_i (by decide) (Nat.le_of_ble_eq_true rfl) ?_
  intro p e s m below meth c A Q hx hb hml hown ht hE hP hD hret ls hl
  have hK := hE.1
  have hS : va_S A s.heap s.heap [] := va_S.rf
  have hl : lv_has ls 2 [(0, .ref (a0 99))] := hl
  refine lv_aload_n hx hb dX6_undo_0 rfl (lv_at hl 0 rfl) ?_
  refine va_get (D := (E.1, E.2.1)) (ci := 6) (v := .int (M0.1.1 9)) (C := RX6) (T := TX6) (N := 26) hx hb ht wu_X6 hown hK hP 0 rfl rfl 9 (by decide) (ht _ wk_X6_112) (fun _ h9 => h9) rfl dX6_undo_1 ?_
  refine lv_if_ne (tgt := 10) hx hb dX6_undo_4 (by decide) (fun c_1 => ?_) (fun c_1 => ?_)
  · have h := h.1 c_1
    refine lv_aload_n hx hb dX6_undo_10 rfl (lv_at hl 0 rfl) ?_
    refine lv_dup hx hb dX6_undo_11 rfl ?_
    refine va_get (D := (E.1, E.2.1)) (ci := 6) (v := .int (M0.1.1 9)) (C := RX6) (T := TX6) (N := 26) hx hb ht wu_X6 hown hK hP 0 rfl rfl 9 (by decide) (ht _ wk_X6_112) (fun _ h9 => h9) rfl dX6_undo_12 ?_
    refine lv_iconst (v := 1) hx hb dX6_undo_15 (by decide) ?_
    refine lv_isub hx hb dX6_undo_16 ?_
    refine va_put (D := (E.1, E.2.1)) (ci := 6) (v := .int ((M0.1.1 9) - 1)) (ty := .int) (C := RX6) (T := TX6) (N := 26) hx hb ht wu_X6 tyX6 tyX6_ok nmX6 hown hK hP hD hS 0 rfl rfl 9 (by decide) (ht _ wk_X6_112) (fun _ h9 => h9) rfl (by decide +kernel) rfl rfl (Nat.le_of_ble_eq_true rfl) dX6_undo_17 (fun H locs hP hD hS => ?_)
    have hP : gP E (gW [bModel E a0 (pmf M0 9 ((M0.1.1 9) - 1))]) H := hP
    have hD : va_D A (gW [bModel E a0 (pmf M0 9 ((M0.1.1 9) - 1))]) := hD
    refine lv_iconst (v := 0) hx hb dX6_undo_20 (by decide) ?_
    refine lv_istore_n (lv' := [(1, .int 0), (0, .ref (a0 99))]) hx hb dX6_undo_21 rfl hl (by decide) rfl (fun ls hl => ?_)
    have L22 : ∀ (n22 : Nat) (x1_22 : Int32) (M0_22 : Mo) (H : Heap) (locs : List Loc) (ls : Array Slot), wp_X6_undo_L22 post n22 x1_22 M0_22 → gP E (gW [bModel E a0 M0_22]) H → va_D A (gW [bModel E a0 M0_22]) → va_S A s.heap H locs → lv_has ls 2 [(0, .ref (a0 99)), (1, .int x1_22)] → W p l e { frames := 0, cells := 0, slots := 0, locals := 0 } s m ([.ref (a0 99)] : List Value).toArray below meth c H locs 0 0 Q (F0 m 22 ls []) := by
      intro n22
      induction n22 with
      | zero => intro x1_22 M0_22 H locs ls h; exact h.elim
      | succ n22 ih22 =>
        intro x1_22 M0_22 H locs ls h hP hD hS hl
        rw [wp_X6_undo_L22] at h
        refine lv_iload_n hx hb dX6_undo_22 rfl (lv_at hl 1 rfl) ?_
        refine lv_bipush (v := 32) hx hb dX6_undo_23 (by decide) ?_
        refine lv_icmp_ge (tgt := 54) hx hb dX6_undo_25 (by decide) (fun c_4 => ?_) (fun c_4 => ?_)
        · have h := h.1 c_4
          refine lv_aload_n hx hb dX6_undo_54 rfl (lv_at hl 0 rfl) ?_
          refine va_get (D := (E.1, E.2.1)) (ci := 6) (v := .int (M0_22.1.1 9)) (C := RX6) (T := TX6) (N := 26) hx hb ht wu_X6 hown hK hP 0 rfl rfl 9 (by decide) (ht _ wk_X6_112) (fun _ h9 => h9) rfl dX6_undo_55 ?_
          exact hret (M0_22.1.1 9) M0_22 _ _ _ _ _ h rfl hP hD hS dX6_undo_58
        · have h := h.2 c_4
          refine lv_aload_n hx hb dX6_undo_28 rfl (lv_at hl 0 rfl) ?_
          refine va_get (D := (E.1, E.2.1)) (ci := 6) (v := .ref (a0 7)) (C := RX6) (T := TX6) (N := 26) hx hb ht wu_X6 hown hK hP 0 rfl rfl 7 (by decide) (ht _ wk_X6_23) (fun _ h9 => h9) rfl dX6_undo_29 ?_
          refine lv_iload_n hx hb dX6_undo_32 rfl (lv_at hl 1 rfl) ?_
          refine lv_aload_n hx hb dX6_undo_33 rfl (lv_at hl 0 rfl) ?_
          refine va_get (D := (E.1, E.2.1)) (ci := 6) (v := .ref (a0 8)) (C := RX6) (T := TX6) (N := 26) hx hb ht wu_X6 hown hK hP 0 rfl rfl 8 (by decide) (ht _ wk_X6_26) (fun _ h9 => h9) rfl dX6_undo_34 ?_
          refine lv_bipush (v := 32) hx hb dX6_undo_37 (by decide) ?_
          refine lv_aload_n hx hb dX6_undo_39 rfl (lv_at hl 0 rfl) ?_
          refine va_get (D := (E.1, E.2.1)) (ci := 6) (v := .int (M0_22.1.1 9)) (C := RX6) (T := TX6) (N := 26) hx hb ht wu_X6 hown hK hP 0 rfl rfl 9 (by decide) (ht _ wk_X6_112) (fun _ h9 => h9) rfl dX6_undo_40 ?_
          refine lv_imul hx hb dX6_undo_43 ?_
          refine lv_iload_n hx hb dX6_undo_44 rfl (lv_at hl 1 rfl) ?_
          refine lv_iadd hx hb dX6_undo_45 ?_
          refine va_iald hx hb hK hP 5 0 rfl rfl h.1 dX6_undo_46 ?_
          have h := h.2
          refine va_iast hx hb hK hP hD hS 4 0 rfl rfl h.1 dX6_undo_47 (fun H locs hP hD hS => ?_)
          have h := h.2
          have hP : gP E (gW [bModel E a0 (pma M0_22 7 (x1_22.toNatClampNeg) (M0_22.1.2 8 ((32 * (M0_22.1.1 9)) + x1_22).toNatClampNeg))]) H := hP
          have hD : va_D A (gW [bModel E a0 (pma M0_22 7 (x1_22.toNatClampNeg) (M0_22.1.2 8 ((32 * (M0_22.1.1 9)) + x1_22).toNatClampNeg))]) := hD
          obtain ⟨M_5, eM_5⟩ : ∃ z : Mo, z = (pma M0_22 7 (x1_22.toNatClampNeg) (M0_22.1.2 8 ((32 * (M0_22.1.1 9)) + x1_22).toNatClampNeg)) := ⟨_, rfl⟩
          have h := h M_5 eM_5
          rw [← eM_5] at hP hD
          refine lv_iinc (v := (x1_22 + 1)) (lv' := [(1, .int (x1_22 + 1)), (0, .ref (a0 99))]) hx hb dX6_undo_48 hl (k := 1) rfl rfl (by decide) rfl (fun ls hl => ?_)
          refine lv_goto (tgt := 22) hx hb dX6_undo_51 (by decide) ?_
          exact ih22 (x1_22 + 1) M_5 _ _ _ h hP hD hS (lv_sub hl [1, 0] rfl)
    obtain ⟨n22, h⟩ := h
    exact L22 n22 0 (pmf M0 9 ((M0.1.1 9) - 1)) _ _ _ h hP hD hS (lv_sub hl [1, 0] rfl)
  · have h := h.2 c_1
    refine lv_bipush (v := (-2)) hx hb dX6_undo_7 (by decide) ?_
    exact hret (-2) M0 _ _ _ _ _ h rfl hP hD hS dX6_undo_9
theorem dX6_worst_0 : decode cX6_worst 0 = .ok (.bipush (-9), 2) := by decide +kernel
theorem dX6_worst_2 : decode cX6_worst 2 = .ok (.istore_n 1, 1) := by decide +kernel
theorem dX6_worst_3 : decode cX6_worst 3 = .ok (.bipush (-9), 2) := by decide +kernel
theorem dX6_worst_5 : decode cX6_worst 5 = .ok (.istore_n 2, 1) := by decide +kernel
theorem dX6_worst_6 : decode cX6_worst 6 = .ok (.iconst 0, 1) := by decide +kernel
theorem dX6_worst_7 : decode cX6_worst 7 = .ok (.istore_n 3, 1) := by decide +kernel
theorem dX6_worst_8 : decode cX6_worst 8 = .ok (.iload_n 3, 1) := by decide +kernel
theorem dX6_worst_9 : decode cX6_worst 9 = .ok (.aload_n 0, 1) := by decide +kernel
theorem dX6_worst_10 : decode cX6_worst 10 = .ok (.getfield 109, 3) := by decide +kernel
theorem dX6_worst_13 : decode cX6_worst 13 = .ok (.if_icmp .ge 52, 3) := by decide +kernel
theorem dX6_worst_16 : decode cX6_worst 16 = .ok (.aload_n 0, 1) := by decide +kernel
theorem dX6_worst_17 : decode cX6_worst 17 = .ok (.iload_n 3, 1) := by decide +kernel
theorem dX6_worst_18 : decode cX6_worst 18 = .ok (.invokevirtual 132, 3) := by decide +kernel
theorem dX6_worst_21 : decode cX6_worst 21 = .ok (.ifCond .eq 38, 3) := by decide +kernel
theorem dX6_worst_24 : decode cX6_worst 24 = .ok (.aload_n 0, 1) := by decide +kernel
theorem dX6_worst_25 : decode cX6_worst 25 = .ok (.iload_n 3, 1) := by decide +kernel
theorem dX6_worst_26 : decode cX6_worst 26 = .ok (.invokevirtual 175, 3) := by decide +kernel
theorem dX6_worst_29 : decode cX6_worst 29 = .ok (.invokestatic 169, 3) := by decide +kernel
theorem dX6_worst_32 : decode cX6_worst 32 = .ok (.istore 4, 2) := by decide +kernel
theorem dX6_worst_34 : decode cX6_worst 34 = .ok (.iload 4, 2) := by decide +kernel
theorem dX6_worst_36 : decode cX6_worst 36 = .ok (.iload_n 2, 1) := by decide +kernel
theorem dX6_worst_37 : decode cX6_worst 37 = .ok (.if_icmp .le 7, 3) := by decide +kernel
theorem dX6_worst_40 : decode cX6_worst 40 = .ok (.iload_n 3, 1) := by decide +kernel
theorem dX6_worst_41 : decode cX6_worst 41 = .ok (.goto 4, 3) := by decide +kernel
theorem dX6_worst_44 : decode cX6_worst 44 = .ok (.iload_n 1, 1) := by decide +kernel
theorem dX6_worst_45 : decode cX6_worst 45 = .ok (.istore_n 1, 1) := by decide +kernel
theorem dX6_worst_46 : decode cX6_worst 46 = .ok (.iload 4, 2) := by decide +kernel
theorem dX6_worst_48 : decode cX6_worst 48 = .ok (.iload_n 2, 1) := by decide +kernel
theorem dX6_worst_49 : decode cX6_worst 49 = .ok (.if_icmp .le 8, 3) := by decide +kernel
theorem dX6_worst_52 : decode cX6_worst 52 = .ok (.iload 4, 2) := by decide +kernel
theorem dX6_worst_54 : decode cX6_worst 54 = .ok (.goto 4, 3) := by decide +kernel
theorem dX6_worst_57 : decode cX6_worst 57 = .ok (.iload_n 2, 1) := by decide +kernel
theorem dX6_worst_58 : decode cX6_worst 58 = .ok (.istore_n 2, 1) := by decide +kernel
theorem dX6_worst_59 : decode cX6_worst 59 = .ok (.iinc 3 1, 3) := by decide +kernel
theorem dX6_worst_62 : decode cX6_worst 62 = .ok (.goto (-54), 3) := by decide +kernel
theorem dX6_worst_65 : decode cX6_worst 65 = .ok (.iload_n 1, 1) := by decide +kernel
theorem dX6_worst_66 : decode cX6_worst 66 = .ok (.ireturn, 1) := by decide +kernel
set_option maxHeartbeats 4000000 in
set_option maxRecDepth 100000 in
theorem c_X6_worst (E : GE) (l : Launch) (a0 : Nat → Nat) (M0 : Mo) (post : Int32 → Prop) (h : wp_X6_worst M0 post) : Met l yX6_worst (wz yX6_worst cX6_worst 5 (some .int)) { frames := 4, cells := 0, slots := 0, locals := 86 } (gPc E [.ref (a0 99)] (gW [bModel E a0 M0])) (gQi E (gW [bModel E a0 M0]) (fun r (_ : Unit) => post r) (fun (_ : Unit) w => w = gW [bModel E a0 M0])) 0 0 (gIn (gW [bModel E a0 M0])) := by
  unfold wp_X6_worst at h
  refine g_of_i (by decide) (Nat.le_of_ble_eq_true rfl) ?_
  intro p e s m below meth c A Q hx hb hml hown ht hE hP hD hret ls hl
  have hK := hE.1
  have hS : va_S A s.heap s.heap [] := va_S.rf
  have hl : lv_has ls 5 [(0, .ref (a0 99))] := hl
  refine lv_bipush (v := (-9)) hx hb dX6_worst_0 (by decide) ?_
  refine lv_istore_n (lv' := [(1, .int (-9)), (0, .ref (a0 99))]) hx hb dX6_worst_2 rfl hl (by decide) rfl (fun ls hl => ?_)
  refine lv_bipush (v := (-9)) hx hb dX6_worst_3 (by decide) ?_
  refine lv_istore_n (lv' := [(2, .int (-9)), (1, .int (-9)), (0, .ref (a0 99))]) hx hb dX6_worst_5 rfl hl (by decide) rfl (fun ls hl => ?_)
  refine lv_iconst (v := 0) hx hb dX6_worst_6 (by decide) ?_
  refine lv_istore_n (lv' := [(3, .int 0), (2, .int (-9)), (1, .int (-9)), (0, .ref (a0 99))]) hx hb dX6_worst_7 rfl hl (by decide) rfl (fun ls hl => ?_)
  have L8 : ∀ (n8 : Nat) (x1_8 : Int32) (x2_8 : Int32) (x3_8 : Int32) (H : Heap) (locs : List Loc) (ls : Array Slot), wp_X6_worst_L8 post M0 n8 x1_8 x2_8 x3_8 → gP E (gW [bModel E a0 M0]) H → va_D A (gW [bModel E a0 M0]) → va_S A s.heap H locs → lv_has ls 5 [(0, .ref (a0 99)), (1, .int x1_8), (2, .int x2_8), (3, .int x3_8)] → W p l e { frames := 4, cells := 0, slots := 0, locals := 86 } s m ([.ref (a0 99)] : List Value).toArray below meth c H locs 0 0 Q (F0 m 8 ls []) := by
    intro n8
    induction n8 with
    | zero => intro x1_8 x2_8 x3_8 H locs ls h; exact h.elim
    | succ n8 ih8 =>
      intro x1_8 x2_8 x3_8 H locs ls h hP hD hS hl
      rw [wp_X6_worst_L8] at h
      refine lv_iload_n hx hb dX6_worst_8 rfl (lv_at hl 3 rfl) ?_
      refine lv_aload_n hx hb dX6_worst_9 rfl (lv_at hl 0 rfl) ?_
      refine va_get (D := (E.1, E.2.1)) (ci := 6) (v := .int (M0.1.1 1)) (C := RX6) (T := TX6) (N := 26) hx hb ht wu_X6 hown hK hP 0 rfl rfl 1 (by decide) (ht _ wk_X6_109) (fun _ h9 => h9) rfl dX6_worst_10 ?_
      refine lv_icmp_ge (tgt := 65) hx hb dX6_worst_13 (by decide) (fun c_9 => ?_) (fun c_9 => ?_)
      · have h := h.1 c_9
        refine lv_iload_n hx hb dX6_worst_65 rfl (lv_at hl 1 rfl) ?_
        exact hret x1_8 () _ _ _ _ _ h rfl hP hD hS dX6_worst_66
      · have h := h.2 c_9
        refine lv_aload_n hx hb dX6_worst_16 rfl (lv_at hl 0 rfl) ?_
        refine lv_iload_n hx hb dX6_worst_17 rfl (lv_at hl 3 rfl) ?_
        have p1 := gB (n := 1) (bs := [bModel E a0 M0]) (bc := [bModel E a0 M0]) (br := []) [0] rfl rfl (by decide)
        refine g_i (g_runV (As := [.int x3_8]) (rest := []) ⟨hx, hb, hml, hown, ht⟩ hE (c_X6_canShut E l a0 M0 x3_8 _ h) ⟨rfl, rfl⟩ wk_X6_132 wi_X6_canShut ws_X6_canShut wn_X6 wc_X6_canShut yd_X6_canShut ⟨Nat.le_of_ble_eq_true rfl, Nat.le_of_ble_eq_true rfl⟩ hP hD p1 (ci := 6) rfl rfl rfl rfl rfl hl.1 rfl (lv_room (Nat.le_of_ble_eq_true rfl)) dX6_worst_18 ⟨Nat.zero_le _, Nat.zero_le _⟩) hP hD hS p1 (fun r_10 _ w H locs h hw hP hD hS => ?_)
        subst hw
        clear p1
        have p2 := gB (n := 1) (bs := [bModel E a0 M0]) (bc := [bModel E a0 M0]) (br := []) [0] rfl rfl (by decide)
        have hP := gP_perm p2.symm hP
        have hD := gD_perm p2.symm hD
        clear p2
        refine lv_if_eq (tgt := 59) hx hb dX6_worst_21 (by decide) (fun c_11 => ?_) (fun c_11 => ?_)
        · have h := h.1 c_11
          refine lv_iinc (v := (x3_8 + 1)) (lv' := [(3, .int (x3_8 + 1)), (0, .ref (a0 99)), (1, .int x1_8), (2, .int x2_8)]) hx hb dX6_worst_59 hl (k := 3) rfl rfl (by decide) rfl (fun ls hl => ?_)
          refine lv_goto (tgt := 8) hx hb dX6_worst_62 (by decide) ?_
          exact ih8 x1_8 x2_8 (x3_8 + 1) _ _ _ h hP hD hS (lv_sub hl [1, 2, 3, 0] rfl)
        · have h := h.2 c_11
          refine lv_aload_n hx hb dX6_worst_24 rfl (lv_at hl 0 rfl) ?_
          refine lv_iload_n hx hb dX6_worst_25 rfl (lv_at hl 3 rfl) ?_
          have p1 := gB (n := 1) (bs := [bModel E a0 M0]) (bc := [bModel E a0 M0]) (br := []) [0] rfl rfl (by decide)
          refine g_i (g_runV (As := [.int x3_8]) (rest := []) ⟨hx, hb, hml, hown, ht⟩ hE (c_X6_leftBy E l a0 M0 x3_8 _ h) ⟨rfl, rfl⟩ wk_X6_175 wi_X6_leftBy ws_X6_leftBy wn_X6 wc_X6_leftBy yd_X6_leftBy ⟨Nat.le_of_ble_eq_true rfl, Nat.le_of_ble_eq_true rfl⟩ hP hD p1 (ci := 6) rfl rfl rfl rfl rfl hl.1 rfl (lv_room (Nat.le_of_ble_eq_true rfl)) dX6_worst_26 ⟨Nat.zero_le _, Nat.zero_le _⟩) hP hD hS p1 (fun r_12 _ w H locs h hw hP hD hS => ?_)
          subst hw
          clear p1
          have p2 := gB (n := 1) (bs := [bModel E a0 M0]) (bc := [bModel E a0 M0]) (br := []) [0] rfl rfl (by decide)
          have hP := gP_perm p2.symm hP
          have hD := gD_perm p2.symm hD
          clear p2
          have p1 := gB (n := 1) (bs := [bModel E a0 M0]) (bc := []) (br := [bModel E a0 M0]) [0] rfl rfl (by decide)
          refine g_i (g_runS (As := [.int r_12]) (rest := []) ⟨hx, hb, hml, hown, ht⟩ hE (c_X6_ones E l r_12 _ h) ⟨rfl, rfl⟩ wk_X6_169 wt_X6_ones wn_X6 wc_X6_ones yd_X6_ones ⟨Nat.le_of_ble_eq_true rfl, Nat.le_of_ble_eq_true rfl⟩ hP hD p1 rfl rfl hl.1 rfl (lv_room (Nat.le_of_ble_eq_true rfl)) dX6_worst_29 ⟨Nat.zero_le _, Nat.zero_le _⟩) hP hD hS p1 (fun r_13 _ w H locs h hw hP hD hS => ?_)
          subst hw
          clear p1
          have p2 := gB (n := 1) (bs := [bModel E a0 M0]) (bc := []) (br := [bModel E a0 M0]) [0] rfl rfl (by decide)
          have hP := gP_perm p2.symm hP
          have hD := gD_perm p2.symm hD
          clear p2
          refine lv_istore (lv' := [(4, .int r_13), (0, .ref (a0 99)), (1, .int x1_8), (2, .int x2_8), (3, .int x3_8)]) hx hb dX6_worst_32 hl (by decide) rfl (fun ls hl => ?_)
          refine lv_iload hx hb dX6_worst_34 (lv_at hl 0 rfl) ?_
          refine lv_iload_n hx hb dX6_worst_36 rfl (lv_at hl 3 rfl) ?_
          refine lv_icmp_le (tgt := 44) hx hb dX6_worst_37 (by decide) (fun c_14 => ?_) (fun c_14 => ?_)
          · have h := h.1 c_14
            refine lv_iload_n hx hb dX6_worst_44 rfl (lv_at hl 2 rfl) ?_
            refine lv_istore_n (lv' := [(1, .int x1_8), (4, .int r_13), (0, .ref (a0 99)), (2, .int x2_8), (3, .int x3_8)]) hx hb dX6_worst_45 rfl hl (by decide) rfl (fun ls hl => ?_)
            refine lv_iload hx hb dX6_worst_46 (lv_at hl 1 rfl) ?_
            refine lv_iload_n hx hb dX6_worst_48 rfl (lv_at hl 3 rfl) ?_
            refine lv_icmp_le (tgt := 57) hx hb dX6_worst_49 (by decide) (fun c_15 => ?_) (fun c_15 => ?_)
            · have h := h.1 c_15
              refine lv_iload_n hx hb dX6_worst_57 rfl (lv_at hl 3 rfl) ?_
              refine lv_istore_n (lv' := [(2, .int x2_8), (1, .int x1_8), (4, .int r_13), (0, .ref (a0 99)), (3, .int x3_8)]) hx hb dX6_worst_58 rfl hl (by decide) rfl (fun ls hl => ?_)
              refine lv_iinc (v := (x3_8 + 1)) (lv' := [(3, .int (x3_8 + 1)), (2, .int x2_8), (1, .int x1_8), (4, .int r_13), (0, .ref (a0 99))]) hx hb dX6_worst_59 hl (k := 4) rfl rfl (by decide) rfl (fun ls hl => ?_)
              refine lv_goto (tgt := 8) hx hb dX6_worst_62 (by decide) ?_
              exact ih8 x1_8 x2_8 (x3_8 + 1) _ _ _ h hP hD hS (lv_sub hl [4, 2, 1, 0] rfl)
            · have h := h.2 c_15
              refine lv_iload hx hb dX6_worst_52 (lv_at hl 1 rfl) ?_
              refine lv_goto (tgt := 58) hx hb dX6_worst_54 (by decide) ?_
              refine lv_istore_n (lv' := [(2, .int r_13), (1, .int x1_8), (4, .int r_13), (0, .ref (a0 99)), (3, .int x3_8)]) hx hb dX6_worst_58 rfl hl (by decide) rfl (fun ls hl => ?_)
              refine lv_iinc (v := (x3_8 + 1)) (lv' := [(3, .int (x3_8 + 1)), (2, .int r_13), (1, .int x1_8), (4, .int r_13), (0, .ref (a0 99))]) hx hb dX6_worst_59 hl (k := 4) rfl rfl (by decide) rfl (fun ls hl => ?_)
              refine lv_goto (tgt := 8) hx hb dX6_worst_62 (by decide) ?_
              exact ih8 x1_8 r_13 (x3_8 + 1) _ _ _ h hP hD hS (lv_sub hl [4, 2, 1, 0] rfl)
          · have h := h.2 c_14
            refine lv_iload_n hx hb dX6_worst_40 rfl (lv_at hl 4 rfl) ?_
            refine lv_goto (tgt := 45) hx hb dX6_worst_41 (by decide) ?_
            refine lv_istore_n (lv' := [(1, .int x3_8), (4, .int r_13), (0, .ref (a0 99)), (2, .int x2_8), (3, .int x3_8)]) hx hb dX6_worst_45 rfl hl (by decide) rfl (fun ls hl => ?_)
            refine lv_iload hx hb dX6_worst_46 (lv_at hl 1 rfl) ?_
            refine lv_iload_n hx hb dX6_worst_48 rfl (lv_at hl 3 rfl) ?_
            refine lv_icmp_le (tgt := 57) hx hb dX6_worst_49 (by decide) (fun c_16 => ?_) (fun c_16 => ?_)
            · have h := h.1 c_16
              refine lv_iload_n hx hb dX6_worst_57 rfl (lv_at hl 3 rfl) ?_
              refine lv_istore_n (lv' := [(2, .int x2_8), (1, .int x3_8), (4, .int r_13), (0, .ref (a0 99)), (3, .int x3_8)]) hx hb dX6_worst_58 rfl hl (by decide) rfl (fun ls hl => ?_)
              refine lv_iinc (v := (x3_8 + 1)) (lv' := [(3, .int (x3_8 + 1)), (2, .int x2_8), (1, .int x3_8), (4, .int r_13), (0, .ref (a0 99))]) hx hb dX6_worst_59 hl (k := 4) rfl rfl (by decide) rfl (fun ls hl => ?_)
              refine lv_goto (tgt := 8) hx hb dX6_worst_62 (by decide) ?_
              exact ih8 x3_8 x2_8 (x3_8 + 1) _ _ _ h hP hD hS (lv_sub hl [4, 2, 1, 0] rfl)
            · have h := h.2 c_16
              refine lv_iload hx hb dX6_worst_52 (lv_at hl 1 rfl) ?_
              refine lv_goto (tgt := 58) hx hb dX6_worst_54 (by decide) ?_
              refine lv_istore_n (lv' := [(2, .int r_13), (1, .int x3_8), (4, .int r_13), (0, .ref (a0 99)), (3, .int x3_8)]) hx hb dX6_worst_58 rfl hl (by decide) rfl (fun ls hl => ?_)
              refine lv_iinc (v := (x3_8 + 1)) (lv' := [(3, .int (x3_8 + 1)), (2, .int r_13), (1, .int x3_8), (4, .int r_13), (0, .ref (a0 99))]) hx hb dX6_worst_59 hl (k := 4) rfl rfl (by decide) rfl (fun ls hl => ?_)
              refine lv_goto (tgt := 8) hx hb dX6_worst_62 (by decide) ?_
              exact ih8 x3_8 r_13 (x3_8 + 1) _ _ _ h hP hD hS (lv_sub hl [4, 2, 1, 0] rfl)
  obtain ⟨n8, h⟩ := h
  exact L8 n8 (-9) (-9) 0 _ _ _ h hP hD hS (lv_sub hl [3, 2, 1, 0] rfl)
theorem dX6_greatestRounds_0 : decode cX6_greatestRounds 0 = .ok (.iconst 0, 1) := by decide +kernel
theorem dX6_greatestRounds_1 : decode cX6_greatestRounds 1 = .ok (.istore_n 1, 1) := by decide +kernel
theorem dX6_greatestRounds_2 : decode cX6_greatestRounds 2 = .ok (.iconst 0, 1) := by decide +kernel
theorem dX6_greatestRounds_3 : decode cX6_greatestRounds 3 = .ok (.istore_n 2, 1) := by decide +kernel
theorem dX6_greatestRounds_4 : decode cX6_greatestRounds 4 = .ok (.iload_n 2, 1) := by decide +kernel
theorem dX6_greatestRounds_5 : decode cX6_greatestRounds 5 = .ok (.aload_n 0, 1) := by decide +kernel
theorem dX6_greatestRounds_6 : decode cX6_greatestRounds 6 = .ok (.getfield 7, 3) := by decide +kernel
theorem dX6_greatestRounds_9 : decode cX6_greatestRounds 9 = .ok (.if_icmp .ge 43, 3) := by decide +kernel
theorem dX6_greatestRounds_12 : decode cX6_greatestRounds 12 = .ok (.aload_n 0, 1) := by decide +kernel
theorem dX6_greatestRounds_13 : decode cX6_greatestRounds 13 = .ok (.iload_n 2, 1) := by decide +kernel
theorem dX6_greatestRounds_14 : decode cX6_greatestRounds 14 = .ok (.invokevirtual 161, 3) := by decide +kernel
theorem dX6_greatestRounds_17 : decode cX6_greatestRounds 17 = .ok (.istore_n 3, 1) := by decide +kernel
theorem dX6_greatestRounds_18 : decode cX6_greatestRounds 18 = .ok (.iload_n 3, 1) := by decide +kernel
theorem dX6_greatestRounds_19 : decode cX6_greatestRounds 19 = .ok (.bipush (-9), 2) := by decide +kernel
theorem dX6_greatestRounds_21 : decode cX6_greatestRounds 21 = .ok (.if_icmp .eq 9, 3) := by decide +kernel
theorem dX6_greatestRounds_24 : decode cX6_greatestRounds 24 = .ok (.iload_n 1, 1) := by decide +kernel
theorem dX6_greatestRounds_25 : decode cX6_greatestRounds 25 = .ok (.bipush (-9), 2) := by decide +kernel
theorem dX6_greatestRounds_27 : decode cX6_greatestRounds 27 = .ok (.if_icmp .ne 8, 3) := by decide +kernel
theorem dX6_greatestRounds_30 : decode cX6_greatestRounds 30 = .ok (.bipush (-9), 2) := by decide +kernel
theorem dX6_greatestRounds_32 : decode cX6_greatestRounds 32 = .ok (.goto 13, 3) := by decide +kernel
theorem dX6_greatestRounds_35 : decode cX6_greatestRounds 35 = .ok (.iload_n 3, 1) := by decide +kernel
theorem dX6_greatestRounds_36 : decode cX6_greatestRounds 36 = .ok (.iload_n 1, 1) := by decide +kernel
theorem dX6_greatestRounds_37 : decode cX6_greatestRounds 37 = .ok (.if_icmp .le 7, 3) := by decide +kernel
theorem dX6_greatestRounds_40 : decode cX6_greatestRounds 40 = .ok (.iload_n 3, 1) := by decide +kernel
theorem dX6_greatestRounds_41 : decode cX6_greatestRounds 41 = .ok (.goto 4, 3) := by decide +kernel
theorem dX6_greatestRounds_44 : decode cX6_greatestRounds 44 = .ok (.iload_n 1, 1) := by decide +kernel
theorem dX6_greatestRounds_45 : decode cX6_greatestRounds 45 = .ok (.istore_n 1, 1) := by decide +kernel
theorem dX6_greatestRounds_46 : decode cX6_greatestRounds 46 = .ok (.iinc 2 1, 3) := by decide +kernel
theorem dX6_greatestRounds_49 : decode cX6_greatestRounds 49 = .ok (.goto (-45), 3) := by decide +kernel
theorem dX6_greatestRounds_52 : decode cX6_greatestRounds 52 = .ok (.iload_n 1, 1) := by decide +kernel
theorem dX6_greatestRounds_53 : decode cX6_greatestRounds 53 = .ok (.ireturn, 1) := by decide +kernel
set_option maxHeartbeats 4000000 in
set_option maxRecDepth 100000 in
theorem c_X6_greatestRounds (E : GE) (l : Launch) (a0 : Nat → Nat) (M0 : Mo) (post : Int32 → Prop) (h : wp_X6_greatestRounds M0 post) : Met l yX6_greatestRounds (wz yX6_greatestRounds cX6_greatestRounds 4 (some .int)) { frames := 2, cells := 0, slots := 0, locals := 48 } (gPc E [.ref (a0 99)] (gW [bModel E a0 M0])) (gQi E (gW [bModel E a0 M0]) (fun r (_ : Unit) => post r) (fun (_ : Unit) w => w = gW [bModel E a0 M0])) 0 0 (gIn (gW [bModel E a0 M0])) := by
  unfold wp_X6_greatestRounds at h
  refine g_of_i (by decide) (Nat.le_of_ble_eq_true rfl) ?_
  intro p e s m below meth c A Q hx hb hml hown ht hE hP hD hret ls hl
  have hK := hE.1
  have hS : va_S A s.heap s.heap [] := va_S.rf
  have hl : lv_has ls 4 [(0, .ref (a0 99))] := hl
  refine lv_iconst (v := 0) hx hb dX6_greatestRounds_0 (by decide) ?_
  refine lv_istore_n (lv' := [(1, .int 0), (0, .ref (a0 99))]) hx hb dX6_greatestRounds_1 rfl hl (by decide) rfl (fun ls hl => ?_)
  refine lv_iconst (v := 0) hx hb dX6_greatestRounds_2 (by decide) ?_
  refine lv_istore_n (lv' := [(2, .int 0), (1, .int 0), (0, .ref (a0 99))]) hx hb dX6_greatestRounds_3 rfl hl (by decide) rfl (fun ls hl => ?_)
  have L4 : ∀ (n4 : Nat) (x1_4 : Int32) (x2_4 : Int32) (H : Heap) (locs : List Loc) (ls : Array Slot), wp_X6_greatestRounds_L4 post M0 n4 x1_4 x2_4 → gP E (gW [bModel E a0 M0]) H → va_D A (gW [bModel E a0 M0]) → va_S A s.heap H locs → lv_has ls 4 [(0, .ref (a0 99)), (1, .int x1_4), (2, .int x2_4)] → W p l e { frames := 2, cells := 0, slots := 0, locals := 48 } s m ([.ref (a0 99)] : List Value).toArray below meth c H locs 0 0 Q (F0 m 4 ls []) := by
    intro n4
    induction n4 with
    | zero => intro x1_4 x2_4 H locs ls h; exact h.elim
    | succ n4 ih4 =>
      intro x1_4 x2_4 H locs ls h hP hD hS hl
      rw [wp_X6_greatestRounds_L4] at h
      refine lv_iload_n hx hb dX6_greatestRounds_4 rfl (lv_at hl 2 rfl) ?_
      refine lv_aload_n hx hb dX6_greatestRounds_5 rfl (lv_at hl 0 rfl) ?_
      refine va_get (D := (E.1, E.2.1)) (ci := 6) (v := .int (M0.1.1 0)) (C := RX6) (T := TX6) (N := 26) hx hb ht wu_X6 hown hK hP 0 rfl rfl 0 (by decide) (ht _ wk_X6_7) (fun _ h9 => h9) rfl dX6_greatestRounds_6 ?_
      refine lv_icmp_ge (tgt := 52) hx hb dX6_greatestRounds_9 (by decide) (fun c_6 => ?_) (fun c_6 => ?_)
      · have h := h.1 c_6
        refine lv_iload_n hx hb dX6_greatestRounds_52 rfl (lv_at hl 1 rfl) ?_
        exact hret x1_4 () _ _ _ _ _ h rfl hP hD hS dX6_greatestRounds_53
      · have h := h.2 c_6
        refine lv_aload_n hx hb dX6_greatestRounds_12 rfl (lv_at hl 0 rfl) ?_
        refine lv_iload_n hx hb dX6_greatestRounds_13 rfl (lv_at hl 2 rfl) ?_
        have p1 := gB (n := 1) (bs := [bModel E a0 M0]) (bc := [bModel E a0 M0]) (br := []) [0] rfl rfl (by decide)
        refine g_i (g_runV (As := [.int x2_4]) (rest := []) ⟨hx, hb, hml, hown, ht⟩ hE (c_X6_roundsOf E l a0 M0 x2_4 _ h) ⟨rfl, rfl⟩ wk_X6_161 wi_X6_roundsOf ws_X6_roundsOf wn_X6 wc_X6_roundsOf yd_X6_roundsOf ⟨Nat.le_of_ble_eq_true rfl, Nat.le_of_ble_eq_true rfl⟩ hP hD p1 (ci := 6) rfl rfl rfl rfl rfl hl.1 rfl (lv_room (Nat.le_of_ble_eq_true rfl)) dX6_greatestRounds_14 ⟨Nat.zero_le _, Nat.zero_le _⟩) hP hD hS p1 (fun r_7 _ w H locs h hw hP hD hS => ?_)
        subst hw
        clear p1
        have p2 := gB (n := 1) (bs := [bModel E a0 M0]) (bc := [bModel E a0 M0]) (br := []) [0] rfl rfl (by decide)
        have hP := gP_perm p2.symm hP
        have hD := gD_perm p2.symm hD
        clear p2
        refine lv_istore_n (lv' := [(3, .int r_7), (0, .ref (a0 99)), (1, .int x1_4), (2, .int x2_4)]) hx hb dX6_greatestRounds_17 rfl hl (by decide) rfl (fun ls hl => ?_)
        refine lv_iload_n hx hb dX6_greatestRounds_18 rfl (lv_at hl 0 rfl) ?_
        refine lv_bipush (v := (-9)) hx hb dX6_greatestRounds_19 (by decide) ?_
        refine lv_icmp_eq (tgt := 30) hx hb dX6_greatestRounds_21 (by decide) (fun c_8 => ?_) (fun c_8 => ?_)
        · have h := h.1 c_8
          refine lv_bipush (v := (-9)) hx hb dX6_greatestRounds_30 (by decide) ?_
          refine lv_goto (tgt := 45) hx hb dX6_greatestRounds_32 (by decide) ?_
          refine lv_istore_n (lv' := [(1, .int (-9)), (3, .int r_7), (0, .ref (a0 99)), (2, .int x2_4)]) hx hb dX6_greatestRounds_45 rfl hl (by decide) rfl (fun ls hl => ?_)
          refine lv_iinc (v := (x2_4 + 1)) (lv' := [(2, .int (x2_4 + 1)), (1, .int (-9)), (3, .int r_7), (0, .ref (a0 99))]) hx hb dX6_greatestRounds_46 hl (k := 3) rfl rfl (by decide) rfl (fun ls hl => ?_)
          refine lv_goto (tgt := 4) hx hb dX6_greatestRounds_49 (by decide) ?_
          exact ih4 (-9) (x2_4 + 1) _ _ _ h hP hD hS (lv_sub hl [3, 1, 0] rfl)
        · have h := h.2 c_8
          refine lv_iload_n hx hb dX6_greatestRounds_24 rfl (lv_at hl 2 rfl) ?_
          refine lv_bipush (v := (-9)) hx hb dX6_greatestRounds_25 (by decide) ?_
          refine lv_icmp_ne (tgt := 35) hx hb dX6_greatestRounds_27 (by decide) (fun c_9 => ?_) (fun c_9 => ?_)
          · have h := h.1 c_9
            refine lv_iload_n hx hb dX6_greatestRounds_35 rfl (lv_at hl 0 rfl) ?_
            refine lv_iload_n hx hb dX6_greatestRounds_36 rfl (lv_at hl 2 rfl) ?_
            refine lv_icmp_le (tgt := 44) hx hb dX6_greatestRounds_37 (by decide) (fun c_10 => ?_) (fun c_10 => ?_)
            · have h := h.1 c_10
              refine lv_iload_n hx hb dX6_greatestRounds_44 rfl (lv_at hl 2 rfl) ?_
              refine lv_istore_n (lv' := [(1, .int x1_4), (3, .int r_7), (0, .ref (a0 99)), (2, .int x2_4)]) hx hb dX6_greatestRounds_45 rfl hl (by decide) rfl (fun ls hl => ?_)
              refine lv_iinc (v := (x2_4 + 1)) (lv' := [(2, .int (x2_4 + 1)), (1, .int x1_4), (3, .int r_7), (0, .ref (a0 99))]) hx hb dX6_greatestRounds_46 hl (k := 3) rfl rfl (by decide) rfl (fun ls hl => ?_)
              refine lv_goto (tgt := 4) hx hb dX6_greatestRounds_49 (by decide) ?_
              exact ih4 x1_4 (x2_4 + 1) _ _ _ h hP hD hS (lv_sub hl [3, 1, 0] rfl)
            · have h := h.2 c_10
              refine lv_iload_n hx hb dX6_greatestRounds_40 rfl (lv_at hl 0 rfl) ?_
              refine lv_goto (tgt := 45) hx hb dX6_greatestRounds_41 (by decide) ?_
              refine lv_istore_n (lv' := [(1, .int r_7), (3, .int r_7), (0, .ref (a0 99)), (2, .int x2_4)]) hx hb dX6_greatestRounds_45 rfl hl (by decide) rfl (fun ls hl => ?_)
              refine lv_iinc (v := (x2_4 + 1)) (lv' := [(2, .int (x2_4 + 1)), (1, .int r_7), (3, .int r_7), (0, .ref (a0 99))]) hx hb dX6_greatestRounds_46 hl (k := 3) rfl rfl (by decide) rfl (fun ls hl => ?_)
              refine lv_goto (tgt := 4) hx hb dX6_greatestRounds_49 (by decide) ?_
              exact ih4 r_7 (x2_4 + 1) _ _ _ h hP hD hS (lv_sub hl [3, 1, 0] rfl)
          · have h := h.2 c_9
            refine lv_bipush (v := (-9)) hx hb dX6_greatestRounds_30 (by decide) ?_
            refine lv_goto (tgt := 45) hx hb dX6_greatestRounds_32 (by decide) ?_
            refine lv_istore_n (lv' := [(1, .int (-9)), (3, .int r_7), (0, .ref (a0 99)), (2, .int x2_4)]) hx hb dX6_greatestRounds_45 rfl hl (by decide) rfl (fun ls hl => ?_)
            refine lv_iinc (v := (x2_4 + 1)) (lv' := [(2, .int (x2_4 + 1)), (1, .int (-9)), (3, .int r_7), (0, .ref (a0 99))]) hx hb dX6_greatestRounds_46 hl (k := 3) rfl rfl (by decide) rfl (fun ls hl => ?_)
            refine lv_goto (tgt := 4) hx hb dX6_greatestRounds_49 (by decide) ?_
            exact ih4 (-9) (x2_4 + 1) _ _ _ h hP hD hS (lv_sub hl [3, 1, 0] rfl)
  obtain ⟨n4, h⟩ := h
  exact L4 n4 0 0 _ _ _ h hP hD hS (lv_sub hl [2, 1, 0] rfl)
theorem dX6_now_0 : decode cX6_now 0 = .ok (.iload_n 1, 1) := by decide +kernel
theorem dX6_now_1 : decode cX6_now 1 = .ok (.tableswitch 67 0 4 #[35, 43, 48, 57, 62], 35) := by decide +kernel
theorem dX6_now_36 : decode cX6_now 36 = .ok (.aload_n 0, 1) := by decide +kernel
theorem dX6_now_37 : decode cX6_now 37 = .ok (.getfield 23, 3) := by decide +kernel
theorem dX6_now_40 : decode cX6_now 40 = .ok (.bipush 9, 2) := by decide +kernel
theorem dX6_now_42 : decode cX6_now 42 = .ok (.iaload, 1) := by decide +kernel
theorem dX6_now_43 : decode cX6_now 43 = .ok (.ireturn, 1) := by decide +kernel
theorem dX6_now_44 : decode cX6_now 44 = .ok (.aload_n 0, 1) := by decide +kernel
theorem dX6_now_45 : decode cX6_now 45 = .ok (.invokevirtual 135, 3) := by decide +kernel
theorem dX6_now_48 : decode cX6_now 48 = .ok (.ireturn, 1) := by decide +kernel
theorem dX6_now_49 : decode cX6_now 49 = .ok (.aload_n 0, 1) := by decide +kernel
theorem dX6_now_50 : decode cX6_now 50 = .ok (.aload_n 0, 1) := by decide +kernel
theorem dX6_now_51 : decode cX6_now 51 = .ok (.invokevirtual 135, 3) := by decide +kernel
theorem dX6_now_54 : decode cX6_now 54 = .ok (.invokevirtual 139, 3) := by decide +kernel
theorem dX6_now_57 : decode cX6_now 57 = .ok (.ireturn, 1) := by decide +kernel
theorem dX6_now_58 : decode cX6_now 58 = .ok (.aload_n 0, 1) := by decide +kernel
theorem dX6_now_59 : decode cX6_now 59 = .ok (.invokevirtual 178, 3) := by decide +kernel
theorem dX6_now_62 : decode cX6_now 62 = .ok (.ireturn, 1) := by decide +kernel
theorem dX6_now_63 : decode cX6_now 63 = .ok (.aload_n 0, 1) := by decide +kernel
theorem dX6_now_64 : decode cX6_now 64 = .ok (.invokevirtual 181, 3) := by decide +kernel
theorem dX6_now_67 : decode cX6_now 67 = .ok (.ireturn, 1) := by decide +kernel
theorem dX6_now_68 : decode cX6_now 68 = .ok (.iconst (-1), 1) := by decide +kernel
theorem dX6_now_69 : decode cX6_now 69 = .ok (.ireturn, 1) := by decide +kernel
set_option maxHeartbeats 4000000 in
set_option maxRecDepth 100000 in
theorem c_X6_now (E : GE) (l : Launch) (a0 : Nat → Nat) (M0 : Mo) (x1 : Int32) (post : Int32 → Prop) (h : wp_X6_now M0 x1 post) : Met l yX6_now (wz yX6_now cX6_now 2 (some .int)) { frames := 5, cells := 0, slots := 0, locals := 110 } (gPc E [.ref (a0 99), .int x1] (gW [bModel E a0 M0])) (gQi E (gW [bModel E a0 M0]) (fun r (_ : Unit) => post r) (fun (_ : Unit) w => w = gW [bModel E a0 M0])) 0 0 (gIn (gW [bModel E a0 M0])) := by
  unfold wp_X6_now at h
  refine g_of_i (by decide) (Nat.le_of_ble_eq_true rfl) ?_
  intro p e s m below meth c A Q hx hb hml hown ht hE hP hD hret ls hl
  have hK := hE.1
  have hS : va_S A s.heap s.heap [] := va_S.rf
  have hl : lv_has ls 2 [(0, .ref (a0 99)), (1, .int x1)] := hl
  refine lv_iload_n hx hb dX6_now_0 rfl (lv_at hl 1 rfl) ?_
  rcases sw_0_4 x1 with c | c | c | c | c | c
  · have h := h.1 c
    refine lv_asi c ?_
    refine lv_tableIn (off := 35) (tgt := 36) hx hb dX6_now_1 (by decide) (by decide) rfl (by decide) ?_
    refine lv_aload_n hx hb dX6_now_36 rfl (lv_at hl 0 rfl) ?_
    refine va_get (D := (E.1, E.2.1)) (ci := 6) (v := .ref (a0 7)) (C := RX6) (T := TX6) (N := 26) hx hb ht wu_X6 hown hK hP 0 rfl rfl 7 (by decide) (ht _ wk_X6_23) (fun _ h9 => h9) rfl dX6_now_37 ?_
    refine lv_bipush (v := 9) hx hb dX6_now_40 (by decide) ?_
    refine va_iald hx hb hK hP 4 0 rfl rfl (by unfold vp_in; decide) dX6_now_42 ?_
    refine lv_asi (x' := (M0.1.2 7 9)) rfl ?_
    exact hret (M0.1.2 7 9) () _ _ _ _ _ h rfl hP hD hS dX6_now_43
  · have h := h.2.1 c
    refine lv_asi c ?_
    refine lv_tableIn (off := 43) (tgt := 44) hx hb dX6_now_1 (by decide) (by decide) rfl (by decide) ?_
    refine lv_aload_n hx hb dX6_now_44 rfl (lv_at hl 0 rfl) ?_
    have p1 := gB (n := 1) (bs := [bModel E a0 M0]) (bc := [bModel E a0 M0]) (br := []) [0] rfl rfl (by decide)
    refine g_i (g_runV (As := []) (rest := []) ⟨hx, hb, hml, hown, ht⟩ hE (c_X6_ring E l a0 M0 _ h) ⟨rfl, rfl⟩ wk_X6_135 wi_X6_ring ws_X6_ring wn_X6 wc_X6_ring yd_X6_ring ⟨Nat.le_of_ble_eq_true rfl, Nat.le_of_ble_eq_true rfl⟩ hP hD p1 (ci := 6) rfl rfl rfl rfl rfl hl.1 rfl (lv_room (Nat.le_of_ble_eq_true rfl)) dX6_now_45 ⟨Nat.zero_le _, Nat.zero_le _⟩) hP hD hS p1 (fun r_1 _ w H locs h hw hP hD hS => ?_)
    subst hw
    clear p1
    have p2 := gB (n := 1) (bs := [bModel E a0 M0]) (bc := [bModel E a0 M0]) (br := []) [0] rfl rfl (by decide)
    have hP := gP_perm p2.symm hP
    have hD := gD_perm p2.symm hD
    clear p2
    exact hret r_1 () _ _ _ _ _ h rfl hP hD hS dX6_now_48
  · have h := h.2.2.1 c
    refine lv_asi c ?_
    refine lv_tableIn (off := 48) (tgt := 49) hx hb dX6_now_1 (by decide) (by decide) rfl (by decide) ?_
    refine lv_aload_n hx hb dX6_now_49 rfl (lv_at hl 0 rfl) ?_
    refine lv_aload_n hx hb dX6_now_50 rfl (lv_at hl 0 rfl) ?_
    have p1 := gB (n := 1) (bs := [bModel E a0 M0]) (bc := [bModel E a0 M0]) (br := []) [0] rfl rfl (by decide)
    refine g_i (g_runV (As := []) (rest := [.ref (a0 99)]) ⟨hx, hb, hml, hown, ht⟩ hE (c_X6_ring E l a0 M0 _ h) ⟨rfl, rfl⟩ wk_X6_135 wi_X6_ring ws_X6_ring wn_X6 wc_X6_ring yd_X6_ring ⟨Nat.le_of_ble_eq_true rfl, Nat.le_of_ble_eq_true rfl⟩ hP hD p1 (ci := 6) rfl rfl rfl rfl rfl hl.1 rfl (lv_room (Nat.le_of_ble_eq_true rfl)) dX6_now_51 ⟨Nat.zero_le _, Nat.zero_le _⟩) hP hD hS p1 (fun r_2 _ w H locs h hw hP hD hS => ?_)
    subst hw
    clear p1
    have p2 := gB (n := 1) (bs := [bModel E a0 M0]) (bc := [bModel E a0 M0]) (br := []) [0] rfl rfl (by decide)
    have hP := gP_perm p2.symm hP
    have hD := gD_perm p2.symm hD
    clear p2
    have p1 := gB (n := 1) (bs := [bModel E a0 M0]) (bc := [bModel E a0 M0]) (br := []) [0] rfl rfl (by decide)
    refine g_i (g_runV (As := [.int r_2]) (rest := []) ⟨hx, hb, hml, hown, ht⟩ hE (c_X6_getsIn E l a0 M0 r_2 _ h) ⟨rfl, rfl⟩ wk_X6_139 wi_X6_getsIn ws_X6_getsIn wn_X6 wc_X6_getsIn yd_X6_getsIn ⟨Nat.le_of_ble_eq_true rfl, Nat.le_of_ble_eq_true rfl⟩ hP hD p1 (ci := 6) rfl rfl rfl rfl rfl hl.1 rfl (lv_room (Nat.le_of_ble_eq_true rfl)) dX6_now_54 ⟨Nat.zero_le _, Nat.zero_le _⟩) hP hD hS p1 (fun r_3 _ w H locs h hw hP hD hS => ?_)
    subst hw
    clear p1
    have p2 := gB (n := 1) (bs := [bModel E a0 M0]) (bc := [bModel E a0 M0]) (br := []) [0] rfl rfl (by decide)
    have hP := gP_perm p2.symm hP
    have hD := gD_perm p2.symm hD
    clear p2
    exact hret r_3 () _ _ _ _ _ h rfl hP hD hS dX6_now_57
  · have h := h.2.2.2.1 c
    refine lv_asi c ?_
    refine lv_tableIn (off := 57) (tgt := 58) hx hb dX6_now_1 (by decide) (by decide) rfl (by decide) ?_
    refine lv_aload_n hx hb dX6_now_58 rfl (lv_at hl 0 rfl) ?_
    have p1 := gB (n := 1) (bs := [bModel E a0 M0]) (bc := [bModel E a0 M0]) (br := []) [0] rfl rfl (by decide)
    refine g_i (g_runV (As := []) (rest := []) ⟨hx, hb, hml, hown, ht⟩ hE (c_X6_worst E l a0 M0 _ h) ⟨rfl, rfl⟩ wk_X6_178 wi_X6_worst ws_X6_worst wn_X6 wc_X6_worst yd_X6_worst ⟨Nat.le_of_ble_eq_true rfl, Nat.le_of_ble_eq_true rfl⟩ hP hD p1 (ci := 6) rfl rfl rfl rfl rfl hl.1 rfl (lv_room (Nat.le_of_ble_eq_true rfl)) dX6_now_59 ⟨Nat.zero_le _, Nat.zero_le _⟩) hP hD hS p1 (fun r_4 _ w H locs h hw hP hD hS => ?_)
    subst hw
    clear p1
    have p2 := gB (n := 1) (bs := [bModel E a0 M0]) (bc := [bModel E a0 M0]) (br := []) [0] rfl rfl (by decide)
    have hP := gP_perm p2.symm hP
    have hD := gD_perm p2.symm hD
    clear p2
    exact hret r_4 () _ _ _ _ _ h rfl hP hD hS dX6_now_62
  · have h := h.2.2.2.2.1 c
    refine lv_asi c ?_
    refine lv_tableIn (off := 62) (tgt := 63) hx hb dX6_now_1 (by decide) (by decide) rfl (by decide) ?_
    refine lv_aload_n hx hb dX6_now_63 rfl (lv_at hl 0 rfl) ?_
    have p1 := gB (n := 1) (bs := [bModel E a0 M0]) (bc := [bModel E a0 M0]) (br := []) [0] rfl rfl (by decide)
    refine g_i (g_runV (As := []) (rest := []) ⟨hx, hb, hml, hown, ht⟩ hE (c_X6_greatestRounds E l a0 M0 _ h) ⟨rfl, rfl⟩ wk_X6_181 wi_X6_greatestRounds ws_X6_greatestRounds wn_X6 wc_X6_greatestRounds yd_X6_greatestRounds ⟨Nat.le_of_ble_eq_true rfl, Nat.le_of_ble_eq_true rfl⟩ hP hD p1 (ci := 6) rfl rfl rfl rfl rfl hl.1 rfl (lv_room (Nat.le_of_ble_eq_true rfl)) dX6_now_64 ⟨Nat.zero_le _, Nat.zero_le _⟩) hP hD hS p1 (fun r_5 _ w H locs h hw hP hD hS => ?_)
    subst hw
    clear p1
    have p2 := gB (n := 1) (bs := [bModel E a0 M0]) (bc := [bModel E a0 M0]) (br := []) [0] rfl rfl (by decide)
    have hP := gP_perm p2.symm hP
    have hD := gD_perm p2.symm hD
    clear p2
    exact hret r_5 () _ _ _ _ _ h rfl hP hD hS dX6_now_67
  · have h := h.2.2.2.2.2 c
    refine lv_tableOut (tgt := 68) hx hb dX6_now_1 c (by decide) ?_
    refine lv_iconst (v := (-1)) hx hb dX6_now_68 (by decide) ?_
    exact hret (-1) () _ _ _ _ _ h rfl hP hD hS dX6_now_69
theorem dX6_left_0 : decode cX6_left 0 = .ok (.aload_n 0, 1) := by decide +kernel
theorem dX6_left_1 : decode cX6_left 1 = .ok (.iload_n 1, 1) := by decide +kernel
theorem dX6_left_2 : decode cX6_left 2 = .ok (.invokevirtual 149, 3) := by decide +kernel
theorem dX6_left_5 : decode cX6_left 5 = .ok (.ifCond .eq 11, 3) := by decide +kernel
theorem dX6_left_8 : decode cX6_left 8 = .ok (.aload_n 0, 1) := by decide +kernel
theorem dX6_left_9 : decode cX6_left 9 = .ok (.iload_n 1, 1) := by decide +kernel
theorem dX6_left_10 : decode cX6_left 10 = .ok (.invokevirtual 175, 3) := by decide +kernel
theorem dX6_left_13 : decode cX6_left 13 = .ok (.goto 4, 3) := by decide +kernel
theorem dX6_left_16 : decode cX6_left 16 = .ok (.iconst (-1), 1) := by decide +kernel
theorem dX6_left_17 : decode cX6_left 17 = .ok (.ireturn, 1) := by decide +kernel
set_option maxHeartbeats 4000000 in
set_option maxRecDepth 100000 in
theorem c_X6_left (E : GE) (l : Launch) (a0 : Nat → Nat) (M0 : Mo) (x1 : Int32) (post : Int32 → Prop) (h : wp_X6_left M0 x1 post) : Met l yX6_left (wz yX6_left cX6_left 2 (some .int)) { frames := 4, cells := 0, slots := 0, locals := 86 } (gPc E [.ref (a0 99), .int x1] (gW [bModel E a0 M0])) (gQi E (gW [bModel E a0 M0]) (fun r (_ : Unit) => post r) (fun (_ : Unit) w => w = gW [bModel E a0 M0])) 0 0 (gIn (gW [bModel E a0 M0])) := by
  unfold wp_X6_left at h
  refine g_of_i (by decide) (Nat.le_of_ble_eq_true rfl) ?_
  intro p e s m below meth c A Q hx hb hml hown ht hE hP hD hret ls hl
  have hK := hE.1
  have hS : va_S A s.heap s.heap [] := va_S.rf
  have hl : lv_has ls 2 [(0, .ref (a0 99)), (1, .int x1)] := hl
  refine lv_aload_n hx hb dX6_left_0 rfl (lv_at hl 0 rfl) ?_
  refine lv_iload_n hx hb dX6_left_1 rfl (lv_at hl 1 rfl) ?_
  have p1 := gB (n := 1) (bs := [bModel E a0 M0]) (bc := [bModel E a0 M0]) (br := []) [0] rfl rfl (by decide)
  refine g_i (g_runV (As := [.int x1]) (rest := []) ⟨hx, hb, hml, hown, ht⟩ hE (c_X6_isLock E l a0 M0 x1 _ h) ⟨rfl, rfl⟩ wk_X6_149 wi_X6_isLock ws_X6_isLock wn_X6 wc_X6_isLock yd_X6_isLock ⟨Nat.le_of_ble_eq_true rfl, Nat.le_of_ble_eq_true rfl⟩ hP hD p1 (ci := 6) rfl rfl rfl rfl rfl hl.1 rfl (lv_room (Nat.le_of_ble_eq_true rfl)) dX6_left_2 ⟨Nat.zero_le _, Nat.zero_le _⟩) hP hD hS p1 (fun r_1 _ w H locs h hw hP hD hS => ?_)
  subst hw
  clear p1
  have p2 := gB (n := 1) (bs := [bModel E a0 M0]) (bc := [bModel E a0 M0]) (br := []) [0] rfl rfl (by decide)
  have hP := gP_perm p2.symm hP
  have hD := gD_perm p2.symm hD
  clear p2
  refine lv_if_eq (tgt := 16) hx hb dX6_left_5 (by decide) (fun c_2 => ?_) (fun c_2 => ?_)
  · have h := h.1 c_2
    refine lv_iconst (v := (-1)) hx hb dX6_left_16 (by decide) ?_
    exact hret (-1) () _ _ _ _ _ h rfl hP hD hS dX6_left_17
  · have h := h.2 c_2
    refine lv_aload_n hx hb dX6_left_8 rfl (lv_at hl 0 rfl) ?_
    refine lv_iload_n hx hb dX6_left_9 rfl (lv_at hl 1 rfl) ?_
    have p1 := gB (n := 1) (bs := [bModel E a0 M0]) (bc := [bModel E a0 M0]) (br := []) [0] rfl rfl (by decide)
    refine g_i (g_runV (As := [.int x1]) (rest := []) ⟨hx, hb, hml, hown, ht⟩ hE (c_X6_leftBy E l a0 M0 x1 _ h) ⟨rfl, rfl⟩ wk_X6_175 wi_X6_leftBy ws_X6_leftBy wn_X6 wc_X6_leftBy yd_X6_leftBy ⟨Nat.le_of_ble_eq_true rfl, Nat.le_of_ble_eq_true rfl⟩ hP hD p1 (ci := 6) rfl rfl rfl rfl rfl hl.1 rfl (lv_room (Nat.le_of_ble_eq_true rfl)) dX6_left_10 ⟨Nat.zero_le _, Nat.zero_le _⟩) hP hD hS p1 (fun r_3 _ w H locs h hw hP hD hS => ?_)
    subst hw
    clear p1
    have p2 := gB (n := 1) (bs := [bModel E a0 M0]) (bc := [bModel E a0 M0]) (br := []) [0] rfl rfl (by decide)
    have hP := gP_perm p2.symm hP
    have hD := gD_perm p2.symm hD
    clear p2
    refine lv_goto (tgt := 17) hx hb dX6_left_13 (by decide) ?_
    exact hret r_3 () _ _ _ _ _ h rfl hP hD hS dX6_left_17
theorem dX6_jam_0 : decode cX6_jam 0 = .ok (.iload_n 1, 1) := by decide +kernel
theorem dX6_jam_1 : decode cX6_jam 1 = .ok (.i2l, 1) := by decide +kernel
theorem dX6_jam_2 : decode cX6_jam 2 = .ok (.lconst 0, 1) := by decide +kernel
theorem dX6_jam_3 : decode cX6_jam 3 = .ok (.ldc2_w 184, 3) := by decide +kernel
theorem dX6_jam_6 : decode cX6_jam 6 = .ok (.invokestatic 55, 3) := by decide +kernel
theorem dX6_jam_9 : decode cX6_jam 9 = .ok (.ifCond .ne 5, 3) := by decide +kernel
theorem dX6_jam_12 : decode cX6_jam 12 = .ok (.iconst (-1), 1) := by decide +kernel
theorem dX6_jam_13 : decode cX6_jam 13 = .ok (.ireturn, 1) := by decide +kernel
theorem dX6_jam_14 : decode cX6_jam 14 = .ok (.bipush (-9), 2) := by decide +kernel
theorem dX6_jam_16 : decode cX6_jam 16 = .ok (.istore_n 2, 1) := by decide +kernel
theorem dX6_jam_17 : decode cX6_jam 17 = .ok (.iconst 0, 1) := by decide +kernel
theorem dX6_jam_18 : decode cX6_jam 18 = .ok (.istore_n 3, 1) := by decide +kernel
theorem dX6_jam_19 : decode cX6_jam 19 = .ok (.iload_n 3, 1) := by decide +kernel
theorem dX6_jam_20 : decode cX6_jam 20 = .ok (.iconst 1, 1) := by decide +kernel
theorem dX6_jam_21 : decode cX6_jam 21 = .ok (.aload_n 0, 1) := by decide +kernel
theorem dX6_jam_22 : decode cX6_jam 22 = .ok (.getfield 7, 3) := by decide +kernel
theorem dX6_jam_25 : decode cX6_jam 25 = .ok (.ishl, 1) := by decide +kernel
theorem dX6_jam_26 : decode cX6_jam 26 = .ok (.if_icmp .ge 107, 3) := by decide +kernel
theorem dX6_jam_29 : decode cX6_jam 29 = .ok (.iconst 0, 1) := by decide +kernel
theorem dX6_jam_30 : decode cX6_jam 30 = .ok (.istore 4, 2) := by decide +kernel
theorem dX6_jam_32 : decode cX6_jam 32 = .ok (.iconst 0, 1) := by decide +kernel
theorem dX6_jam_33 : decode cX6_jam 33 = .ok (.istore 5, 2) := by decide +kernel
theorem dX6_jam_35 : decode cX6_jam 35 = .ok (.iload 5, 2) := by decide +kernel
theorem dX6_jam_37 : decode cX6_jam 37 = .ok (.aload_n 0, 1) := by decide +kernel
theorem dX6_jam_38 : decode cX6_jam 38 = .ok (.getfield 7, 3) := by decide +kernel
theorem dX6_jam_41 : decode cX6_jam 41 = .ok (.if_icmp .ge 37, 3) := by decide +kernel
theorem dX6_jam_44 : decode cX6_jam 44 = .ok (.iload 4, 2) := by decide +kernel
theorem dX6_jam_46 : decode cX6_jam 46 = .ok (.iload_n 3, 1) := by decide +kernel
theorem dX6_jam_47 : decode cX6_jam 47 = .ok (.iload 5, 2) := by decide +kernel
theorem dX6_jam_49 : decode cX6_jam 49 = .ok (.invokestatic 125, 3) := by decide +kernel
theorem dX6_jam_52 : decode cX6_jam 52 = .ok (.ifCond .eq 16, 3) := by decide +kernel
theorem dX6_jam_55 : decode cX6_jam 55 = .ok (.aload_n 0, 1) := by decide +kernel
theorem dX6_jam_56 : decode cX6_jam 56 = .ok (.getfield 23, 3) := by decide +kernel
theorem dX6_jam_59 : decode cX6_jam 59 = .ok (.bipush 26, 2) := by decide +kernel
theorem dX6_jam_61 : decode cX6_jam 61 = .ok (.iload 5, 2) := by decide +kernel
theorem dX6_jam_63 : decode cX6_jam 63 = .ok (.iadd, 1) := by decide +kernel
theorem dX6_jam_64 : decode cX6_jam 64 = .ok (.iaload, 1) := by decide +kernel
theorem dX6_jam_65 : decode cX6_jam 65 = .ok (.goto 4, 3) := by decide +kernel
theorem dX6_jam_68 : decode cX6_jam 68 = .ok (.iconst 0, 1) := by decide +kernel
theorem dX6_jam_69 : decode cX6_jam 69 = .ok (.ior, 1) := by decide +kernel
theorem dX6_jam_70 : decode cX6_jam 70 = .ok (.istore 4, 2) := by decide +kernel
theorem dX6_jam_72 : decode cX6_jam 72 = .ok (.iinc 5 1, 3) := by decide +kernel
theorem dX6_jam_75 : decode cX6_jam 75 = .ok (.goto (-40), 3) := by decide +kernel
theorem dX6_jam_78 : decode cX6_jam 78 = .ok (.iload 4, 2) := by decide +kernel
theorem dX6_jam_80 : decode cX6_jam 80 = .ok (.aload_n 0, 1) := by decide +kernel
theorem dX6_jam_81 : decode cX6_jam 81 = .ok (.invokevirtual 135, 3) := by decide +kernel
theorem dX6_jam_84 : decode cX6_jam 84 = .ok (.iand, 1) := by decide +kernel
theorem dX6_jam_85 : decode cX6_jam 85 = .ok (.invokestatic 169, 3) := by decide +kernel
theorem dX6_jam_88 : decode cX6_jam 88 = .ok (.iload_n 1, 1) := by decide +kernel
theorem dX6_jam_89 : decode cX6_jam 89 = .ok (.if_icmp .le 24, 3) := by decide +kernel
theorem dX6_jam_92 : decode cX6_jam 92 = .ok (.iload_n 2, 1) := by decide +kernel
theorem dX6_jam_93 : decode cX6_jam 93 = .ok (.bipush (-9), 2) := by decide +kernel
theorem dX6_jam_95 : decode cX6_jam 95 = .ok (.if_icmp .eq 14, 3) := by decide +kernel
theorem dX6_jam_98 : decode cX6_jam 98 = .ok (.iload_n 3, 1) := by decide +kernel
theorem dX6_jam_99 : decode cX6_jam 99 = .ok (.invokestatic 169, 3) := by decide +kernel
theorem dX6_jam_102 : decode cX6_jam 102 = .ok (.iload_n 2, 1) := by decide +kernel
theorem dX6_jam_103 : decode cX6_jam 103 = .ok (.invokestatic 169, 3) := by decide +kernel
theorem dX6_jam_106 : decode cX6_jam 106 = .ok (.if_icmp .ge 7, 3) := by decide +kernel
theorem dX6_jam_109 : decode cX6_jam 109 = .ok (.iconst 1, 1) := by decide +kernel
theorem dX6_jam_110 : decode cX6_jam 110 = .ok (.goto 4, 3) := by decide +kernel
theorem dX6_jam_113 : decode cX6_jam 113 = .ok (.iconst 0, 1) := by decide +kernel
theorem dX6_jam_114 : decode cX6_jam 114 = .ok (.istore 5, 2) := by decide +kernel
theorem dX6_jam_116 : decode cX6_jam 116 = .ok (.iload 5, 2) := by decide +kernel
theorem dX6_jam_118 : decode cX6_jam 118 = .ok (.ifCond .eq 7, 3) := by decide +kernel
theorem dX6_jam_121 : decode cX6_jam 121 = .ok (.iload_n 3, 1) := by decide +kernel
theorem dX6_jam_122 : decode cX6_jam 122 = .ok (.goto 4, 3) := by decide +kernel
theorem dX6_jam_125 : decode cX6_jam 125 = .ok (.iload_n 2, 1) := by decide +kernel
theorem dX6_jam_126 : decode cX6_jam 126 = .ok (.istore_n 2, 1) := by decide +kernel
theorem dX6_jam_127 : decode cX6_jam 127 = .ok (.iinc 3 1, 3) := by decide +kernel
theorem dX6_jam_130 : decode cX6_jam 130 = .ok (.goto (-111), 3) := by decide +kernel
theorem dX6_jam_133 : decode cX6_jam 133 = .ok (.iload_n 2, 1) := by decide +kernel
theorem dX6_jam_134 : decode cX6_jam 134 = .ok (.ireturn, 1) := by decide +kernel
set_option maxHeartbeats 4000000 in
set_option maxRecDepth 100000 in
theorem c_X6_jam (E : GE) (l : Launch) (a0 : Nat → Nat) (M0 : Mo) (x1 : Int32) (post : Int32 → Prop) (h : wp_X6_jam M0 x1 post) : Met l yX6_jam (wz yX6_jam cX6_jam 6 (some .int)) { frames := 1, cells := 0, slots := 0, locals := 25 } (gPc E [.ref (a0 99), .int x1] (gW [bModel E a0 M0])) (gQi E (gW [bModel E a0 M0]) (fun r (_ : Unit) => post r) (fun (_ : Unit) w => w = gW [bModel E a0 M0])) 0 0 (gIn (gW [bModel E a0 M0])) := by
  unfold wp_X6_jam at h
  refine g_of_i (by decide) (Nat.le_of_ble_eq_true rfl) ?_
  intro p e s m below meth c A Q hx hb hml hown ht hE hP hD hret ls hl
  have hK := hE.1
  have hS : va_S A s.heap s.heap [] := va_S.rf
  have hl : lv_has ls 6 [(0, .ref (a0 99)), (1, .int x1)] := hl
  refine lv_iload_n hx hb dX6_jam_0 rfl (lv_at hl 1 rfl) ?_
  refine lv_i2l (v := x1.toInt64) hx hb dX6_jam_1 rfl ?_
  refine lv_lconst (v := 0) hx hb dX6_jam_2 (by decide) ?_
  refine lv_ldc2 hx hb hown (ht _ wk_X6_184) dX6_jam_3 ?_
  have p1 := gB (n := 1) (bs := [bModel E a0 M0]) (bc := []) (br := [bModel E a0 M0]) [0] rfl rfl (by decide)
  refine g_i (g_runS (As := [.long (x1.toInt64), .long 0, .long 7]) (rest := []) ⟨hx, hb, hml, hown, ht⟩ hE (c_X6_in E l (x1.toInt64) 0 7 _ h) ⟨rfl, rfl⟩ wk_X6_55 wt_X6_in wn_X6 wc_X6_in yd_X6_in ⟨Nat.le_of_ble_eq_true rfl, Nat.le_of_ble_eq_true rfl⟩ hP hD p1 rfl rfl hl.1 rfl (lv_room (Nat.le_of_ble_eq_true rfl)) dX6_jam_6 ⟨Nat.zero_le _, Nat.zero_le _⟩) hP hD hS p1 (fun r_1 _ w H locs h hw hP hD hS => ?_)
  subst hw
  clear p1
  have p2 := gB (n := 1) (bs := [bModel E a0 M0]) (bc := []) (br := [bModel E a0 M0]) [0] rfl rfl (by decide)
  have hP := gP_perm p2.symm hP
  have hD := gD_perm p2.symm hD
  clear p2
  refine lv_if_ne (tgt := 14) hx hb dX6_jam_9 (by decide) (fun c_2 => ?_) (fun c_2 => ?_)
  · have h := h.1 c_2
    refine lv_bipush (v := (-9)) hx hb dX6_jam_14 (by decide) ?_
    refine lv_istore_n (lv' := [(2, .int (-9)), (0, .ref (a0 99)), (1, .int x1)]) hx hb dX6_jam_16 rfl hl (by decide) rfl (fun ls hl => ?_)
    refine lv_iconst (v := 0) hx hb dX6_jam_17 (by decide) ?_
    refine lv_istore_n (lv' := [(3, .int 0), (2, .int (-9)), (0, .ref (a0 99)), (1, .int x1)]) hx hb dX6_jam_18 rfl hl (by decide) rfl (fun ls hl => ?_)
    have L19 : ∀ (n19 : Nat) (x2_19 : Int32) (x3_19 : Int32) (H : Heap) (locs : List Loc) (ls : Array Slot), wp_X6_jam_L19 post x1 M0 n19 x2_19 x3_19 → gP E (gW [bModel E a0 M0]) H → va_D A (gW [bModel E a0 M0]) → va_S A s.heap H locs → lv_has ls 6 [(0, .ref (a0 99)), (1, .int x1), (2, .int x2_19), (3, .int x3_19)] → W p l e { frames := 1, cells := 0, slots := 0, locals := 25 } s m ([.ref (a0 99), .int x1] : List Value).toArray below meth c H locs 0 0 Q (F0 m 19 ls []) := by
      intro n19
      induction n19 with
      | zero => intro x2_19 x3_19 H locs ls h; exact h.elim
      | succ n19 ih19 =>
        intro x2_19 x3_19 H locs ls h hP hD hS hl
        rw [wp_X6_jam_L19] at h
        refine lv_iload_n hx hb dX6_jam_19 rfl (lv_at hl 3 rfl) ?_
        refine lv_iconst (v := 1) hx hb dX6_jam_20 (by decide) ?_
        refine lv_aload_n hx hb dX6_jam_21 rfl (lv_at hl 0 rfl) ?_
        refine va_get (D := (E.1, E.2.1)) (ci := 6) (v := .int (M0.1.1 0)) (C := RX6) (T := TX6) (N := 26) hx hb ht wu_X6 hown hK hP 0 rfl rfl 0 (by decide) (ht _ wk_X6_7) (fun _ h9 => h9) rfl dX6_jam_22 ?_
        refine lv_ishl hx hb dX6_jam_25 ?_
        refine lv_icmp_ge (tgt := 133) hx hb dX6_jam_26 (by decide) (fun c_32 => ?_) (fun c_32 => ?_)
        · have h := h.1 c_32
          refine lv_iload_n hx hb dX6_jam_133 rfl (lv_at hl 2 rfl) ?_
          exact hret x2_19 () _ _ _ _ _ h rfl hP hD hS dX6_jam_134
        · have h := h.2 c_32
          refine lv_iconst (v := 0) hx hb dX6_jam_29 (by decide) ?_
          refine lv_istore (lv' := [(4, .int 0), (0, .ref (a0 99)), (1, .int x1), (2, .int x2_19), (3, .int x3_19)]) hx hb dX6_jam_30 hl (by decide) rfl (fun ls hl => ?_)
          refine lv_iconst (v := 0) hx hb dX6_jam_32 (by decide) ?_
          refine lv_istore (lv' := [(5, .int 0), (4, .int 0), (0, .ref (a0 99)), (1, .int x1), (2, .int x2_19), (3, .int x3_19)]) hx hb dX6_jam_33 hl (by decide) rfl (fun ls hl => ?_)
          have L35 : ∀ (n35 : Nat) (x4_35 : Int32) (x5_35 : Int32) (H : Heap) (locs : List Loc) (ls : Array Slot), wp_X6_jam_L35 post (fun x2_19 x3_19 => (wp_X6_jam_L19 post x1 M0 n19 x2_19 x3_19)) x1 x2_19 x3_19 M0 n35 x4_35 x5_35 → gP E (gW [bModel E a0 M0]) H → va_D A (gW [bModel E a0 M0]) → va_S A s.heap H locs → lv_has ls 6 [(0, .ref (a0 99)), (1, .int x1), (2, .int x2_19), (3, .int x3_19), (4, .int x4_35), (5, .int x5_35)] → W p l e { frames := 1, cells := 0, slots := 0, locals := 25 } s m ([.ref (a0 99), .int x1] : List Value).toArray below meth c H locs 0 0 Q (F0 m 35 ls []) := by
            intro n35
            induction n35 with
            | zero => intro x4_35 x5_35 H locs ls h; exact h.elim
            | succ n35 ih35 =>
              intro x4_35 x5_35 H locs ls h hP hD hS hl
              rw [wp_X6_jam_L35] at h
              refine lv_iload hx hb dX6_jam_35 (lv_at hl 5 rfl) ?_
              refine lv_aload_n hx hb dX6_jam_37 rfl (lv_at hl 0 rfl) ?_
              refine va_get (D := (E.1, E.2.1)) (ci := 6) (v := .int (M0.1.1 0)) (C := RX6) (T := TX6) (N := 26) hx hb ht wu_X6 hown hK hP 0 rfl rfl 0 (by decide) (ht _ wk_X6_7) (fun _ h9 => h9) rfl dX6_jam_38 ?_
              refine lv_icmp_ge (tgt := 78) hx hb dX6_jam_41 (by decide) (fun c_33 => ?_) (fun c_33 => ?_)
              · have h := h.1 c_33
                refine lv_iload hx hb dX6_jam_78 (lv_at hl 4 rfl) ?_
                refine lv_aload_n hx hb dX6_jam_80 rfl (lv_at hl 0 rfl) ?_
                have p1 := gB (n := 1) (bs := [bModel E a0 M0]) (bc := [bModel E a0 M0]) (br := []) [0] rfl rfl (by decide)
                refine g_i (g_runV (As := []) (rest := [.int x4_35]) ⟨hx, hb, hml, hown, ht⟩ hE (c_X6_ring E l a0 M0 _ h) ⟨rfl, rfl⟩ wk_X6_135 wi_X6_ring ws_X6_ring wn_X6 wc_X6_ring yd_X6_ring ⟨Nat.le_of_ble_eq_true rfl, Nat.le_of_ble_eq_true rfl⟩ hP hD p1 (ci := 6) rfl rfl rfl rfl rfl hl.1 rfl (lv_room (Nat.le_of_ble_eq_true rfl)) dX6_jam_81 ⟨Nat.zero_le _, Nat.zero_le _⟩) hP hD hS p1 (fun r_34 _ w H locs h hw hP hD hS => ?_)
                subst hw
                clear p1
                have p2 := gB (n := 1) (bs := [bModel E a0 M0]) (bc := [bModel E a0 M0]) (br := []) [0] rfl rfl (by decide)
                have hP := gP_perm p2.symm hP
                have hD := gD_perm p2.symm hD
                clear p2
                refine lv_iand hx hb dX6_jam_84 ?_
                have p1 := gB (n := 1) (bs := [bModel E a0 M0]) (bc := []) (br := [bModel E a0 M0]) [0] rfl rfl (by decide)
                refine g_i (g_runS (As := [.int (x4_35 &&& r_34)]) (rest := []) ⟨hx, hb, hml, hown, ht⟩ hE (c_X6_ones E l (x4_35 &&& r_34) _ h) ⟨rfl, rfl⟩ wk_X6_169 wt_X6_ones wn_X6 wc_X6_ones yd_X6_ones ⟨Nat.le_of_ble_eq_true rfl, Nat.le_of_ble_eq_true rfl⟩ hP hD p1 rfl rfl hl.1 rfl (lv_room (Nat.le_of_ble_eq_true rfl)) dX6_jam_85 ⟨Nat.zero_le _, Nat.zero_le _⟩) hP hD hS p1 (fun r_35 _ w H locs h hw hP hD hS => ?_)
                subst hw
                clear p1
                have p2 := gB (n := 1) (bs := [bModel E a0 M0]) (bc := []) (br := [bModel E a0 M0]) [0] rfl rfl (by decide)
                have hP := gP_perm p2.symm hP
                have hD := gD_perm p2.symm hD
                clear p2
                refine lv_iload_n hx hb dX6_jam_88 rfl (lv_at hl 1 rfl) ?_
                refine lv_icmp_le (tgt := 113) hx hb dX6_jam_89 (by decide) (fun c_36 => ?_) (fun c_36 => ?_)
                · have h := h.1 c_36
                  refine lv_iconst (v := 0) hx hb dX6_jam_113 (by decide) ?_
                  refine lv_istore (lv' := [(5, .int 0), (0, .ref (a0 99)), (1, .int x1), (2, .int x2_19), (3, .int x3_19), (4, .int x4_35)]) hx hb dX6_jam_114 hl (by decide) rfl (fun ls hl => ?_)
                  refine lv_iload hx hb dX6_jam_116 (lv_at hl 0 rfl) ?_
                  refine lv_if_eq (tgt := 125) hx hb dX6_jam_118 (by decide) (fun c_37 => ?_) (fun c_37 => ?_)
                  · have h := h.1 c_37
                    refine lv_iload_n hx hb dX6_jam_125 rfl (lv_at hl 3 rfl) ?_
                    refine lv_istore_n (lv' := [(2, .int x2_19), (5, .int 0), (0, .ref (a0 99)), (1, .int x1), (3, .int x3_19), (4, .int x4_35)]) hx hb dX6_jam_126 rfl hl (by decide) rfl (fun ls hl => ?_)
                    refine lv_iinc (v := (x3_19 + 1)) (lv' := [(3, .int (x3_19 + 1)), (2, .int x2_19), (5, .int 0), (0, .ref (a0 99)), (1, .int x1), (4, .int x4_35)]) hx hb dX6_jam_127 hl (k := 4) rfl rfl (by decide) rfl (fun ls hl => ?_)
                    refine lv_goto (tgt := 19) hx hb dX6_jam_130 (by decide) ?_
                    exact ih19 x2_19 (x3_19 + 1) _ _ _ h hP hD hS (lv_sub hl [3, 4, 1, 0] rfl)
                  · have h := h.2 c_37
                    refine lv_iload_n hx hb dX6_jam_121 rfl (lv_at hl 4 rfl) ?_
                    refine lv_goto (tgt := 126) hx hb dX6_jam_122 (by decide) ?_
                    refine lv_istore_n (lv' := [(2, .int x3_19), (5, .int 0), (0, .ref (a0 99)), (1, .int x1), (3, .int x3_19), (4, .int x4_35)]) hx hb dX6_jam_126 rfl hl (by decide) rfl (fun ls hl => ?_)
                    refine lv_iinc (v := (x3_19 + 1)) (lv' := [(3, .int (x3_19 + 1)), (2, .int x3_19), (5, .int 0), (0, .ref (a0 99)), (1, .int x1), (4, .int x4_35)]) hx hb dX6_jam_127 hl (k := 4) rfl rfl (by decide) rfl (fun ls hl => ?_)
                    refine lv_goto (tgt := 19) hx hb dX6_jam_130 (by decide) ?_
                    exact ih19 x3_19 (x3_19 + 1) _ _ _ h hP hD hS (lv_sub hl [3, 4, 1, 0] rfl)
                · have h := h.2 c_36
                  refine lv_iload_n hx hb dX6_jam_92 rfl (lv_at hl 2 rfl) ?_
                  refine lv_bipush (v := (-9)) hx hb dX6_jam_93 (by decide) ?_
                  refine lv_icmp_eq (tgt := 109) hx hb dX6_jam_95 (by decide) (fun c_38 => ?_) (fun c_38 => ?_)
                  · have h := h.1 c_38
                    refine lv_iconst (v := 1) hx hb dX6_jam_109 (by decide) ?_
                    refine lv_goto (tgt := 114) hx hb dX6_jam_110 (by decide) ?_
                    refine lv_istore (lv' := [(5, .int 1), (0, .ref (a0 99)), (1, .int x1), (2, .int x2_19), (3, .int x3_19), (4, .int x4_35)]) hx hb dX6_jam_114 hl (by decide) rfl (fun ls hl => ?_)
                    refine lv_iload hx hb dX6_jam_116 (lv_at hl 0 rfl) ?_
                    refine lv_if_eq (tgt := 125) hx hb dX6_jam_118 (by decide) (fun c_39 => ?_) (fun c_39 => ?_)
                    · have h := h.1 c_39
                      refine lv_iload_n hx hb dX6_jam_125 rfl (lv_at hl 3 rfl) ?_
                      refine lv_istore_n (lv' := [(2, .int x2_19), (5, .int 1), (0, .ref (a0 99)), (1, .int x1), (3, .int x3_19), (4, .int x4_35)]) hx hb dX6_jam_126 rfl hl (by decide) rfl (fun ls hl => ?_)
                      refine lv_iinc (v := (x3_19 + 1)) (lv' := [(3, .int (x3_19 + 1)), (2, .int x2_19), (5, .int 1), (0, .ref (a0 99)), (1, .int x1), (4, .int x4_35)]) hx hb dX6_jam_127 hl (k := 4) rfl rfl (by decide) rfl (fun ls hl => ?_)
                      refine lv_goto (tgt := 19) hx hb dX6_jam_130 (by decide) ?_
                      exact ih19 x2_19 (x3_19 + 1) _ _ _ h hP hD hS (lv_sub hl [3, 4, 1, 0] rfl)
                    · have h := h.2 c_39
                      refine lv_iload_n hx hb dX6_jam_121 rfl (lv_at hl 4 rfl) ?_
                      refine lv_goto (tgt := 126) hx hb dX6_jam_122 (by decide) ?_
                      refine lv_istore_n (lv' := [(2, .int x3_19), (5, .int 1), (0, .ref (a0 99)), (1, .int x1), (3, .int x3_19), (4, .int x4_35)]) hx hb dX6_jam_126 rfl hl (by decide) rfl (fun ls hl => ?_)
                      refine lv_iinc (v := (x3_19 + 1)) (lv' := [(3, .int (x3_19 + 1)), (2, .int x3_19), (5, .int 1), (0, .ref (a0 99)), (1, .int x1), (4, .int x4_35)]) hx hb dX6_jam_127 hl (k := 4) rfl rfl (by decide) rfl (fun ls hl => ?_)
                      refine lv_goto (tgt := 19) hx hb dX6_jam_130 (by decide) ?_
                      exact ih19 x3_19 (x3_19 + 1) _ _ _ h hP hD hS (lv_sub hl [3, 4, 1, 0] rfl)
                  · have h := h.2 c_38
                    refine lv_iload_n hx hb dX6_jam_98 rfl (lv_at hl 3 rfl) ?_
                    have p1 := gB (n := 1) (bs := [bModel E a0 M0]) (bc := []) (br := [bModel E a0 M0]) [0] rfl rfl (by decide)
                    refine g_i (g_runS (As := [.int x3_19]) (rest := []) ⟨hx, hb, hml, hown, ht⟩ hE (c_X6_ones E l x3_19 _ h) ⟨rfl, rfl⟩ wk_X6_169 wt_X6_ones wn_X6 wc_X6_ones yd_X6_ones ⟨Nat.le_of_ble_eq_true rfl, Nat.le_of_ble_eq_true rfl⟩ hP hD p1 rfl rfl hl.1 rfl (lv_room (Nat.le_of_ble_eq_true rfl)) dX6_jam_99 ⟨Nat.zero_le _, Nat.zero_le _⟩) hP hD hS p1 (fun r_40 _ w H locs h hw hP hD hS => ?_)
                    subst hw
                    clear p1
                    have p2 := gB (n := 1) (bs := [bModel E a0 M0]) (bc := []) (br := [bModel E a0 M0]) [0] rfl rfl (by decide)
                    have hP := gP_perm p2.symm hP
                    have hD := gD_perm p2.symm hD
                    clear p2
                    refine lv_iload_n hx hb dX6_jam_102 rfl (lv_at hl 2 rfl) ?_
                    have p1 := gB (n := 1) (bs := [bModel E a0 M0]) (bc := []) (br := [bModel E a0 M0]) [0] rfl rfl (by decide)
                    refine g_i (g_runS (As := [.int x2_19]) (rest := [.int r_40]) ⟨hx, hb, hml, hown, ht⟩ hE (c_X6_ones E l x2_19 _ h) ⟨rfl, rfl⟩ wk_X6_169 wt_X6_ones wn_X6 wc_X6_ones yd_X6_ones ⟨Nat.le_of_ble_eq_true rfl, Nat.le_of_ble_eq_true rfl⟩ hP hD p1 rfl rfl hl.1 rfl (lv_room (Nat.le_of_ble_eq_true rfl)) dX6_jam_103 ⟨Nat.zero_le _, Nat.zero_le _⟩) hP hD hS p1 (fun r_41 _ w H locs h hw hP hD hS => ?_)
                    subst hw
                    clear p1
                    have p2 := gB (n := 1) (bs := [bModel E a0 M0]) (bc := []) (br := [bModel E a0 M0]) [0] rfl rfl (by decide)
                    have hP := gP_perm p2.symm hP
                    have hD := gD_perm p2.symm hD
                    clear p2
                    refine lv_icmp_ge (tgt := 113) hx hb dX6_jam_106 (by decide) (fun c_42 => ?_) (fun c_42 => ?_)
                    · have h := h.1 c_42
                      refine lv_iconst (v := 0) hx hb dX6_jam_113 (by decide) ?_
                      refine lv_istore (lv' := [(5, .int 0), (0, .ref (a0 99)), (1, .int x1), (2, .int x2_19), (3, .int x3_19), (4, .int x4_35)]) hx hb dX6_jam_114 hl (by decide) rfl (fun ls hl => ?_)
                      refine lv_iload hx hb dX6_jam_116 (lv_at hl 0 rfl) ?_
                      refine lv_if_eq (tgt := 125) hx hb dX6_jam_118 (by decide) (fun c_43 => ?_) (fun c_43 => ?_)
                      · have h := h.1 c_43
                        refine lv_iload_n hx hb dX6_jam_125 rfl (lv_at hl 3 rfl) ?_
                        refine lv_istore_n (lv' := [(2, .int x2_19), (5, .int 0), (0, .ref (a0 99)), (1, .int x1), (3, .int x3_19), (4, .int x4_35)]) hx hb dX6_jam_126 rfl hl (by decide) rfl (fun ls hl => ?_)
                        refine lv_iinc (v := (x3_19 + 1)) (lv' := [(3, .int (x3_19 + 1)), (2, .int x2_19), (5, .int 0), (0, .ref (a0 99)), (1, .int x1), (4, .int x4_35)]) hx hb dX6_jam_127 hl (k := 4) rfl rfl (by decide) rfl (fun ls hl => ?_)
                        refine lv_goto (tgt := 19) hx hb dX6_jam_130 (by decide) ?_
                        exact ih19 x2_19 (x3_19 + 1) _ _ _ h hP hD hS (lv_sub hl [3, 4, 1, 0] rfl)
                      · have h := h.2 c_43
                        refine lv_iload_n hx hb dX6_jam_121 rfl (lv_at hl 4 rfl) ?_
                        refine lv_goto (tgt := 126) hx hb dX6_jam_122 (by decide) ?_
                        refine lv_istore_n (lv' := [(2, .int x3_19), (5, .int 0), (0, .ref (a0 99)), (1, .int x1), (3, .int x3_19), (4, .int x4_35)]) hx hb dX6_jam_126 rfl hl (by decide) rfl (fun ls hl => ?_)
                        refine lv_iinc (v := (x3_19 + 1)) (lv' := [(3, .int (x3_19 + 1)), (2, .int x3_19), (5, .int 0), (0, .ref (a0 99)), (1, .int x1), (4, .int x4_35)]) hx hb dX6_jam_127 hl (k := 4) rfl rfl (by decide) rfl (fun ls hl => ?_)
                        refine lv_goto (tgt := 19) hx hb dX6_jam_130 (by decide) ?_
                        exact ih19 x3_19 (x3_19 + 1) _ _ _ h hP hD hS (lv_sub hl [3, 4, 1, 0] rfl)
                    · have h := h.2 c_42
                      refine lv_iconst (v := 1) hx hb dX6_jam_109 (by decide) ?_
                      refine lv_goto (tgt := 114) hx hb dX6_jam_110 (by decide) ?_
                      refine lv_istore (lv' := [(5, .int 1), (0, .ref (a0 99)), (1, .int x1), (2, .int x2_19), (3, .int x3_19), (4, .int x4_35)]) hx hb dX6_jam_114 hl (by decide) rfl (fun ls hl => ?_)
                      refine lv_iload hx hb dX6_jam_116 (lv_at hl 0 rfl) ?_
                      refine lv_if_eq (tgt := 125) hx hb dX6_jam_118 (by decide) (fun c_44 => ?_) (fun c_44 => ?_)
                      · have h := h.1 c_44
                        refine lv_iload_n hx hb dX6_jam_125 rfl (lv_at hl 3 rfl) ?_
                        refine lv_istore_n (lv' := [(2, .int x2_19), (5, .int 1), (0, .ref (a0 99)), (1, .int x1), (3, .int x3_19), (4, .int x4_35)]) hx hb dX6_jam_126 rfl hl (by decide) rfl (fun ls hl => ?_)
                        refine lv_iinc (v := (x3_19 + 1)) (lv' := [(3, .int (x3_19 + 1)), (2, .int x2_19), (5, .int 1), (0, .ref (a0 99)), (1, .int x1), (4, .int x4_35)]) hx hb dX6_jam_127 hl (k := 4) rfl rfl (by decide) rfl (fun ls hl => ?_)
                        refine lv_goto (tgt := 19) hx hb dX6_jam_130 (by decide) ?_
                        exact ih19 x2_19 (x3_19 + 1) _ _ _ h hP hD hS (lv_sub hl [3, 4, 1, 0] rfl)
                      · have h := h.2 c_44
                        refine lv_iload_n hx hb dX6_jam_121 rfl (lv_at hl 4 rfl) ?_
                        refine lv_goto (tgt := 126) hx hb dX6_jam_122 (by decide) ?_
                        refine lv_istore_n (lv' := [(2, .int x3_19), (5, .int 1), (0, .ref (a0 99)), (1, .int x1), (3, .int x3_19), (4, .int x4_35)]) hx hb dX6_jam_126 rfl hl (by decide) rfl (fun ls hl => ?_)
                        refine lv_iinc (v := (x3_19 + 1)) (lv' := [(3, .int (x3_19 + 1)), (2, .int x3_19), (5, .int 1), (0, .ref (a0 99)), (1, .int x1), (4, .int x4_35)]) hx hb dX6_jam_127 hl (k := 4) rfl rfl (by decide) rfl (fun ls hl => ?_)
                        refine lv_goto (tgt := 19) hx hb dX6_jam_130 (by decide) ?_
                        exact ih19 x3_19 (x3_19 + 1) _ _ _ h hP hD hS (lv_sub hl [3, 4, 1, 0] rfl)
              · have h := h.2 c_33
                refine lv_iload hx hb dX6_jam_44 (lv_at hl 4 rfl) ?_
                refine lv_iload_n hx hb dX6_jam_46 rfl (lv_at hl 3 rfl) ?_
                refine lv_iload hx hb dX6_jam_47 (lv_at hl 5 rfl) ?_
                have p1 := gB (n := 1) (bs := [bModel E a0 M0]) (bc := []) (br := [bModel E a0 M0]) [0] rfl rfl (by decide)
                refine g_i (g_runS (As := [.int x3_19, .int x5_35]) (rest := [.int x4_35]) ⟨hx, hb, hml, hown, ht⟩ hE (c_X6_has E l x3_19 x5_35 _ h) ⟨rfl, rfl⟩ wk_X6_125 wt_X6_has wn_X6 wc_X6_has yd_X6_has ⟨Nat.le_of_ble_eq_true rfl, Nat.le_of_ble_eq_true rfl⟩ hP hD p1 rfl rfl hl.1 rfl (lv_room (Nat.le_of_ble_eq_true rfl)) dX6_jam_49 ⟨Nat.zero_le _, Nat.zero_le _⟩) hP hD hS p1 (fun r_45 _ w H locs h hw hP hD hS => ?_)
                subst hw
                clear p1
                have p2 := gB (n := 1) (bs := [bModel E a0 M0]) (bc := []) (br := [bModel E a0 M0]) [0] rfl rfl (by decide)
                have hP := gP_perm p2.symm hP
                have hD := gD_perm p2.symm hD
                clear p2
                refine lv_if_eq (tgt := 68) hx hb dX6_jam_52 (by decide) (fun c_46 => ?_) (fun c_46 => ?_)
                · have h := h.1 c_46
                  refine lv_iconst (v := 0) hx hb dX6_jam_68 (by decide) ?_
                  refine lv_ior hx hb dX6_jam_69 ?_
                  refine lv_istore (lv' := [(4, .int (x4_35 ||| 0)), (0, .ref (a0 99)), (1, .int x1), (2, .int x2_19), (3, .int x3_19), (5, .int x5_35)]) hx hb dX6_jam_70 hl (by decide) rfl (fun ls hl => ?_)
                  refine lv_iinc (v := (x5_35 + 1)) (lv' := [(5, .int (x5_35 + 1)), (4, .int (x4_35 ||| 0)), (0, .ref (a0 99)), (1, .int x1), (2, .int x2_19), (3, .int x3_19)]) hx hb dX6_jam_72 hl (k := 5) rfl rfl (by decide) rfl (fun ls hl => ?_)
                  refine lv_goto (tgt := 35) hx hb dX6_jam_75 (by decide) ?_
                  exact ih35 (x4_35 ||| 0) (x5_35 + 1) _ _ _ h hP hD hS (lv_sub hl [2, 3, 4, 5, 1, 0] rfl)
                · have h := h.2 c_46
                  refine lv_aload_n hx hb dX6_jam_55 rfl (lv_at hl 0 rfl) ?_
                  refine va_get (D := (E.1, E.2.1)) (ci := 6) (v := .ref (a0 7)) (C := RX6) (T := TX6) (N := 26) hx hb ht wu_X6 hown hK hP 0 rfl rfl 7 (by decide) (ht _ wk_X6_23) (fun _ h9 => h9) rfl dX6_jam_56 ?_
                  refine lv_bipush (v := 26) hx hb dX6_jam_59 (by decide) ?_
                  refine lv_iload hx hb dX6_jam_61 (lv_at hl 5 rfl) ?_
                  refine lv_iadd hx hb dX6_jam_63 ?_
                  refine va_iald hx hb hK hP 4 0 rfl rfl h.1 dX6_jam_64 ?_
                  have h := h.2
                  refine lv_goto (tgt := 69) hx hb dX6_jam_65 (by decide) ?_
                  refine lv_ior hx hb dX6_jam_69 ?_
                  refine lv_istore (lv' := [(4, .int (x4_35 ||| (M0.1.2 7 (26 + x5_35).toNatClampNeg))), (0, .ref (a0 99)), (1, .int x1), (2, .int x2_19), (3, .int x3_19), (5, .int x5_35)]) hx hb dX6_jam_70 hl (by decide) rfl (fun ls hl => ?_)
                  refine lv_iinc (v := (x5_35 + 1)) (lv' := [(5, .int (x5_35 + 1)), (4, .int (x4_35 ||| (M0.1.2 7 (26 + x5_35).toNatClampNeg))), (0, .ref (a0 99)), (1, .int x1), (2, .int x2_19), (3, .int x3_19)]) hx hb dX6_jam_72 hl (k := 5) rfl rfl (by decide) rfl (fun ls hl => ?_)
                  refine lv_goto (tgt := 35) hx hb dX6_jam_75 (by decide) ?_
                  exact ih35 (x4_35 ||| (M0.1.2 7 (26 + x5_35).toNatClampNeg)) (x5_35 + 1) _ _ _ h hP hD hS (lv_sub hl [2, 3, 4, 5, 1, 0] rfl)
          obtain ⟨n35, h⟩ := h
          exact L35 n35 0 0 _ _ _ h hP hD hS (lv_sub hl [2, 3, 4, 5, 1, 0] rfl)
    obtain ⟨n19, h⟩ := h
    exact L19 n19 (-9) 0 _ _ _ h hP hD hS (lv_sub hl [2, 3, 1, 0] rfl)
  · have h := h.2 c_2
    refine lv_iconst (v := (-1)) hx hb dX6_jam_12 (by decide) ?_
    exact hret (-1) () _ _ _ _ _ h rfl hP hD hS dX6_jam_13
theorem dX6_near_0 : decode cX6_near 0 = .ok (.aload_n 0, 1) := by decide +kernel
theorem dX6_near_1 : decode cX6_near 1 = .ok (.iload_n 1, 1) := by decide +kernel
theorem dX6_near_2 : decode cX6_near 2 = .ok (.invokevirtual 149, 3) := by decide +kernel
theorem dX6_near_5 : decode cX6_near 5 = .ok (.ifCond .eq 15, 3) := by decide +kernel
theorem dX6_near_8 : decode cX6_near 8 = .ok (.iload_n 2, 1) := by decide +kernel
theorem dX6_near_9 : decode cX6_near 9 = .ok (.i2l, 1) := by decide +kernel
theorem dX6_near_10 : decode cX6_near 10 = .ok (.lconst 0, 1) := by decide +kernel
theorem dX6_near_11 : decode cX6_near 11 = .ok (.ldc2_w 186, 3) := by decide +kernel
theorem dX6_near_14 : decode cX6_near 14 = .ok (.invokestatic 55, 3) := by decide +kernel
theorem dX6_near_17 : decode cX6_near 17 = .ok (.ifCond .ne 5, 3) := by decide +kernel
theorem dX6_near_20 : decode cX6_near 20 = .ok (.iconst (-1), 1) := by decide +kernel
theorem dX6_near_21 : decode cX6_near 21 = .ok (.ireturn, 1) := by decide +kernel
theorem dX6_near_22 : decode cX6_near 22 = .ok (.iconst 0, 1) := by decide +kernel
theorem dX6_near_23 : decode cX6_near 23 = .ok (.istore_n 3, 1) := by decide +kernel
theorem dX6_near_24 : decode cX6_near 24 = .ok (.iconst 0, 1) := by decide +kernel
theorem dX6_near_25 : decode cX6_near 25 = .ok (.istore 4, 2) := by decide +kernel
theorem dX6_near_27 : decode cX6_near 27 = .ok (.iload 4, 2) := by decide +kernel
theorem dX6_near_29 : decode cX6_near 29 = .ok (.sipush 1000, 3) := by decide +kernel
theorem dX6_near_32 : decode cX6_near 32 = .ok (.if_icmp .ge 35, 3) := by decide +kernel
theorem dX6_near_35 : decode cX6_near 35 = .ok (.iload_n 3, 1) := by decide +kernel
theorem dX6_near_36 : decode cX6_near 36 = .ok (.iload 4, 2) := by decide +kernel
theorem dX6_near_38 : decode cX6_near 38 = .ok (.aload_n 0, 1) := by decide +kernel
theorem dX6_near_39 : decode cX6_near 39 = .ok (.getfield 23, 3) := by decide +kernel
theorem dX6_near_42 : decode cX6_near 42 = .ok (.bipush 18, 2) := by decide +kernel
theorem dX6_near_44 : decode cX6_near 44 = .ok (.iload_n 1, 1) := by decide +kernel
theorem dX6_near_45 : decode cX6_near 45 = .ok (.iadd, 1) := by decide +kernel
theorem dX6_near_46 : decode cX6_near 46 = .ok (.iaload, 1) := by decide +kernel
theorem dX6_near_47 : decode cX6_near 47 = .ok (.invokestatic 155, 3) := by decide +kernel
theorem dX6_near_50 : decode cX6_near 50 = .ok (.iload_n 2, 1) := by decide +kernel
theorem dX6_near_51 : decode cX6_near 51 = .ok (.if_icmp .gt 7, 3) := by decide +kernel
theorem dX6_near_54 : decode cX6_near 54 = .ok (.iconst 1, 1) := by decide +kernel
theorem dX6_near_55 : decode cX6_near 55 = .ok (.goto 4, 3) := by decide +kernel
theorem dX6_near_58 : decode cX6_near 58 = .ok (.iconst 0, 1) := by decide +kernel
theorem dX6_near_59 : decode cX6_near 59 = .ok (.iadd, 1) := by decide +kernel
theorem dX6_near_60 : decode cX6_near 60 = .ok (.istore_n 3, 1) := by decide +kernel
theorem dX6_near_61 : decode cX6_near 61 = .ok (.iinc 4 1, 3) := by decide +kernel
theorem dX6_near_64 : decode cX6_near 64 = .ok (.goto (-37), 3) := by decide +kernel
theorem dX6_near_67 : decode cX6_near 67 = .ok (.iload_n 3, 1) := by decide +kernel
theorem dX6_near_68 : decode cX6_near 68 = .ok (.ireturn, 1) := by decide +kernel
set_option maxHeartbeats 4000000 in
set_option maxRecDepth 100000 in
theorem c_X6_near (E : GE) (l : Launch) (a0 : Nat → Nat) (M0 : Mo) (x1 : Int32) (x2 : Int32) (post : Int32 → Prop) (h : wp_X6_near M0 x1 x2 post) : Met l yX6_near (wz yX6_near cX6_near 5 (some .int)) { frames := 2, cells := 0, slots := 0, locals := 46 } (gPc E [.ref (a0 99), .int x1, .int x2] (gW [bModel E a0 M0])) (gQi E (gW [bModel E a0 M0]) (fun r (_ : Unit) => post r) (fun (_ : Unit) w => w = gW [bModel E a0 M0])) 0 0 (gIn (gW [bModel E a0 M0])) := by
  unfold wp_X6_near at h
  refine g_of_i (by decide) (Nat.le_of_ble_eq_true rfl) ?_
  intro p e s m below meth c A Q hx hb hml hown ht hE hP hD hret ls hl
  have hK := hE.1
  have hS : va_S A s.heap s.heap [] := va_S.rf
  have hl : lv_has ls 5 [(0, .ref (a0 99)), (1, .int x1), (2, .int x2)] := hl
  refine lv_aload_n hx hb dX6_near_0 rfl (lv_at hl 0 rfl) ?_
  refine lv_iload_n hx hb dX6_near_1 rfl (lv_at hl 1 rfl) ?_
  have p1 := gB (n := 1) (bs := [bModel E a0 M0]) (bc := [bModel E a0 M0]) (br := []) [0] rfl rfl (by decide)
  refine g_i (g_runV (As := [.int x1]) (rest := []) ⟨hx, hb, hml, hown, ht⟩ hE (c_X6_isLock E l a0 M0 x1 _ h) ⟨rfl, rfl⟩ wk_X6_149 wi_X6_isLock ws_X6_isLock wn_X6 wc_X6_isLock yd_X6_isLock ⟨Nat.le_of_ble_eq_true rfl, Nat.le_of_ble_eq_true rfl⟩ hP hD p1 (ci := 6) rfl rfl rfl rfl rfl hl.1 rfl (lv_room (Nat.le_of_ble_eq_true rfl)) dX6_near_2 ⟨Nat.zero_le _, Nat.zero_le _⟩) hP hD hS p1 (fun r_1 _ w H locs h hw hP hD hS => ?_)
  subst hw
  clear p1
  have p2 := gB (n := 1) (bs := [bModel E a0 M0]) (bc := [bModel E a0 M0]) (br := []) [0] rfl rfl (by decide)
  have hP := gP_perm p2.symm hP
  have hD := gD_perm p2.symm hD
  clear p2
  refine lv_if_eq (tgt := 20) hx hb dX6_near_5 (by decide) (fun c_2 => ?_) (fun c_2 => ?_)
  · have h := h.1 c_2
    refine lv_iconst (v := (-1)) hx hb dX6_near_20 (by decide) ?_
    exact hret (-1) () _ _ _ _ _ h rfl hP hD hS dX6_near_21
  · have h := h.2 c_2
    refine lv_iload_n hx hb dX6_near_8 rfl (lv_at hl 2 rfl) ?_
    refine lv_i2l (v := x2.toInt64) hx hb dX6_near_9 rfl ?_
    refine lv_lconst (v := 0) hx hb dX6_near_10 (by decide) ?_
    refine lv_ldc2 hx hb hown (ht _ wk_X6_186) dX6_near_11 ?_
    have p1 := gB (n := 1) (bs := [bModel E a0 M0]) (bc := []) (br := [bModel E a0 M0]) [0] rfl rfl (by decide)
    refine g_i (g_runS (As := [.long (x2.toInt64), .long 0, .long 15]) (rest := []) ⟨hx, hb, hml, hown, ht⟩ hE (c_X6_in E l (x2.toInt64) 0 15 _ h) ⟨rfl, rfl⟩ wk_X6_55 wt_X6_in wn_X6 wc_X6_in yd_X6_in ⟨Nat.le_of_ble_eq_true rfl, Nat.le_of_ble_eq_true rfl⟩ hP hD p1 rfl rfl hl.1 rfl (lv_room (Nat.le_of_ble_eq_true rfl)) dX6_near_14 ⟨Nat.zero_le _, Nat.zero_le _⟩) hP hD hS p1 (fun r_3 _ w H locs h hw hP hD hS => ?_)
    subst hw
    clear p1
    have p2 := gB (n := 1) (bs := [bModel E a0 M0]) (bc := []) (br := [bModel E a0 M0]) [0] rfl rfl (by decide)
    have hP := gP_perm p2.symm hP
    have hD := gD_perm p2.symm hD
    clear p2
    refine lv_if_ne (tgt := 22) hx hb dX6_near_17 (by decide) (fun c_4 => ?_) (fun c_4 => ?_)
    · have h := h.1 c_4
      refine lv_iconst (v := 0) hx hb dX6_near_22 (by decide) ?_
      refine lv_istore_n (lv' := [(3, .int 0), (0, .ref (a0 99)), (1, .int x1), (2, .int x2)]) hx hb dX6_near_23 rfl hl (by decide) rfl (fun ls hl => ?_)
      refine lv_iconst (v := 0) hx hb dX6_near_24 (by decide) ?_
      refine lv_istore (lv' := [(4, .int 0), (3, .int 0), (0, .ref (a0 99)), (1, .int x1), (2, .int x2)]) hx hb dX6_near_25 hl (by decide) rfl (fun ls hl => ?_)
      have L27 : ∀ (n27 : Nat) (x3_27 : Int32) (x4_27 : Int32) (H : Heap) (locs : List Loc) (ls : Array Slot), wp_X6_near_L27 post x1 x2 M0 n27 x3_27 x4_27 → gP E (gW [bModel E a0 M0]) H → va_D A (gW [bModel E a0 M0]) → va_S A s.heap H locs → lv_has ls 5 [(0, .ref (a0 99)), (1, .int x1), (2, .int x2), (3, .int x3_27), (4, .int x4_27)] → W p l e { frames := 2, cells := 0, slots := 0, locals := 46 } s m ([.ref (a0 99), .int x1, .int x2] : List Value).toArray below meth c H locs 0 0 Q (F0 m 27 ls []) := by
        intro n27
        induction n27 with
        | zero => intro x3_27 x4_27 H locs ls h; exact h.elim
        | succ n27 ih27 =>
          intro x3_27 x4_27 H locs ls h hP hD hS hl
          rw [wp_X6_near_L27] at h
          refine lv_iload hx hb dX6_near_27 (lv_at hl 4 rfl) ?_
          refine lv_sipush (v := 1000) hx hb dX6_near_29 (by decide) ?_
          refine lv_icmp_ge (tgt := 67) hx hb dX6_near_32 (by decide) (fun c_8 => ?_) (fun c_8 => ?_)
          · have h := h.1 c_8
            refine lv_iload_n hx hb dX6_near_67 rfl (lv_at hl 3 rfl) ?_
            exact hret x3_27 () _ _ _ _ _ h rfl hP hD hS dX6_near_68
          · have h := h.2 c_8
            refine lv_iload_n hx hb dX6_near_35 rfl (lv_at hl 3 rfl) ?_
            refine lv_iload hx hb dX6_near_36 (lv_at hl 4 rfl) ?_
            refine lv_aload_n hx hb dX6_near_38 rfl (lv_at hl 0 rfl) ?_
            refine va_get (D := (E.1, E.2.1)) (ci := 6) (v := .ref (a0 7)) (C := RX6) (T := TX6) (N := 26) hx hb ht wu_X6 hown hK hP 0 rfl rfl 7 (by decide) (ht _ wk_X6_23) (fun _ h9 => h9) rfl dX6_near_39 ?_
            refine lv_bipush (v := 18) hx hb dX6_near_42 (by decide) ?_
            refine lv_iload_n hx hb dX6_near_44 rfl (lv_at hl 1 rfl) ?_
            refine lv_iadd hx hb dX6_near_45 ?_
            refine va_iald hx hb hK hP 4 0 rfl rfl h.1 dX6_near_46 ?_
            have h := h.2
            have p1 := gB (n := 1) (bs := [bModel E a0 M0]) (bc := []) (br := [bModel E a0 M0]) [0] rfl rfl (by decide)
            refine g_i (g_runS (As := [.int x4_27, .int (M0.1.2 7 (18 + x1).toNatClampNeg)]) (rest := [.int x3_27]) ⟨hx, hb, hml, hown, ht⟩ hE (c_X6_stepsOf E l x4_27 (M0.1.2 7 (18 + x1).toNatClampNeg) _ h) ⟨rfl, rfl⟩ wk_X6_155 wt_X6_stepsOf wn_X6 wc_X6_stepsOf yd_X6_stepsOf ⟨Nat.le_of_ble_eq_true rfl, Nat.le_of_ble_eq_true rfl⟩ hP hD p1 rfl rfl hl.1 rfl (lv_room (Nat.le_of_ble_eq_true rfl)) dX6_near_47 ⟨Nat.zero_le _, Nat.zero_le _⟩) hP hD hS p1 (fun r_9 _ w H locs h hw hP hD hS => ?_)
            subst hw
            clear p1
            have p2 := gB (n := 1) (bs := [bModel E a0 M0]) (bc := []) (br := [bModel E a0 M0]) [0] rfl rfl (by decide)
            have hP := gP_perm p2.symm hP
            have hD := gD_perm p2.symm hD
            clear p2
            refine lv_iload_n hx hb dX6_near_50 rfl (lv_at hl 2 rfl) ?_
            refine lv_icmp_gt (tgt := 58) hx hb dX6_near_51 (by decide) (fun c_10 => ?_) (fun c_10 => ?_)
            · have h := h.1 c_10
              refine lv_iconst (v := 0) hx hb dX6_near_58 (by decide) ?_
              refine lv_iadd hx hb dX6_near_59 ?_
              refine lv_istore_n (lv' := [(3, .int (x3_27 + 0)), (0, .ref (a0 99)), (1, .int x1), (2, .int x2), (4, .int x4_27)]) hx hb dX6_near_60 rfl hl (by decide) rfl (fun ls hl => ?_)
              refine lv_iinc (v := (x4_27 + 1)) (lv' := [(4, .int (x4_27 + 1)), (3, .int (x3_27 + 0)), (0, .ref (a0 99)), (1, .int x1), (2, .int x2)]) hx hb dX6_near_61 hl (k := 4) rfl rfl (by decide) rfl (fun ls hl => ?_)
              refine lv_goto (tgt := 27) hx hb dX6_near_64 (by decide) ?_
              exact ih27 (x3_27 + 0) (x4_27 + 1) _ _ _ h hP hD hS (lv_sub hl [2, 3, 4, 1, 0] rfl)
            · have h := h.2 c_10
              refine lv_iconst (v := 1) hx hb dX6_near_54 (by decide) ?_
              refine lv_goto (tgt := 59) hx hb dX6_near_55 (by decide) ?_
              refine lv_iadd hx hb dX6_near_59 ?_
              refine lv_istore_n (lv' := [(3, .int (x3_27 + 1)), (0, .ref (a0 99)), (1, .int x1), (2, .int x2), (4, .int x4_27)]) hx hb dX6_near_60 rfl hl (by decide) rfl (fun ls hl => ?_)
              refine lv_iinc (v := (x4_27 + 1)) (lv' := [(4, .int (x4_27 + 1)), (3, .int (x3_27 + 1)), (0, .ref (a0 99)), (1, .int x1), (2, .int x2)]) hx hb dX6_near_61 hl (k := 4) rfl rfl (by decide) rfl (fun ls hl => ?_)
              refine lv_goto (tgt := 27) hx hb dX6_near_64 (by decide) ?_
              exact ih27 (x3_27 + 1) (x4_27 + 1) _ _ _ h hP hD hS (lv_sub hl [2, 3, 4, 1, 0] rfl)
      obtain ⟨n27, h⟩ := h
      exact L27 n27 0 0 _ _ _ h hP hD hS (lv_sub hl [2, 3, 4, 1, 0] rfl)
    · have h := h.2 c_4
      refine lv_iconst (v := (-1)) hx hb dX6_near_20 (by decide) ?_
      exact hret (-1) () _ _ _ _ _ h rfl hP hD hS dX6_near_21
theorem dX6_odds_0 : decode cX6_odds 0 = .ok (.iload_n 1, 1) := by decide +kernel
theorem dX6_odds_1 : decode cX6_odds 1 = .ok (.i2l, 1) := by decide +kernel
theorem dX6_odds_2 : decode cX6_odds 2 = .ok (.lconst 0, 1) := by decide +kernel
theorem dX6_odds_3 : decode cX6_odds 3 = .ok (.ldc2_w 188, 3) := by decide +kernel
theorem dX6_odds_6 : decode cX6_odds 6 = .ok (.invokestatic 55, 3) := by decide +kernel
theorem dX6_odds_9 : decode cX6_odds 9 = .ok (.ifCond .eq 13, 3) := by decide +kernel
theorem dX6_odds_12 : decode cX6_odds 12 = .ok (.iload_n 2, 1) := by decide +kernel
theorem dX6_odds_13 : decode cX6_odds 13 = .ok (.i2l, 1) := by decide +kernel
theorem dX6_odds_14 : decode cX6_odds 14 = .ok (.lconst 0, 1) := by decide +kernel
theorem dX6_odds_15 : decode cX6_odds 15 = .ok (.lconst 1, 1) := by decide +kernel
theorem dX6_odds_16 : decode cX6_odds 16 = .ok (.invokestatic 55, 3) := by decide +kernel
theorem dX6_odds_19 : decode cX6_odds 19 = .ok (.ifCond .ne 5, 3) := by decide +kernel
theorem dX6_odds_22 : decode cX6_odds 22 = .ok (.iconst (-1), 1) := by decide +kernel
theorem dX6_odds_23 : decode cX6_odds 23 = .ok (.ireturn, 1) := by decide +kernel
theorem dX6_odds_24 : decode cX6_odds 24 = .ok (.iconst 1, 1) := by decide +kernel
theorem dX6_odds_25 : decode cX6_odds 25 = .ok (.istore_n 3, 1) := by decide +kernel
theorem dX6_odds_26 : decode cX6_odds 26 = .ok (.iconst 1, 1) := by decide +kernel
theorem dX6_odds_27 : decode cX6_odds 27 = .ok (.istore 4, 2) := by decide +kernel
theorem dX6_odds_29 : decode cX6_odds 29 = .ok (.aload_n 0, 1) := by decide +kernel
theorem dX6_odds_30 : decode cX6_odds 30 = .ok (.aload_n 0, 1) := by decide +kernel
theorem dX6_odds_31 : decode cX6_odds 31 = .ok (.invokevirtual 135, 3) := by decide +kernel
theorem dX6_odds_34 : decode cX6_odds 34 = .ok (.invokevirtual 139, 3) := by decide +kernel
theorem dX6_odds_37 : decode cX6_odds 37 = .ok (.invokestatic 169, 3) := by decide +kernel
theorem dX6_odds_40 : decode cX6_odds 40 = .ok (.istore 5, 2) := by decide +kernel
theorem dX6_odds_42 : decode cX6_odds 42 = .ok (.iload 5, 2) := by decide +kernel
theorem dX6_odds_44 : decode cX6_odds 44 = .ok (.ifCond .le 20, 3) := by decide +kernel
theorem dX6_odds_47 : decode cX6_odds 47 = .ok (.iload_n 3, 1) := by decide +kernel
theorem dX6_odds_48 : decode cX6_odds 48 = .ok (.iload_n 1, 1) := by decide +kernel
theorem dX6_odds_49 : decode cX6_odds 49 = .ok (.imul, 1) := by decide +kernel
theorem dX6_odds_50 : decode cX6_odds 50 = .ok (.istore_n 3, 1) := by decide +kernel
theorem dX6_odds_51 : decode cX6_odds 51 = .ok (.iload 4, 2) := by decide +kernel
theorem dX6_odds_53 : decode cX6_odds 53 = .ok (.bipush 10, 2) := by decide +kernel
theorem dX6_odds_55 : decode cX6_odds 55 = .ok (.imul, 1) := by decide +kernel
theorem dX6_odds_56 : decode cX6_odds 56 = .ok (.istore 4, 2) := by decide +kernel
theorem dX6_odds_58 : decode cX6_odds 58 = .ok (.iinc 5 (-1), 3) := by decide +kernel
theorem dX6_odds_61 : decode cX6_odds 61 = .ok (.goto (-19), 3) := by decide +kernel
theorem dX6_odds_64 : decode cX6_odds 64 = .ok (.iload 4, 2) := by decide +kernel
theorem dX6_odds_66 : decode cX6_odds 66 = .ok (.iload_n 3, 1) := by decide +kernel
theorem dX6_odds_67 : decode cX6_odds 67 = .ok (.isub, 1) := by decide +kernel
theorem dX6_odds_68 : decode cX6_odds 68 = .ok (.istore 5, 2) := by decide +kernel
theorem dX6_odds_70 : decode cX6_odds 70 = .ok (.iload 5, 2) := by decide +kernel
theorem dX6_odds_72 : decode cX6_odds 72 = .ok (.istore 6, 2) := by decide +kernel
theorem dX6_odds_74 : decode cX6_odds 74 = .ok (.iload 4, 2) := by decide +kernel
theorem dX6_odds_76 : decode cX6_odds 76 = .ok (.istore 7, 2) := by decide +kernel
theorem dX6_odds_78 : decode cX6_odds 78 = .ok (.iload 7, 2) := by decide +kernel
theorem dX6_odds_80 : decode cX6_odds 80 = .ok (.ifCond .eq 21, 3) := by decide +kernel
theorem dX6_odds_83 : decode cX6_odds 83 = .ok (.iload 6, 2) := by decide +kernel
theorem dX6_odds_85 : decode cX6_odds 85 = .ok (.iload 7, 2) := by decide +kernel
theorem dX6_odds_87 : decode cX6_odds 87 = .ok (.irem, 1) := by decide +kernel
theorem dX6_odds_88 : decode cX6_odds 88 = .ok (.istore 8, 2) := by decide +kernel
theorem dX6_odds_90 : decode cX6_odds 90 = .ok (.iload 7, 2) := by decide +kernel
theorem dX6_odds_92 : decode cX6_odds 92 = .ok (.istore 6, 2) := by decide +kernel
theorem dX6_odds_94 : decode cX6_odds 94 = .ok (.iload 8, 2) := by decide +kernel
theorem dX6_odds_96 : decode cX6_odds 96 = .ok (.istore 7, 2) := by decide +kernel
theorem dX6_odds_98 : decode cX6_odds 98 = .ok (.goto (-20), 3) := by decide +kernel
theorem dX6_odds_101 : decode cX6_odds 101 = .ok (.iload_n 2, 1) := by decide +kernel
theorem dX6_odds_102 : decode cX6_odds 102 = .ok (.ifCond .ne 11, 3) := by decide +kernel
theorem dX6_odds_105 : decode cX6_odds 105 = .ok (.iload 5, 2) := by decide +kernel
theorem dX6_odds_107 : decode cX6_odds 107 = .ok (.iload 6, 2) := by decide +kernel
theorem dX6_odds_109 : decode cX6_odds 109 = .ok (.idiv, 1) := by decide +kernel
theorem dX6_odds_110 : decode cX6_odds 110 = .ok (.goto 8, 3) := by decide +kernel
theorem dX6_odds_113 : decode cX6_odds 113 = .ok (.iload 4, 2) := by decide +kernel
theorem dX6_odds_115 : decode cX6_odds 115 = .ok (.iload 6, 2) := by decide +kernel
theorem dX6_odds_117 : decode cX6_odds 117 = .ok (.idiv, 1) := by decide +kernel
theorem dX6_odds_118 : decode cX6_odds 118 = .ok (.ireturn, 1) := by decide +kernel
set_option maxHeartbeats 4000000 in
set_option maxRecDepth 100000 in
theorem c_X6_odds (E : GE) (l : Launch) (a0 : Nat → Nat) (M0 : Mo) (x1 : Int32) (x2 : Int32) (post : Int32 → Prop) (h : wp_X6_odds M0 x1 x2 post) : Met l yX6_odds (wz yX6_odds cX6_odds 9 (some .int)) { frames := 1, cells := 0, slots := 0, locals := 25 } (gPc E [.ref (a0 99), .int x1, .int x2] (gW [bModel E a0 M0])) (gQi E (gW [bModel E a0 M0]) (fun r (_ : Unit) => post r) (fun (_ : Unit) w => w = gW [bModel E a0 M0])) 0 0 (gIn (gW [bModel E a0 M0])) := by
  unfold wp_X6_odds at h
  refine g_of_i (by decide) (Nat.le_of_ble_eq_true rfl) ?_
  intro p e s m below meth c A Q hx hb hml hown ht hE hP hD hret ls hl
  have hK := hE.1
  have hS : va_S A s.heap s.heap [] := va_S.rf
  have hl : lv_has ls 9 [(0, .ref (a0 99)), (1, .int x1), (2, .int x2)] := hl
  refine lv_iload_n hx hb dX6_odds_0 rfl (lv_at hl 1 rfl) ?_
  refine lv_i2l (v := x1.toInt64) hx hb dX6_odds_1 rfl ?_
  refine lv_lconst (v := 0) hx hb dX6_odds_2 (by decide) ?_
  refine lv_ldc2 hx hb hown (ht _ wk_X6_188) dX6_odds_3 ?_
  have p1 := gB (n := 1) (bs := [bModel E a0 M0]) (bc := []) (br := [bModel E a0 M0]) [0] rfl rfl (by decide)
  refine g_i (g_runS (As := [.long (x1.toInt64), .long 0, .long 10]) (rest := []) ⟨hx, hb, hml, hown, ht⟩ hE (c_X6_in E l (x1.toInt64) 0 10 _ h) ⟨rfl, rfl⟩ wk_X6_55 wt_X6_in wn_X6 wc_X6_in yd_X6_in ⟨Nat.le_of_ble_eq_true rfl, Nat.le_of_ble_eq_true rfl⟩ hP hD p1 rfl rfl hl.1 rfl (lv_room (Nat.le_of_ble_eq_true rfl)) dX6_odds_6 ⟨Nat.zero_le _, Nat.zero_le _⟩) hP hD hS p1 (fun r_1 _ w H locs h hw hP hD hS => ?_)
  subst hw
  clear p1
  have p2 := gB (n := 1) (bs := [bModel E a0 M0]) (bc := []) (br := [bModel E a0 M0]) [0] rfl rfl (by decide)
  have hP := gP_perm p2.symm hP
  have hD := gD_perm p2.symm hD
  clear p2
  refine lv_if_eq (tgt := 22) hx hb dX6_odds_9 (by decide) (fun c_2 => ?_) (fun c_2 => ?_)
  · have h := h.1 c_2
    refine lv_iconst (v := (-1)) hx hb dX6_odds_22 (by decide) ?_
    exact hret (-1) () _ _ _ _ _ h rfl hP hD hS dX6_odds_23
  · have h := h.2 c_2
    refine lv_iload_n hx hb dX6_odds_12 rfl (lv_at hl 2 rfl) ?_
    refine lv_i2l (v := x2.toInt64) hx hb dX6_odds_13 rfl ?_
    refine lv_lconst (v := 0) hx hb dX6_odds_14 (by decide) ?_
    refine lv_lconst (v := 1) hx hb dX6_odds_15 (by decide) ?_
    have p1 := gB (n := 1) (bs := [bModel E a0 M0]) (bc := []) (br := [bModel E a0 M0]) [0] rfl rfl (by decide)
    refine g_i (g_runS (As := [.long (x2.toInt64), .long 0, .long 1]) (rest := []) ⟨hx, hb, hml, hown, ht⟩ hE (c_X6_in E l (x2.toInt64) 0 1 _ h) ⟨rfl, rfl⟩ wk_X6_55 wt_X6_in wn_X6 wc_X6_in yd_X6_in ⟨Nat.le_of_ble_eq_true rfl, Nat.le_of_ble_eq_true rfl⟩ hP hD p1 rfl rfl hl.1 rfl (lv_room (Nat.le_of_ble_eq_true rfl)) dX6_odds_16 ⟨Nat.zero_le _, Nat.zero_le _⟩) hP hD hS p1 (fun r_3 _ w H locs h hw hP hD hS => ?_)
    subst hw
    clear p1
    have p2 := gB (n := 1) (bs := [bModel E a0 M0]) (bc := []) (br := [bModel E a0 M0]) [0] rfl rfl (by decide)
    have hP := gP_perm p2.symm hP
    have hD := gD_perm p2.symm hD
    clear p2
    refine lv_if_ne (tgt := 24) hx hb dX6_odds_19 (by decide) (fun c_4 => ?_) (fun c_4 => ?_)
    · have h := h.1 c_4
      refine lv_iconst (v := 1) hx hb dX6_odds_24 (by decide) ?_
      refine lv_istore_n (lv' := [(3, .int 1), (0, .ref (a0 99)), (1, .int x1), (2, .int x2)]) hx hb dX6_odds_25 rfl hl (by decide) rfl (fun ls hl => ?_)
      refine lv_iconst (v := 1) hx hb dX6_odds_26 (by decide) ?_
      refine lv_istore (lv' := [(4, .int 1), (3, .int 1), (0, .ref (a0 99)), (1, .int x1), (2, .int x2)]) hx hb dX6_odds_27 hl (by decide) rfl (fun ls hl => ?_)
      refine lv_aload_n hx hb dX6_odds_29 rfl (lv_at hl 2 rfl) ?_
      refine lv_aload_n hx hb dX6_odds_30 rfl (lv_at hl 2 rfl) ?_
      have p1 := gB (n := 1) (bs := [bModel E a0 M0]) (bc := [bModel E a0 M0]) (br := []) [0] rfl rfl (by decide)
      refine g_i (g_runV (As := []) (rest := [.ref (a0 99)]) ⟨hx, hb, hml, hown, ht⟩ hE (c_X6_ring E l a0 M0 _ h) ⟨rfl, rfl⟩ wk_X6_135 wi_X6_ring ws_X6_ring wn_X6 wc_X6_ring yd_X6_ring ⟨Nat.le_of_ble_eq_true rfl, Nat.le_of_ble_eq_true rfl⟩ hP hD p1 (ci := 6) rfl rfl rfl rfl rfl hl.1 rfl (lv_room (Nat.le_of_ble_eq_true rfl)) dX6_odds_31 ⟨Nat.zero_le _, Nat.zero_le _⟩) hP hD hS p1 (fun r_5 _ w H locs h hw hP hD hS => ?_)
      subst hw
      clear p1
      have p2 := gB (n := 1) (bs := [bModel E a0 M0]) (bc := [bModel E a0 M0]) (br := []) [0] rfl rfl (by decide)
      have hP := gP_perm p2.symm hP
      have hD := gD_perm p2.symm hD
      clear p2
      have p1 := gB (n := 1) (bs := [bModel E a0 M0]) (bc := [bModel E a0 M0]) (br := []) [0] rfl rfl (by decide)
      refine g_i (g_runV (As := [.int r_5]) (rest := []) ⟨hx, hb, hml, hown, ht⟩ hE (c_X6_getsIn E l a0 M0 r_5 _ h) ⟨rfl, rfl⟩ wk_X6_139 wi_X6_getsIn ws_X6_getsIn wn_X6 wc_X6_getsIn yd_X6_getsIn ⟨Nat.le_of_ble_eq_true rfl, Nat.le_of_ble_eq_true rfl⟩ hP hD p1 (ci := 6) rfl rfl rfl rfl rfl hl.1 rfl (lv_room (Nat.le_of_ble_eq_true rfl)) dX6_odds_34 ⟨Nat.zero_le _, Nat.zero_le _⟩) hP hD hS p1 (fun r_6 _ w H locs h hw hP hD hS => ?_)
      subst hw
      clear p1
      have p2 := gB (n := 1) (bs := [bModel E a0 M0]) (bc := [bModel E a0 M0]) (br := []) [0] rfl rfl (by decide)
      have hP := gP_perm p2.symm hP
      have hD := gD_perm p2.symm hD
      clear p2
      have p1 := gB (n := 1) (bs := [bModel E a0 M0]) (bc := []) (br := [bModel E a0 M0]) [0] rfl rfl (by decide)
      refine g_i (g_runS (As := [.int r_6]) (rest := []) ⟨hx, hb, hml, hown, ht⟩ hE (c_X6_ones E l r_6 _ h) ⟨rfl, rfl⟩ wk_X6_169 wt_X6_ones wn_X6 wc_X6_ones yd_X6_ones ⟨Nat.le_of_ble_eq_true rfl, Nat.le_of_ble_eq_true rfl⟩ hP hD p1 rfl rfl hl.1 rfl (lv_room (Nat.le_of_ble_eq_true rfl)) dX6_odds_37 ⟨Nat.zero_le _, Nat.zero_le _⟩) hP hD hS p1 (fun r_7 _ w H locs h hw hP hD hS => ?_)
      subst hw
      clear p1
      have p2 := gB (n := 1) (bs := [bModel E a0 M0]) (bc := []) (br := [bModel E a0 M0]) [0] rfl rfl (by decide)
      have hP := gP_perm p2.symm hP
      have hD := gD_perm p2.symm hD
      clear p2
      refine lv_istore (lv' := [(5, .int r_7), (4, .int 1), (3, .int 1), (0, .ref (a0 99)), (1, .int x1), (2, .int x2)]) hx hb dX6_odds_40 hl (by decide) rfl (fun ls hl => ?_)
      have L42 : ∀ (n42 : Nat) (x3_42 : Int32) (x4_42 : Int32) (x5_42 : Int32) (H : Heap) (locs : List Loc) (ls : Array Slot), wp_X6_odds_L42 post x1 x2 M0 n42 x3_42 x4_42 x5_42 → gP E (gW [bModel E a0 M0]) H → va_D A (gW [bModel E a0 M0]) → va_S A s.heap H locs → lv_has ls 9 [(0, .ref (a0 99)), (1, .int x1), (2, .int x2), (3, .int x3_42), (4, .int x4_42), (5, .int x5_42)] → W p l e { frames := 1, cells := 0, slots := 0, locals := 25 } s m ([.ref (a0 99), .int x1, .int x2] : List Value).toArray below meth c H locs 0 0 Q (F0 m 42 ls []) := by
        intro n42
        induction n42 with
        | zero => intro x3_42 x4_42 x5_42 H locs ls h; exact h.elim
        | succ n42 ih42 =>
          intro x3_42 x4_42 x5_42 H locs ls h hP hD hS hl
          rw [wp_X6_odds_L42] at h
          refine lv_iload hx hb dX6_odds_42 (lv_at hl 5 rfl) ?_
          refine lv_if_le (tgt := 64) hx hb dX6_odds_44 (by decide) (fun c_14 => ?_) (fun c_14 => ?_)
          · have h := h.1 c_14
            refine lv_iload hx hb dX6_odds_64 (lv_at hl 4 rfl) ?_
            refine lv_iload_n hx hb dX6_odds_66 rfl (lv_at hl 3 rfl) ?_
            refine lv_isub hx hb dX6_odds_67 ?_
            refine lv_istore (lv' := [(5, .int (x4_42 - x3_42)), (0, .ref (a0 99)), (1, .int x1), (2, .int x2), (3, .int x3_42), (4, .int x4_42)]) hx hb dX6_odds_68 hl (by decide) rfl (fun ls hl => ?_)
            refine lv_iload hx hb dX6_odds_70 (lv_at hl 0 rfl) ?_
            refine lv_istore (lv' := [(6, .int (x4_42 - x3_42)), (5, .int (x4_42 - x3_42)), (0, .ref (a0 99)), (1, .int x1), (2, .int x2), (3, .int x3_42), (4, .int x4_42)]) hx hb dX6_odds_72 hl (by decide) rfl (fun ls hl => ?_)
            refine lv_iload hx hb dX6_odds_74 (lv_at hl 6 rfl) ?_
            refine lv_istore (lv' := [(7, .int x4_42), (6, .int (x4_42 - x3_42)), (5, .int (x4_42 - x3_42)), (0, .ref (a0 99)), (1, .int x1), (2, .int x2), (3, .int x3_42), (4, .int x4_42)]) hx hb dX6_odds_76 hl (by decide) rfl (fun ls hl => ?_)
            obtain ⟨y_15, ey_15⟩ : ∃ z : Int32, z = (x4_42 - x3_42) := ⟨_, rfl⟩
            have h := h y_15 ey_15
            rw [← ey_15] at hl
            have L78 : ∀ (n78 : Nat) (x6_78 : Int32) (x7_78 : Int32) (H : Heap) (locs : List Loc) (ls : Array Slot), wp_X6_odds_L78 post x1 x2 x3_42 x4_42 y_15 M0 n78 x6_78 x7_78 → gP E (gW [bModel E a0 M0]) H → va_D A (gW [bModel E a0 M0]) → va_S A s.heap H locs → lv_has ls 9 [(0, .ref (a0 99)), (1, .int x1), (2, .int x2), (3, .int x3_42), (4, .int x4_42), (5, .int y_15), (6, .int x6_78), (7, .int x7_78)] → W p l e { frames := 1, cells := 0, slots := 0, locals := 25 } s m ([.ref (a0 99), .int x1, .int x2] : List Value).toArray below meth c H locs 0 0 Q (F0 m 78 ls []) := by
              intro n78
              induction n78 with
              | zero => intro x6_78 x7_78 H locs ls h; exact h.elim
              | succ n78 ih78 =>
                intro x6_78 x7_78 H locs ls h hP hD hS hl
                rw [wp_X6_odds_L78] at h
                refine lv_iload hx hb dX6_odds_78 (lv_at hl 7 rfl) ?_
                refine lv_if_eq (tgt := 101) hx hb dX6_odds_80 (by decide) (fun c_16 => ?_) (fun c_16 => ?_)
                · have h := h.1 c_16
                  refine lv_iload_n hx hb dX6_odds_101 rfl (lv_at hl 2 rfl) ?_
                  refine lv_if_ne (tgt := 113) hx hb dX6_odds_102 (by decide) (fun c_17 => ?_) (fun c_17 => ?_)
                  · have h := h.1 c_17
                    refine lv_iload hx hb dX6_odds_113 (lv_at hl 4 rfl) ?_
                    refine lv_iload hx hb dX6_odds_115 (lv_at hl 6 rfl) ?_
                    refine lv_idiv hx hb dX6_odds_117 h.1 ?_
                    have h := h.2
                    exact hret (x4_42 / x6_78) () _ _ _ _ _ h rfl hP hD hS dX6_odds_118
                  · have h := h.2 c_17
                    refine lv_iload hx hb dX6_odds_105 (lv_at hl 5 rfl) ?_
                    refine lv_iload hx hb dX6_odds_107 (lv_at hl 6 rfl) ?_
                    refine lv_idiv hx hb dX6_odds_109 h.1 ?_
                    have h := h.2
                    refine lv_goto (tgt := 118) hx hb dX6_odds_110 (by decide) ?_
                    exact hret (y_15 / x6_78) () _ _ _ _ _ h rfl hP hD hS dX6_odds_118
                · have h := h.2 c_16
                  refine lv_iload hx hb dX6_odds_83 (lv_at hl 6 rfl) ?_
                  refine lv_iload hx hb dX6_odds_85 (lv_at hl 7 rfl) ?_
                  refine lv_irem hx hb dX6_odds_87 h.1 ?_
                  have h := h.2
                  refine lv_istore (lv' := [(8, .int (x6_78 - x6_78 / x7_78 * x7_78)), (0, .ref (a0 99)), (1, .int x1), (2, .int x2), (3, .int x3_42), (4, .int x4_42), (5, .int y_15), (6, .int x6_78), (7, .int x7_78)]) hx hb dX6_odds_88 hl (by decide) rfl (fun ls hl => ?_)
                  refine lv_iload hx hb dX6_odds_90 (lv_at hl 8 rfl) ?_
                  refine lv_istore (lv' := [(6, .int x7_78), (8, .int (x6_78 - x6_78 / x7_78 * x7_78)), (0, .ref (a0 99)), (1, .int x1), (2, .int x2), (3, .int x3_42), (4, .int x4_42), (5, .int y_15), (7, .int x7_78)]) hx hb dX6_odds_92 hl (by decide) rfl (fun ls hl => ?_)
                  refine lv_iload hx hb dX6_odds_94 (lv_at hl 1 rfl) ?_
                  refine lv_istore (lv' := [(7, .int (x6_78 - x6_78 / x7_78 * x7_78)), (6, .int x7_78), (8, .int (x6_78 - x6_78 / x7_78 * x7_78)), (0, .ref (a0 99)), (1, .int x1), (2, .int x2), (3, .int x3_42), (4, .int x4_42), (5, .int y_15)]) hx hb dX6_odds_96 hl (by decide) rfl (fun ls hl => ?_)
                  refine lv_goto (tgt := 78) hx hb dX6_odds_98 (by decide) ?_
                  exact ih78 x7_78 (x6_78 - x6_78 / x7_78 * x7_78) _ _ _ h hP hD hS (lv_sub hl [3, 4, 5, 6, 7, 8, 1, 0] rfl)
            obtain ⟨n78, h⟩ := h
            exact L78 n78 y_15 x4_42 _ _ _ h hP hD hS (lv_sub hl [3, 4, 5, 6, 7, 2, 1, 0] rfl)
          · have h := h.2 c_14
            refine lv_iload_n hx hb dX6_odds_47 rfl (lv_at hl 3 rfl) ?_
            refine lv_iload_n hx hb dX6_odds_48 rfl (lv_at hl 1 rfl) ?_
            refine lv_imul hx hb dX6_odds_49 ?_
            refine lv_istore_n (lv' := [(3, .int (x3_42 * x1)), (0, .ref (a0 99)), (1, .int x1), (2, .int x2), (4, .int x4_42), (5, .int x5_42)]) hx hb dX6_odds_50 rfl hl (by decide) rfl (fun ls hl => ?_)
            refine lv_iload hx hb dX6_odds_51 (lv_at hl 4 rfl) ?_
            refine lv_bipush (v := 10) hx hb dX6_odds_53 (by decide) ?_
            refine lv_imul hx hb dX6_odds_55 ?_
            refine lv_istore (lv' := [(4, .int (x4_42 * 10)), (3, .int (x3_42 * x1)), (0, .ref (a0 99)), (1, .int x1), (2, .int x2), (5, .int x5_42)]) hx hb dX6_odds_56 hl (by decide) rfl (fun ls hl => ?_)
            refine lv_iinc (v := (x5_42 + (-1))) (lv' := [(5, .int (x5_42 + (-1))), (4, .int (x4_42 * 10)), (3, .int (x3_42 * x1)), (0, .ref (a0 99)), (1, .int x1), (2, .int x2)]) hx hb dX6_odds_58 hl (k := 5) rfl rfl (by decide) rfl (fun ls hl => ?_)
            refine lv_goto (tgt := 42) hx hb dX6_odds_61 (by decide) ?_
            exact ih42 (x3_42 * x1) (x4_42 * 10) (x5_42 + (-1)) _ _ _ h hP hD hS (lv_sub hl [3, 4, 5, 2, 1, 0] rfl)
      obtain ⟨n42, h⟩ := h
      exact L42 n42 1 1 r_7 _ _ _ h hP hD hS (lv_sub hl [3, 4, 5, 2, 1, 0] rfl)
    · have h := h.2 c_4
      refine lv_iconst (v := (-1)) hx hb dX6_odds_22 (by decide) ?_
      exact hret (-1) () _ _ _ _ _ h rfl hP hD hS dX6_odds_23
theorem dX6_hears_0 : decode cX6_hears 0 = .ok (.iload_n 1, 1) := by decide +kernel
theorem dX6_hears_1 : decode cX6_hears 1 = .ok (.i2l, 1) := by decide +kernel
theorem dX6_hears_2 : decode cX6_hears 2 = .ok (.lconst 0, 1) := by decide +kernel
theorem dX6_hears_3 : decode cX6_hears 3 = .ok (.ldc2_w 167, 3) := by decide +kernel
theorem dX6_hears_6 : decode cX6_hears 6 = .ok (.invokestatic 55, 3) := by decide +kernel
theorem dX6_hears_9 : decode cX6_hears 9 = .ok (.ifCond .eq 15, 3) := by decide +kernel
theorem dX6_hears_12 : decode cX6_hears 12 = .ok (.iload_n 2, 1) := by decide +kernel
theorem dX6_hears_13 : decode cX6_hears 13 = .ok (.i2l, 1) := by decide +kernel
theorem dX6_hears_14 : decode cX6_hears 14 = .ok (.lconst 0, 1) := by decide +kernel
theorem dX6_hears_15 : decode cX6_hears 15 = .ok (.ldc2_w 190, 3) := by decide +kernel
theorem dX6_hears_18 : decode cX6_hears 18 = .ok (.invokestatic 55, 3) := by decide +kernel
theorem dX6_hears_21 : decode cX6_hears 21 = .ok (.ifCond .ne 5, 3) := by decide +kernel
theorem dX6_hears_24 : decode cX6_hears 24 = .ok (.iconst (-1), 1) := by decide +kernel
theorem dX6_hears_25 : decode cX6_hears 25 = .ok (.ireturn, 1) := by decide +kernel
theorem dX6_hears_26 : decode cX6_hears 26 = .ok (.aload_n 0, 1) := by decide +kernel
theorem dX6_hears_27 : decode cX6_hears 27 = .ok (.getfield 118, 3) := by decide +kernel
theorem dX6_hears_30 : decode cX6_hears 30 = .ok (.iconst 4, 1) := by decide +kernel
theorem dX6_hears_31 : decode cX6_hears 31 = .ok (.if_icmp .ne 6, 3) := by decide +kernel
theorem dX6_hears_34 : decode cX6_hears 34 = .ok (.bipush (-3), 2) := by decide +kernel
theorem dX6_hears_36 : decode cX6_hears 36 = .ok (.ireturn, 1) := by decide +kernel
theorem dX6_hears_37 : decode cX6_hears 37 = .ok (.aload_n 0, 1) := by decide +kernel
theorem dX6_hears_38 : decode cX6_hears 38 = .ok (.getfield 41, 3) := by decide +kernel
theorem dX6_hears_41 : decode cX6_hears 41 = .ok (.aload_n 0, 1) := by decide +kernel
theorem dX6_hears_42 : decode cX6_hears 42 = .ok (.getfield 118, 3) := by decide +kernel
theorem dX6_hears_45 : decode cX6_hears 45 = .ok (.iload_n 1, 1) := by decide +kernel
theorem dX6_hears_46 : decode cX6_hears 46 = .ok (.iastore, 1) := by decide +kernel
theorem dX6_hears_47 : decode cX6_hears 47 = .ok (.aload_n 0, 1) := by decide +kernel
theorem dX6_hears_48 : decode cX6_hears 48 = .ok (.getfield 44, 3) := by decide +kernel
theorem dX6_hears_51 : decode cX6_hears 51 = .ok (.aload_n 0, 1) := by decide +kernel
theorem dX6_hears_52 : decode cX6_hears 52 = .ok (.getfield 118, 3) := by decide +kernel
theorem dX6_hears_55 : decode cX6_hears 55 = .ok (.iload_n 2, 1) := by decide +kernel
theorem dX6_hears_56 : decode cX6_hears 56 = .ok (.iastore, 1) := by decide +kernel
theorem dX6_hears_57 : decode cX6_hears 57 = .ok (.aload_n 0, 1) := by decide +kernel
theorem dX6_hears_58 : decode cX6_hears 58 = .ok (.dup, 1) := by decide +kernel
theorem dX6_hears_59 : decode cX6_hears 59 = .ok (.getfield 118, 3) := by decide +kernel
theorem dX6_hears_62 : decode cX6_hears 62 = .ok (.iconst 1, 1) := by decide +kernel
theorem dX6_hears_63 : decode cX6_hears 63 = .ok (.iadd, 1) := by decide +kernel
theorem dX6_hears_64 : decode cX6_hears 64 = .ok (.putfield 118, 3) := by decide +kernel
theorem dX6_hears_67 : decode cX6_hears 67 = .ok (.aload_n 0, 1) := by decide +kernel
theorem dX6_hears_68 : decode cX6_hears 68 = .ok (.getfield 118, 3) := by decide +kernel
theorem dX6_hears_71 : decode cX6_hears 71 = .ok (.ireturn, 1) := by decide +kernel
set_option maxHeartbeats 4000000 in
set_option maxRecDepth 100000 in
theorem c_X6_hears (E : GE) (l : Launch) (a0 : Nat → Nat) (M0 : Mo) (x1 : Int32) (x2 : Int32) (post : Int32 → Mo → Prop) (h : wp_X6_hears M0 x1 x2 post) : Met l yX6_hears (wz yX6_hears cX6_hears 3 (some .int)) { frames := 1, cells := 0, slots := 0, locals := 25 } (gPc E [.ref (a0 99), .int x1, .int x2] (gW [bModel E a0 M0])) (gQi E (gW [bModel E a0 M0]) (fun r (u : Mo) => post r u) (fun (u : Mo) w => w = gW [bModel E a0 u])) 0 0 (gIn (gW [bModel E a0 M0])) := by
  unfold wp_X6_hears at h
  refine g_of_i (by decide) (Nat.le_of_ble_eq_true rfl) ?_
  intro p e s m below meth c A Q hx hb hml hown ht hE hP hD hret ls hl
  have hK := hE.1
  have hS : va_S A s.heap s.heap [] := va_S.rf
  have hl : lv_has ls 3 [(0, .ref (a0 99)), (1, .int x1), (2, .int x2)] := hl
  refine lv_iload_n hx hb dX6_hears_0 rfl (lv_at hl 1 rfl) ?_
  refine lv_i2l (v := x1.toInt64) hx hb dX6_hears_1 rfl ?_
  refine lv_lconst (v := 0) hx hb dX6_hears_2 (by decide) ?_
  refine lv_ldc2 hx hb hown (ht _ wk_X6_167) dX6_hears_3 ?_
  have p1 := gB (n := 1) (bs := [bModel E a0 M0]) (bc := []) (br := [bModel E a0 M0]) [0] rfl rfl (by decide)
  refine g_i (g_runS (As := [.long (x1.toInt64), .long 0, .long 999]) (rest := []) ⟨hx, hb, hml, hown, ht⟩ hE (c_X6_in E l (x1.toInt64) 0 999 _ h) ⟨rfl, rfl⟩ wk_X6_55 wt_X6_in wn_X6 wc_X6_in yd_X6_in ⟨Nat.le_of_ble_eq_true rfl, Nat.le_of_ble_eq_true rfl⟩ hP hD p1 rfl rfl hl.1 rfl (lv_room (Nat.le_of_ble_eq_true rfl)) dX6_hears_6 ⟨Nat.zero_le _, Nat.zero_le _⟩) hP hD hS p1 (fun r_1 _ w H locs h hw hP hD hS => ?_)
  subst hw
  clear p1
  have p2 := gB (n := 1) (bs := [bModel E a0 M0]) (bc := []) (br := [bModel E a0 M0]) [0] rfl rfl (by decide)
  have hP := gP_perm p2.symm hP
  have hD := gD_perm p2.symm hD
  clear p2
  refine lv_if_eq (tgt := 24) hx hb dX6_hears_9 (by decide) (fun c_2 => ?_) (fun c_2 => ?_)
  · have h := h.1 c_2
    refine lv_iconst (v := (-1)) hx hb dX6_hears_24 (by decide) ?_
    exact hret (-1) M0 _ _ _ _ _ h rfl hP hD hS dX6_hears_25
  · have h := h.2 c_2
    refine lv_iload_n hx hb dX6_hears_12 rfl (lv_at hl 2 rfl) ?_
    refine lv_i2l (v := x2.toInt64) hx hb dX6_hears_13 rfl ?_
    refine lv_lconst (v := 0) hx hb dX6_hears_14 (by decide) ?_
    refine lv_ldc2 hx hb hown (ht _ wk_X6_190) dX6_hears_15 ?_
    have p1 := gB (n := 1) (bs := [bModel E a0 M0]) (bc := []) (br := [bModel E a0 M0]) [0] rfl rfl (by decide)
    refine g_i (g_runS (As := [.long (x2.toInt64), .long 0, .long 3]) (rest := []) ⟨hx, hb, hml, hown, ht⟩ hE (c_X6_in E l (x2.toInt64) 0 3 _ h) ⟨rfl, rfl⟩ wk_X6_55 wt_X6_in wn_X6 wc_X6_in yd_X6_in ⟨Nat.le_of_ble_eq_true rfl, Nat.le_of_ble_eq_true rfl⟩ hP hD p1 rfl rfl hl.1 rfl (lv_room (Nat.le_of_ble_eq_true rfl)) dX6_hears_18 ⟨Nat.zero_le _, Nat.zero_le _⟩) hP hD hS p1 (fun r_3 _ w H locs h hw hP hD hS => ?_)
    subst hw
    clear p1
    have p2 := gB (n := 1) (bs := [bModel E a0 M0]) (bc := []) (br := [bModel E a0 M0]) [0] rfl rfl (by decide)
    have hP := gP_perm p2.symm hP
    have hD := gD_perm p2.symm hD
    clear p2
    refine lv_if_ne (tgt := 26) hx hb dX6_hears_21 (by decide) (fun c_4 => ?_) (fun c_4 => ?_)
    · have h := h.1 c_4
      refine lv_aload_n hx hb dX6_hears_26 rfl (lv_at hl 0 rfl) ?_
      refine va_get (D := (E.1, E.2.1)) (ci := 6) (v := .int (M0.1.1 16)) (C := RX6) (T := TX6) (N := 26) hx hb ht wu_X6 hown hK hP 0 rfl rfl 16 (by decide) (ht _ wk_X6_118) (fun _ h9 => h9) rfl dX6_hears_27 ?_
      refine lv_iconst (v := 4) hx hb dX6_hears_30 (by decide) ?_
      refine lv_icmp_ne (tgt := 37) hx hb dX6_hears_31 (by decide) (fun c_5 => ?_) (fun c_5 => ?_)
      · have h := h.1 c_5
        refine lv_aload_n hx hb dX6_hears_37 rfl (lv_at hl 0 rfl) ?_
        refine va_get (D := (E.1, E.2.1)) (ci := 6) (v := .ref (a0 17)) (C := RX6) (T := TX6) (N := 26) hx hb ht wu_X6 hown hK hP 0 rfl rfl 17 (by decide) (ht _ wk_X6_41) (fun _ h9 => h9) rfl dX6_hears_38 ?_
        refine lv_aload_n hx hb dX6_hears_41 rfl (lv_at hl 0 rfl) ?_
        refine va_get (D := (E.1, E.2.1)) (ci := 6) (v := .int (M0.1.1 16)) (C := RX6) (T := TX6) (N := 26) hx hb ht wu_X6 hown hK hP 0 rfl rfl 16 (by decide) (ht _ wk_X6_118) (fun _ h9 => h9) rfl dX6_hears_42 ?_
        refine lv_iload_n hx hb dX6_hears_45 rfl (lv_at hl 1 rfl) ?_
        refine va_iast hx hb hK hP hD hS 10 0 rfl rfl h.1 dX6_hears_46 (fun H locs hP hD hS => ?_)
        have h := h.2
        have hP : gP E (gW [bModel E a0 (pma M0 17 ((M0.1.1 16).toNatClampNeg) x1)]) H := hP
        have hD : va_D A (gW [bModel E a0 (pma M0 17 ((M0.1.1 16).toNatClampNeg) x1)]) := hD
        obtain ⟨M_6, eM_6⟩ : ∃ z : Mo, z = (pma M0 17 ((M0.1.1 16).toNatClampNeg) x1) := ⟨_, rfl⟩
        have h := h M_6 eM_6
        rw [← eM_6] at hP hD
        refine lv_aload_n hx hb dX6_hears_47 rfl (lv_at hl 0 rfl) ?_
        refine va_get (D := (E.1, E.2.1)) (ci := 6) (v := .ref (a0 18)) (C := RX6) (T := TX6) (N := 26) hx hb ht wu_X6 hown hK hP 0 rfl rfl 18 (by decide) (ht _ wk_X6_44) (fun _ h9 => h9) rfl dX6_hears_48 ?_
        refine lv_aload_n hx hb dX6_hears_51 rfl (lv_at hl 0 rfl) ?_
        refine va_get (D := (E.1, E.2.1)) (ci := 6) (v := .int (M_6.1.1 16)) (C := RX6) (T := TX6) (N := 26) hx hb ht wu_X6 hown hK hP 0 rfl rfl 16 (by decide) (ht _ wk_X6_118) (fun _ h9 => h9) rfl dX6_hears_52 ?_
        refine lv_iload_n hx hb dX6_hears_55 rfl (lv_at hl 2 rfl) ?_
        refine va_iast hx hb hK hP hD hS 11 0 rfl rfl h.1 dX6_hears_56 (fun H locs hP hD hS => ?_)
        have h := h.2
        have hP : gP E (gW [bModel E a0 (pma M_6 18 ((M_6.1.1 16).toNatClampNeg) x2)]) H := hP
        have hD : va_D A (gW [bModel E a0 (pma M_6 18 ((M_6.1.1 16).toNatClampNeg) x2)]) := hD
        obtain ⟨M_7, eM_7⟩ : ∃ z : Mo, z = (pma M_6 18 ((M_6.1.1 16).toNatClampNeg) x2) := ⟨_, rfl⟩
        have h := h M_7 eM_7
        rw [← eM_7] at hP hD
        refine lv_aload_n hx hb dX6_hears_57 rfl (lv_at hl 0 rfl) ?_
        refine lv_dup hx hb dX6_hears_58 rfl ?_
        refine va_get (D := (E.1, E.2.1)) (ci := 6) (v := .int (M_7.1.1 16)) (C := RX6) (T := TX6) (N := 26) hx hb ht wu_X6 hown hK hP 0 rfl rfl 16 (by decide) (ht _ wk_X6_118) (fun _ h9 => h9) rfl dX6_hears_59 ?_
        refine lv_iconst (v := 1) hx hb dX6_hears_62 (by decide) ?_
        refine lv_iadd hx hb dX6_hears_63 ?_
        refine va_put (D := (E.1, E.2.1)) (ci := 6) (v := .int ((M_7.1.1 16) + 1)) (ty := .int) (C := RX6) (T := TX6) (N := 26) hx hb ht wu_X6 tyX6 tyX6_ok nmX6 hown hK hP hD hS 0 rfl rfl 16 (by decide) (ht _ wk_X6_118) (fun _ h9 => h9) rfl (by decide +kernel) rfl rfl (Nat.le_of_ble_eq_true rfl) dX6_hears_64 (fun H locs hP hD hS => ?_)
        have hP : gP E (gW [bModel E a0 (pmf M_7 16 ((M_7.1.1 16) + 1))]) H := hP
        have hD : va_D A (gW [bModel E a0 (pmf M_7 16 ((M_7.1.1 16) + 1))]) := hD
        refine lv_aload_n hx hb dX6_hears_67 rfl (lv_at hl 0 rfl) ?_
        refine va_get (D := (E.1, E.2.1)) (ci := 6) (v := .int ((pmf M_7 16 ((M_7.1.1 16) + 1)).1.1 16)) (C := RX6) (T := TX6) (N := 26) hx hb ht wu_X6 hown hK hP 0 rfl rfl 16 (by decide) (ht _ wk_X6_118) (fun _ h9 => h9) rfl dX6_hears_68 ?_
        exact hret ((pmf M_7 16 ((M_7.1.1 16) + 1)).1.1 16) (pmf M_7 16 ((M_7.1.1 16) + 1)) _ _ _ _ _ h rfl hP hD hS dX6_hears_71
      · have h := h.2 c_5
        refine lv_bipush (v := (-3)) hx hb dX6_hears_34 (by decide) ?_
        exact hret (-3) M0 _ _ _ _ _ h rfl hP hD hS dX6_hears_36
    · have h := h.2 c_4
      refine lv_iconst (v := (-1)) hx hb dX6_hears_24 (by decide) ?_
      exact hret (-1) M0 _ _ _ _ _ h rfl hP hD hS dX6_hears_25
theorem dX6_forget_0 : decode cX6_forget 0 = .ok (.aload_n 0, 1) := by decide +kernel
theorem dX6_forget_1 : decode cX6_forget 1 = .ok (.getfield 118, 3) := by decide +kernel
theorem dX6_forget_4 : decode cX6_forget 4 = .ok (.istore_n 1, 1) := by decide +kernel
theorem dX6_forget_5 : decode cX6_forget 5 = .ok (.aload_n 0, 1) := by decide +kernel
theorem dX6_forget_6 : decode cX6_forget 6 = .ok (.iconst 0, 1) := by decide +kernel
theorem dX6_forget_7 : decode cX6_forget 7 = .ok (.putfield 118, 3) := by decide +kernel
theorem dX6_forget_10 : decode cX6_forget 10 = .ok (.iload_n 1, 1) := by decide +kernel
theorem dX6_forget_11 : decode cX6_forget 11 = .ok (.ireturn, 1) := by decide +kernel
set_option maxHeartbeats 4000000 in
set_option maxRecDepth 100000 in
theorem c_X6_forget (E : GE) (l : Launch) (a0 : Nat → Nat) (M0 : Mo) (post : Int32 → Mo → Prop) (h : wp_X6_forget M0 post) : Met l yX6_forget (wz yX6_forget cX6_forget 2 (some .int)) { frames := 0, cells := 0, slots := 0, locals := 0 } (gPc E [.ref (a0 99)] (gW [bModel E a0 M0])) (gQi E (gW [bModel E a0 M0]) (fun r (u : Mo) => post r u) (fun (u : Mo) w => w = gW [bModel E a0 u])) 0 0 (gIn (gW [bModel E a0 M0])) := by
  unfold wp_X6_forget at h
  refine g_of_i (by decide) (Nat.le_of_ble_eq_true rfl) ?_
  intro p e s m below meth c A Q hx hb hml hown ht hE hP hD hret ls hl
  have hK := hE.1
  have hS : va_S A s.heap s.heap [] := va_S.rf
  have hl : lv_has ls 2 [(0, .ref (a0 99))] := hl
  refine lv_aload_n hx hb dX6_forget_0 rfl (lv_at hl 0 rfl) ?_
  refine va_get (D := (E.1, E.2.1)) (ci := 6) (v := .int (M0.1.1 16)) (C := RX6) (T := TX6) (N := 26) hx hb ht wu_X6 hown hK hP 0 rfl rfl 16 (by decide) (ht _ wk_X6_118) (fun _ h9 => h9) rfl dX6_forget_1 ?_
  refine lv_istore_n (lv' := [(1, .int (M0.1.1 16)), (0, .ref (a0 99))]) hx hb dX6_forget_4 rfl hl (by decide) rfl (fun ls hl => ?_)
  refine lv_aload_n hx hb dX6_forget_5 rfl (lv_at hl 1 rfl) ?_
  refine lv_iconst (v := 0) hx hb dX6_forget_6 (by decide) ?_
  refine va_put (D := (E.1, E.2.1)) (ci := 6) (v := .int 0) (ty := .int) (C := RX6) (T := TX6) (N := 26) hx hb ht wu_X6 tyX6 tyX6_ok nmX6 hown hK hP hD hS 0 rfl rfl 16 (by decide) (ht _ wk_X6_118) (fun _ h9 => h9) rfl (by decide +kernel) rfl rfl (Nat.le_of_ble_eq_true rfl) dX6_forget_7 (fun H locs hP hD hS => ?_)
  have hP : gP E (gW [bModel E a0 (pmf M0 16 0)]) H := hP
  have hD : va_D A (gW [bModel E a0 (pmf M0 16 0)]) := hD
  refine lv_iload_n hx hb dX6_forget_10 rfl (lv_at hl 0 rfl) ?_
  exact hret (M0.1.1 16) (pmf M0 16 0) _ _ _ _ _ h rfl hP hD hS dX6_forget_11
theorem dX6_fits_0 : decode cX6_fits 0 = .ok (.iconst 1, 1) := by decide +kernel
theorem dX6_fits_1 : decode cX6_fits 1 = .ok (.istore_n 2, 1) := by decide +kernel
theorem dX6_fits_2 : decode cX6_fits 2 = .ok (.iconst 0, 1) := by decide +kernel
theorem dX6_fits_3 : decode cX6_fits 3 = .ok (.istore_n 3, 1) := by decide +kernel
theorem dX6_fits_4 : decode cX6_fits 4 = .ok (.iload_n 3, 1) := by decide +kernel
theorem dX6_fits_5 : decode cX6_fits 5 = .ok (.aload_n 0, 1) := by decide +kernel
theorem dX6_fits_6 : decode cX6_fits 6 = .ok (.getfield 118, 3) := by decide +kernel
theorem dX6_fits_9 : decode cX6_fits 9 = .ok (.if_icmp .ge 38, 3) := by decide +kernel
theorem dX6_fits_12 : decode cX6_fits 12 = .ok (.iload_n 2, 1) := by decide +kernel
theorem dX6_fits_13 : decode cX6_fits 13 = .ok (.ifCond .eq 26, 3) := by decide +kernel
theorem dX6_fits_16 : decode cX6_fits 16 = .ok (.iload_n 1, 1) := by decide +kernel
theorem dX6_fits_17 : decode cX6_fits 17 = .ok (.aload_n 0, 1) := by decide +kernel
theorem dX6_fits_18 : decode cX6_fits 18 = .ok (.getfield 41, 3) := by decide +kernel
theorem dX6_fits_21 : decode cX6_fits 21 = .ok (.iload_n 3, 1) := by decide +kernel
theorem dX6_fits_22 : decode cX6_fits 22 = .ok (.iaload, 1) := by decide +kernel
theorem dX6_fits_23 : decode cX6_fits 23 = .ok (.invokestatic 172, 3) := by decide +kernel
theorem dX6_fits_26 : decode cX6_fits 26 = .ok (.aload_n 0, 1) := by decide +kernel
theorem dX6_fits_27 : decode cX6_fits 27 = .ok (.getfield 44, 3) := by decide +kernel
theorem dX6_fits_30 : decode cX6_fits 30 = .ok (.iload_n 3, 1) := by decide +kernel
theorem dX6_fits_31 : decode cX6_fits 31 = .ok (.iaload, 1) := by decide +kernel
theorem dX6_fits_32 : decode cX6_fits 32 = .ok (.if_icmp .ne 7, 3) := by decide +kernel
theorem dX6_fits_35 : decode cX6_fits 35 = .ok (.iconst 1, 1) := by decide +kernel
theorem dX6_fits_36 : decode cX6_fits 36 = .ok (.goto 4, 3) := by decide +kernel
theorem dX6_fits_39 : decode cX6_fits 39 = .ok (.iconst 0, 1) := by decide +kernel
theorem dX6_fits_40 : decode cX6_fits 40 = .ok (.istore_n 2, 1) := by decide +kernel
theorem dX6_fits_41 : decode cX6_fits 41 = .ok (.iinc 3 1, 3) := by decide +kernel
theorem dX6_fits_44 : decode cX6_fits 44 = .ok (.goto (-40), 3) := by decide +kernel
theorem dX6_fits_47 : decode cX6_fits 47 = .ok (.iload_n 2, 1) := by decide +kernel
theorem dX6_fits_48 : decode cX6_fits 48 = .ok (.ireturn, 1) := by decide +kernel
set_option maxHeartbeats 4000000 in
set_option maxRecDepth 100000 in
theorem c_X6_fits (E : GE) (l : Launch) (a0 : Nat → Nat) (M0 : Mo) (x1 : Int32) (post : Int32 → Prop) (h : wp_X6_fits M0 x1 post) : Met l yX6_fits (wz yX6_fits cX6_fits 4 (some .boolean)) { frames := 2, cells := 0, slots := 0, locals := 44 } (gPc E [.ref (a0 99), .int x1] (gW [bModel E a0 M0])) (gQi E (gW [bModel E a0 M0]) (fun r (_ : Unit) => post r) (fun (_ : Unit) w => w = gW [bModel E a0 M0])) 0 0 (gIn (gW [bModel E a0 M0])) := by
  unfold wp_X6_fits at h
  refine g_of_z (by decide) (Nat.le_of_ble_eq_true rfl) ?_
  intro p e s m below meth c A Q hx hb hml hown ht hE hP hD hret ls hl
  have hK := hE.1
  have hS : va_S A s.heap s.heap [] := va_S.rf
  have hl : lv_has ls 4 [(0, .ref (a0 99)), (1, .int x1)] := hl
  refine lv_iconst (v := 1) hx hb dX6_fits_0 (by decide) ?_
  refine lv_istore_n (lv' := [(2, .int 1), (0, .ref (a0 99)), (1, .int x1)]) hx hb dX6_fits_1 rfl hl (by decide) rfl (fun ls hl => ?_)
  refine lv_iconst (v := 0) hx hb dX6_fits_2 (by decide) ?_
  refine lv_istore_n (lv' := [(3, .int 0), (2, .int 1), (0, .ref (a0 99)), (1, .int x1)]) hx hb dX6_fits_3 rfl hl (by decide) rfl (fun ls hl => ?_)
  have L4 : ∀ (n4 : Nat) (x2_4 : Int32) (x3_4 : Int32) (H : Heap) (locs : List Loc) (ls : Array Slot), wp_X6_fits_L4 post x1 M0 n4 x2_4 x3_4 → gP E (gW [bModel E a0 M0]) H → va_D A (gW [bModel E a0 M0]) → va_S A s.heap H locs → lv_has ls 4 [(0, .ref (a0 99)), (1, .int x1), (2, .int x2_4), (3, .int x3_4)] → W p l e { frames := 2, cells := 0, slots := 0, locals := 44 } s m ([.ref (a0 99), .int x1] : List Value).toArray below meth c H locs 0 0 Q (F0 m 4 ls []) := by
    intro n4
    induction n4 with
    | zero => intro x2_4 x3_4 H locs ls h; exact h.elim
    | succ n4 ih4 =>
      intro x2_4 x3_4 H locs ls h hP hD hS hl
      rw [wp_X6_fits_L4] at h
      refine lv_iload_n hx hb dX6_fits_4 rfl (lv_at hl 3 rfl) ?_
      refine lv_aload_n hx hb dX6_fits_5 rfl (lv_at hl 0 rfl) ?_
      refine va_get (D := (E.1, E.2.1)) (ci := 6) (v := .int (M0.1.1 16)) (C := RX6) (T := TX6) (N := 26) hx hb ht wu_X6 hown hK hP 0 rfl rfl 16 (by decide) (ht _ wk_X6_118) (fun _ h9 => h9) rfl dX6_fits_6 ?_
      refine lv_icmp_ge (tgt := 47) hx hb dX6_fits_9 (by decide) (fun c_5 => ?_) (fun c_5 => ?_)
      · have h := h.1 c_5
        refine lv_iload_n hx hb dX6_fits_47 rfl (lv_at hl 2 rfl) ?_
        exact hret x2_4 () _ _ _ _ _ h.1 h.2 rfl hP hD hS dX6_fits_48
      · have h := h.2 c_5
        refine lv_iload_n hx hb dX6_fits_12 rfl (lv_at hl 2 rfl) ?_
        refine lv_if_eq (tgt := 39) hx hb dX6_fits_13 (by decide) (fun c_6 => ?_) (fun c_6 => ?_)
        · have h := h.1 c_6
          refine lv_iconst (v := 0) hx hb dX6_fits_39 (by decide) ?_
          refine lv_istore_n (lv' := [(2, .int 0), (0, .ref (a0 99)), (1, .int x1), (3, .int x3_4)]) hx hb dX6_fits_40 rfl hl (by decide) rfl (fun ls hl => ?_)
          refine lv_iinc (v := (x3_4 + 1)) (lv' := [(3, .int (x3_4 + 1)), (2, .int 0), (0, .ref (a0 99)), (1, .int x1)]) hx hb dX6_fits_41 hl (k := 3) rfl rfl (by decide) rfl (fun ls hl => ?_)
          refine lv_goto (tgt := 4) hx hb dX6_fits_44 (by decide) ?_
          exact ih4 0 (x3_4 + 1) _ _ _ h hP hD hS (lv_sub hl [2, 3, 1, 0] rfl)
        · have h := h.2 c_6
          refine lv_iload_n hx hb dX6_fits_16 rfl (lv_at hl 1 rfl) ?_
          refine lv_aload_n hx hb dX6_fits_17 rfl (lv_at hl 0 rfl) ?_
          refine va_get (D := (E.1, E.2.1)) (ci := 6) (v := .ref (a0 17)) (C := RX6) (T := TX6) (N := 26) hx hb ht wu_X6 hown hK hP 0 rfl rfl 17 (by decide) (ht _ wk_X6_41) (fun _ h9 => h9) rfl dX6_fits_18 ?_
          refine lv_iload_n hx hb dX6_fits_21 rfl (lv_at hl 3 rfl) ?_
          refine va_iald hx hb hK hP 10 0 rfl rfl h.1 dX6_fits_22 ?_
          have h := h.2
          have p1 := gB (n := 1) (bs := [bModel E a0 M0]) (bc := []) (br := [bModel E a0 M0]) [0] rfl rfl (by decide)
          refine g_i (g_runS (As := [.int x1, .int (M0.1.2 17 x3_4.toNatClampNeg)]) (rest := []) ⟨hx, hb, hml, hown, ht⟩ hE (c_X6_rightOf E l x1 (M0.1.2 17 x3_4.toNatClampNeg) _ h) ⟨rfl, rfl⟩ wk_X6_172 wt_X6_rightOf wn_X6 wc_X6_rightOf yd_X6_rightOf ⟨Nat.le_of_ble_eq_true rfl, Nat.le_of_ble_eq_true rfl⟩ hP hD p1 rfl rfl hl.1 rfl (lv_room (Nat.le_of_ble_eq_true rfl)) dX6_fits_23 ⟨Nat.zero_le _, Nat.zero_le _⟩) hP hD hS p1 (fun r_7 _ w H locs h hw hP hD hS => ?_)
          subst hw
          clear p1
          have p2 := gB (n := 1) (bs := [bModel E a0 M0]) (bc := []) (br := [bModel E a0 M0]) [0] rfl rfl (by decide)
          have hP := gP_perm p2.symm hP
          have hD := gD_perm p2.symm hD
          clear p2
          refine lv_aload_n hx hb dX6_fits_26 rfl (lv_at hl 0 rfl) ?_
          refine va_get (D := (E.1, E.2.1)) (ci := 6) (v := .ref (a0 18)) (C := RX6) (T := TX6) (N := 26) hx hb ht wu_X6 hown hK hP 0 rfl rfl 18 (by decide) (ht _ wk_X6_44) (fun _ h9 => h9) rfl dX6_fits_27 ?_
          refine lv_iload_n hx hb dX6_fits_30 rfl (lv_at hl 3 rfl) ?_
          refine va_iald hx hb hK hP 11 0 rfl rfl h.1 dX6_fits_31 ?_
          have h := h.2
          refine lv_icmp_ne (tgt := 39) hx hb dX6_fits_32 (by decide) (fun c_8 => ?_) (fun c_8 => ?_)
          · have h := h.1 c_8
            refine lv_iconst (v := 0) hx hb dX6_fits_39 (by decide) ?_
            refine lv_istore_n (lv' := [(2, .int 0), (0, .ref (a0 99)), (1, .int x1), (3, .int x3_4)]) hx hb dX6_fits_40 rfl hl (by decide) rfl (fun ls hl => ?_)
            refine lv_iinc (v := (x3_4 + 1)) (lv' := [(3, .int (x3_4 + 1)), (2, .int 0), (0, .ref (a0 99)), (1, .int x1)]) hx hb dX6_fits_41 hl (k := 3) rfl rfl (by decide) rfl (fun ls hl => ?_)
            refine lv_goto (tgt := 4) hx hb dX6_fits_44 (by decide) ?_
            exact ih4 0 (x3_4 + 1) _ _ _ h hP hD hS (lv_sub hl [2, 3, 1, 0] rfl)
          · have h := h.2 c_8
            refine lv_iconst (v := 1) hx hb dX6_fits_35 (by decide) ?_
            refine lv_goto (tgt := 40) hx hb dX6_fits_36 (by decide) ?_
            refine lv_istore_n (lv' := [(2, .int 1), (0, .ref (a0 99)), (1, .int x1), (3, .int x3_4)]) hx hb dX6_fits_40 rfl hl (by decide) rfl (fun ls hl => ?_)
            refine lv_iinc (v := (x3_4 + 1)) (lv' := [(3, .int (x3_4 + 1)), (2, .int 1), (0, .ref (a0 99)), (1, .int x1)]) hx hb dX6_fits_41 hl (k := 3) rfl rfl (by decide) rfl (fun ls hl => ?_)
            refine lv_goto (tgt := 4) hx hb dX6_fits_44 (by decide) ?_
            exact ih4 1 (x3_4 + 1) _ _ _ h hP hD hS (lv_sub hl [2, 3, 1, 0] rfl)
  obtain ⟨n4, h⟩ := h
  exact L4 n4 1 0 _ _ _ h hP hD hS (lv_sub hl [2, 3, 1, 0] rfl)
theorem dX6_codes_0 : decode cX6_codes 0 = .ok (.iload_n 1, 1) := by decide +kernel
theorem dX6_codes_1 : decode cX6_codes 1 = .ok (.i2l, 1) := by decide +kernel
theorem dX6_codes_2 : decode cX6_codes 2 = .ok (.lconst 0, 1) := by decide +kernel
theorem dX6_codes_3 : decode cX6_codes 3 = .ok (.lconst 1, 1) := by decide +kernel
theorem dX6_codes_4 : decode cX6_codes 4 = .ok (.invokestatic 55, 3) := by decide +kernel
theorem dX6_codes_7 : decode cX6_codes 7 = .ok (.ifCond .ne 5, 3) := by decide +kernel
theorem dX6_codes_10 : decode cX6_codes 10 = .ok (.iconst (-1), 1) := by decide +kernel
theorem dX6_codes_11 : decode cX6_codes 11 = .ok (.ireturn, 1) := by decide +kernel
theorem dX6_codes_12 : decode cX6_codes 12 = .ok (.iconst 0, 1) := by decide +kernel
theorem dX6_codes_13 : decode cX6_codes 13 = .ok (.istore_n 2, 1) := by decide +kernel
theorem dX6_codes_14 : decode cX6_codes 14 = .ok (.bipush (-9), 2) := by decide +kernel
theorem dX6_codes_16 : decode cX6_codes 16 = .ok (.istore_n 3, 1) := by decide +kernel
theorem dX6_codes_17 : decode cX6_codes 17 = .ok (.sipush 999, 3) := by decide +kernel
theorem dX6_codes_20 : decode cX6_codes 20 = .ok (.istore 4, 2) := by decide +kernel
theorem dX6_codes_22 : decode cX6_codes 22 = .ok (.iload 4, 2) := by decide +kernel
theorem dX6_codes_24 : decode cX6_codes 24 = .ok (.ifCond .lt 42, 3) := by decide +kernel
theorem dX6_codes_27 : decode cX6_codes 27 = .ok (.aload_n 0, 1) := by decide +kernel
theorem dX6_codes_28 : decode cX6_codes 28 = .ok (.iload 4, 2) := by decide +kernel
theorem dX6_codes_30 : decode cX6_codes 30 = .ok (.invokevirtual 192, 3) := by decide +kernel
theorem dX6_codes_33 : decode cX6_codes 33 = .ok (.istore 5, 2) := by decide +kernel
theorem dX6_codes_35 : decode cX6_codes 35 = .ok (.iload_n 2, 1) := by decide +kernel
theorem dX6_codes_36 : decode cX6_codes 36 = .ok (.iload 5, 2) := by decide +kernel
theorem dX6_codes_38 : decode cX6_codes 38 = .ok (.ifCond .eq 7, 3) := by decide +kernel
theorem dX6_codes_41 : decode cX6_codes 41 = .ok (.iconst 1, 1) := by decide +kernel
theorem dX6_codes_42 : decode cX6_codes 42 = .ok (.goto 4, 3) := by decide +kernel
theorem dX6_codes_45 : decode cX6_codes 45 = .ok (.iconst 0, 1) := by decide +kernel
theorem dX6_codes_46 : decode cX6_codes 46 = .ok (.iadd, 1) := by decide +kernel
theorem dX6_codes_47 : decode cX6_codes 47 = .ok (.istore_n 2, 1) := by decide +kernel
theorem dX6_codes_48 : decode cX6_codes 48 = .ok (.iload 5, 2) := by decide +kernel
theorem dX6_codes_50 : decode cX6_codes 50 = .ok (.ifCond .eq 8, 3) := by decide +kernel
theorem dX6_codes_53 : decode cX6_codes 53 = .ok (.iload 4, 2) := by decide +kernel
theorem dX6_codes_55 : decode cX6_codes 55 = .ok (.goto 4, 3) := by decide +kernel
theorem dX6_codes_58 : decode cX6_codes 58 = .ok (.iload_n 3, 1) := by decide +kernel
theorem dX6_codes_59 : decode cX6_codes 59 = .ok (.istore_n 3, 1) := by decide +kernel
theorem dX6_codes_60 : decode cX6_codes 60 = .ok (.iinc 4 (-1), 3) := by decide +kernel
theorem dX6_codes_63 : decode cX6_codes 63 = .ok (.goto (-41), 3) := by decide +kernel
theorem dX6_codes_66 : decode cX6_codes 66 = .ok (.iload_n 1, 1) := by decide +kernel
theorem dX6_codes_67 : decode cX6_codes 67 = .ok (.ifCond .ne 7, 3) := by decide +kernel
theorem dX6_codes_70 : decode cX6_codes 70 = .ok (.iload_n 2, 1) := by decide +kernel
theorem dX6_codes_71 : decode cX6_codes 71 = .ok (.goto 4, 3) := by decide +kernel
theorem dX6_codes_74 : decode cX6_codes 74 = .ok (.iload_n 3, 1) := by decide +kernel
theorem dX6_codes_75 : decode cX6_codes 75 = .ok (.ireturn, 1) := by decide +kernel
set_option maxHeartbeats 4000000 in
set_option maxRecDepth 100000 in
theorem c_X6_codes (E : GE) (l : Launch) (a0 : Nat → Nat) (M0 : Mo) (x1 : Int32) (post : Int32 → Prop) (h : wp_X6_codes M0 x1 post) : Met l yX6_codes (wz yX6_codes cX6_codes 6 (some .int)) { frames := 3, cells := 0, slots := 0, locals := 67 } (gPc E [.ref (a0 99), .int x1] (gW [bModel E a0 M0])) (gQi E (gW [bModel E a0 M0]) (fun r (_ : Unit) => post r) (fun (_ : Unit) w => w = gW [bModel E a0 M0])) 0 0 (gIn (gW [bModel E a0 M0])) := by
  unfold wp_X6_codes at h
  refine g_of_i (by decide) (Nat.le_of_ble_eq_true rfl) ?_
  intro p e s m below meth c A Q hx hb hml hown ht hE hP hD hret ls hl
  have hK := hE.1
  have hS : va_S A s.heap s.heap [] := va_S.rf
  have hl : lv_has ls 6 [(0, .ref (a0 99)), (1, .int x1)] := hl
  refine lv_iload_n hx hb dX6_codes_0 rfl (lv_at hl 1 rfl) ?_
  refine lv_i2l (v := x1.toInt64) hx hb dX6_codes_1 rfl ?_
  refine lv_lconst (v := 0) hx hb dX6_codes_2 (by decide) ?_
  refine lv_lconst (v := 1) hx hb dX6_codes_3 (by decide) ?_
  have p1 := gB (n := 1) (bs := [bModel E a0 M0]) (bc := []) (br := [bModel E a0 M0]) [0] rfl rfl (by decide)
  refine g_i (g_runS (As := [.long (x1.toInt64), .long 0, .long 1]) (rest := []) ⟨hx, hb, hml, hown, ht⟩ hE (c_X6_in E l (x1.toInt64) 0 1 _ h) ⟨rfl, rfl⟩ wk_X6_55 wt_X6_in wn_X6 wc_X6_in yd_X6_in ⟨Nat.le_of_ble_eq_true rfl, Nat.le_of_ble_eq_true rfl⟩ hP hD p1 rfl rfl hl.1 rfl (lv_room (Nat.le_of_ble_eq_true rfl)) dX6_codes_4 ⟨Nat.zero_le _, Nat.zero_le _⟩) hP hD hS p1 (fun r_1 _ w H locs h hw hP hD hS => ?_)
  subst hw
  clear p1
  have p2 := gB (n := 1) (bs := [bModel E a0 M0]) (bc := []) (br := [bModel E a0 M0]) [0] rfl rfl (by decide)
  have hP := gP_perm p2.symm hP
  have hD := gD_perm p2.symm hD
  clear p2
  refine lv_if_ne (tgt := 12) hx hb dX6_codes_7 (by decide) (fun c_2 => ?_) (fun c_2 => ?_)
  · have h := h.1 c_2
    refine lv_iconst (v := 0) hx hb dX6_codes_12 (by decide) ?_
    refine lv_istore_n (lv' := [(2, .int 0), (0, .ref (a0 99)), (1, .int x1)]) hx hb dX6_codes_13 rfl hl (by decide) rfl (fun ls hl => ?_)
    refine lv_bipush (v := (-9)) hx hb dX6_codes_14 (by decide) ?_
    refine lv_istore_n (lv' := [(3, .int (-9)), (2, .int 0), (0, .ref (a0 99)), (1, .int x1)]) hx hb dX6_codes_16 rfl hl (by decide) rfl (fun ls hl => ?_)
    refine lv_sipush (v := 999) hx hb dX6_codes_17 (by decide) ?_
    refine lv_istore (lv' := [(4, .int 999), (3, .int (-9)), (2, .int 0), (0, .ref (a0 99)), (1, .int x1)]) hx hb dX6_codes_20 hl (by decide) rfl (fun ls hl => ?_)
    have L22 : ∀ (n22 : Nat) (x2_22 : Int32) (x3_22 : Int32) (x4_22 : Int32) (H : Heap) (locs : List Loc) (ls : Array Slot), wp_X6_codes_L22 post x1 M0 n22 x2_22 x3_22 x4_22 → gP E (gW [bModel E a0 M0]) H → va_D A (gW [bModel E a0 M0]) → va_S A s.heap H locs → lv_has ls 6 [(0, .ref (a0 99)), (1, .int x1), (2, .int x2_22), (3, .int x3_22), (4, .int x4_22)] → W p l e { frames := 3, cells := 0, slots := 0, locals := 67 } s m ([.ref (a0 99), .int x1] : List Value).toArray below meth c H locs 0 0 Q (F0 m 22 ls []) := by
      intro n22
      induction n22 with
      | zero => intro x2_22 x3_22 x4_22 H locs ls h; exact h.elim
      | succ n22 ih22 =>
        intro x2_22 x3_22 x4_22 H locs ls h hP hD hS hl
        rw [wp_X6_codes_L22] at h
        refine lv_iload hx hb dX6_codes_22 (lv_at hl 4 rfl) ?_
        refine lv_if_lt (tgt := 66) hx hb dX6_codes_24 (by decide) (fun c_9 => ?_) (fun c_9 => ?_)
        · have h := h.1 c_9
          refine lv_iload_n hx hb dX6_codes_66 rfl (lv_at hl 1 rfl) ?_
          refine lv_if_ne (tgt := 74) hx hb dX6_codes_67 (by decide) (fun c_10 => ?_) (fun c_10 => ?_)
          · have h := h.1 c_10
            refine lv_iload_n hx hb dX6_codes_74 rfl (lv_at hl 3 rfl) ?_
            exact hret x3_22 () _ _ _ _ _ h rfl hP hD hS dX6_codes_75
          · have h := h.2 c_10
            refine lv_iload_n hx hb dX6_codes_70 rfl (lv_at hl 2 rfl) ?_
            refine lv_goto (tgt := 75) hx hb dX6_codes_71 (by decide) ?_
            exact hret x2_22 () _ _ _ _ _ h rfl hP hD hS dX6_codes_75
        · have h := h.2 c_9
          refine lv_aload_n hx hb dX6_codes_27 rfl (lv_at hl 0 rfl) ?_
          refine lv_iload hx hb dX6_codes_28 (lv_at hl 4 rfl) ?_
          have p1 := gB (n := 1) (bs := [bModel E a0 M0]) (bc := [bModel E a0 M0]) (br := []) [0] rfl rfl (by decide)
          refine g_i (g_runV (As := [.int x4_22]) (rest := []) ⟨hx, hb, hml, hown, ht⟩ hE (c_X6_fits E l a0 M0 x4_22 _ h) ⟨rfl, rfl⟩ wk_X6_192 wi_X6_fits ws_X6_fits wn_X6 wc_X6_fits yd_X6_fits ⟨Nat.le_of_ble_eq_true rfl, Nat.le_of_ble_eq_true rfl⟩ hP hD p1 (ci := 6) rfl rfl rfl rfl rfl hl.1 rfl (lv_room (Nat.le_of_ble_eq_true rfl)) dX6_codes_30 ⟨Nat.zero_le _, Nat.zero_le _⟩) hP hD hS p1 (fun r_11 _ w H locs h hw hP hD hS => ?_)
          subst hw
          clear p1
          have p2 := gB (n := 1) (bs := [bModel E a0 M0]) (bc := [bModel E a0 M0]) (br := []) [0] rfl rfl (by decide)
          have hP := gP_perm p2.symm hP
          have hD := gD_perm p2.symm hD
          clear p2
          refine lv_istore (lv' := [(5, .int r_11), (0, .ref (a0 99)), (1, .int x1), (2, .int x2_22), (3, .int x3_22), (4, .int x4_22)]) hx hb dX6_codes_33 hl (by decide) rfl (fun ls hl => ?_)
          refine lv_iload_n hx hb dX6_codes_35 rfl (lv_at hl 3 rfl) ?_
          refine lv_iload hx hb dX6_codes_36 (lv_at hl 0 rfl) ?_
          refine lv_if_eq (tgt := 45) hx hb dX6_codes_38 (by decide) (fun c_12 => ?_) (fun c_12 => ?_)
          · have h := h.1 c_12
            refine lv_iconst (v := 0) hx hb dX6_codes_45 (by decide) ?_
            refine lv_iadd hx hb dX6_codes_46 ?_
            refine lv_istore_n (lv' := [(2, .int (x2_22 + 0)), (5, .int r_11), (0, .ref (a0 99)), (1, .int x1), (3, .int x3_22), (4, .int x4_22)]) hx hb dX6_codes_47 rfl hl (by decide) rfl (fun ls hl => ?_)
            refine lv_iload hx hb dX6_codes_48 (lv_at hl 1 rfl) ?_
            refine lv_if_eq (tgt := 58) hx hb dX6_codes_50 (by decide) (fun c_13 => ?_) (fun c_13 => ?_)
            · have h := h.1 c_13
              refine lv_iload_n hx hb dX6_codes_58 rfl (lv_at hl 4 rfl) ?_
              refine lv_istore_n (lv' := [(3, .int x3_22), (2, .int (x2_22 + 0)), (5, .int r_11), (0, .ref (a0 99)), (1, .int x1), (4, .int x4_22)]) hx hb dX6_codes_59 rfl hl (by decide) rfl (fun ls hl => ?_)
              refine lv_iinc (v := (x4_22 + (-1))) (lv' := [(4, .int (x4_22 + (-1))), (3, .int x3_22), (2, .int (x2_22 + 0)), (5, .int r_11), (0, .ref (a0 99)), (1, .int x1)]) hx hb dX6_codes_60 hl (k := 5) rfl rfl (by decide) rfl (fun ls hl => ?_)
              refine lv_goto (tgt := 22) hx hb dX6_codes_63 (by decide) ?_
              exact ih22 (x2_22 + 0) x3_22 (x4_22 + (-1)) _ _ _ h hP hD hS (lv_sub hl [4, 5, 2, 1, 0] rfl)
            · have h := h.2 c_13
              refine lv_iload hx hb dX6_codes_53 (lv_at hl 5 rfl) ?_
              refine lv_goto (tgt := 59) hx hb dX6_codes_55 (by decide) ?_
              refine lv_istore_n (lv' := [(3, .int x4_22), (2, .int (x2_22 + 0)), (5, .int r_11), (0, .ref (a0 99)), (1, .int x1), (4, .int x4_22)]) hx hb dX6_codes_59 rfl hl (by decide) rfl (fun ls hl => ?_)
              refine lv_iinc (v := (x4_22 + (-1))) (lv' := [(4, .int (x4_22 + (-1))), (3, .int x4_22), (2, .int (x2_22 + 0)), (5, .int r_11), (0, .ref (a0 99)), (1, .int x1)]) hx hb dX6_codes_60 hl (k := 5) rfl rfl (by decide) rfl (fun ls hl => ?_)
              refine lv_goto (tgt := 22) hx hb dX6_codes_63 (by decide) ?_
              exact ih22 (x2_22 + 0) x4_22 (x4_22 + (-1)) _ _ _ h hP hD hS (lv_sub hl [4, 5, 2, 1, 0] rfl)
          · have h := h.2 c_12
            refine lv_iconst (v := 1) hx hb dX6_codes_41 (by decide) ?_
            refine lv_goto (tgt := 46) hx hb dX6_codes_42 (by decide) ?_
            refine lv_iadd hx hb dX6_codes_46 ?_
            refine lv_istore_n (lv' := [(2, .int (x2_22 + 1)), (5, .int r_11), (0, .ref (a0 99)), (1, .int x1), (3, .int x3_22), (4, .int x4_22)]) hx hb dX6_codes_47 rfl hl (by decide) rfl (fun ls hl => ?_)
            refine lv_iload hx hb dX6_codes_48 (lv_at hl 1 rfl) ?_
            refine lv_if_eq (tgt := 58) hx hb dX6_codes_50 (by decide) (fun c_14 => ?_) (fun c_14 => ?_)
            · have h := h.1 c_14
              refine lv_iload_n hx hb dX6_codes_58 rfl (lv_at hl 4 rfl) ?_
              refine lv_istore_n (lv' := [(3, .int x3_22), (2, .int (x2_22 + 1)), (5, .int r_11), (0, .ref (a0 99)), (1, .int x1), (4, .int x4_22)]) hx hb dX6_codes_59 rfl hl (by decide) rfl (fun ls hl => ?_)
              refine lv_iinc (v := (x4_22 + (-1))) (lv' := [(4, .int (x4_22 + (-1))), (3, .int x3_22), (2, .int (x2_22 + 1)), (5, .int r_11), (0, .ref (a0 99)), (1, .int x1)]) hx hb dX6_codes_60 hl (k := 5) rfl rfl (by decide) rfl (fun ls hl => ?_)
              refine lv_goto (tgt := 22) hx hb dX6_codes_63 (by decide) ?_
              exact ih22 (x2_22 + 1) x3_22 (x4_22 + (-1)) _ _ _ h hP hD hS (lv_sub hl [4, 5, 2, 1, 0] rfl)
            · have h := h.2 c_14
              refine lv_iload hx hb dX6_codes_53 (lv_at hl 5 rfl) ?_
              refine lv_goto (tgt := 59) hx hb dX6_codes_55 (by decide) ?_
              refine lv_istore_n (lv' := [(3, .int x4_22), (2, .int (x2_22 + 1)), (5, .int r_11), (0, .ref (a0 99)), (1, .int x1), (4, .int x4_22)]) hx hb dX6_codes_59 rfl hl (by decide) rfl (fun ls hl => ?_)
              refine lv_iinc (v := (x4_22 + (-1))) (lv' := [(4, .int (x4_22 + (-1))), (3, .int x4_22), (2, .int (x2_22 + 1)), (5, .int r_11), (0, .ref (a0 99)), (1, .int x1)]) hx hb dX6_codes_60 hl (k := 5) rfl rfl (by decide) rfl (fun ls hl => ?_)
              refine lv_goto (tgt := 22) hx hb dX6_codes_63 (by decide) ?_
              exact ih22 (x2_22 + 1) x4_22 (x4_22 + (-1)) _ _ _ h hP hD hS (lv_sub hl [4, 5, 2, 1, 0] rfl)
    obtain ⟨n22, h⟩ := h
    exact L22 n22 0 (-9) 999 _ _ _ h hP hD hS (lv_sub hl [3, 4, 2, 1, 0] rfl)
  · have h := h.2 c_2
    refine lv_iconst (v := (-1)) hx hb dX6_codes_10 (by decide) ?_
    exact hret (-1) () _ _ _ _ _ h rfl hP hD hS dX6_codes_11
theorem dX6_ask_0 : decode cX6_ask 0 = .ok (.iconst 0, 1) := by decide +kernel
theorem dX6_ask_1 : decode cX6_ask 1 = .ok (.istore_n 1, 1) := by decide +kernel
theorem dX6_ask_2 : decode cX6_ask 2 = .ok (.iconst 0, 1) := by decide +kernel
theorem dX6_ask_3 : decode cX6_ask 3 = .ok (.istore_n 2, 1) := by decide +kernel
theorem dX6_ask_4 : decode cX6_ask 4 = .ok (.iload_n 2, 1) := by decide +kernel
theorem dX6_ask_5 : decode cX6_ask 5 = .ok (.sipush 1000, 3) := by decide +kernel
theorem dX6_ask_8 : decode cX6_ask 8 = .ok (.if_icmp .ge 37, 3) := by decide +kernel
theorem dX6_ask_11 : decode cX6_ask 11 = .ok (.aload_n 0, 1) := by decide +kernel
theorem dX6_ask_12 : decode cX6_ask 12 = .ok (.iload_n 2, 1) := by decide +kernel
theorem dX6_ask_13 : decode cX6_ask 13 = .ok (.invokevirtual 192, 3) := by decide +kernel
theorem dX6_ask_16 : decode cX6_ask 16 = .ok (.ifCond .eq 23, 3) := by decide +kernel
theorem dX6_ask_19 : decode cX6_ask 19 = .ok (.iload_n 1, 1) := by decide +kernel
theorem dX6_ask_20 : decode cX6_ask 20 = .ok (.sipush 250, 3) := by decide +kernel
theorem dX6_ask_23 : decode cX6_ask 23 = .ok (.if_icmp .ne 6, 3) := by decide +kernel
theorem dX6_ask_26 : decode cX6_ask 26 = .ok (.bipush (-9), 2) := by decide +kernel
theorem dX6_ask_28 : decode cX6_ask 28 = .ok (.ireturn, 1) := by decide +kernel
theorem dX6_ask_29 : decode cX6_ask 29 = .ok (.aload_n 0, 1) := by decide +kernel
theorem dX6_ask_30 : decode cX6_ask 30 = .ok (.getfield 47, 3) := by decide +kernel
theorem dX6_ask_33 : decode cX6_ask 33 = .ok (.iload_n 1, 1) := by decide +kernel
theorem dX6_ask_34 : decode cX6_ask 34 = .ok (.iload_n 2, 1) := by decide +kernel
theorem dX6_ask_35 : decode cX6_ask 35 = .ok (.iastore, 1) := by decide +kernel
theorem dX6_ask_36 : decode cX6_ask 36 = .ok (.iinc 1 1, 3) := by decide +kernel
theorem dX6_ask_39 : decode cX6_ask 39 = .ok (.iinc 2 1, 3) := by decide +kernel
theorem dX6_ask_42 : decode cX6_ask 42 = .ok (.goto (-38), 3) := by decide +kernel
theorem dX6_ask_45 : decode cX6_ask 45 = .ok (.iload_n 1, 1) := by decide +kernel
theorem dX6_ask_46 : decode cX6_ask 46 = .ok (.iconst 2, 1) := by decide +kernel
theorem dX6_ask_47 : decode cX6_ask 47 = .ok (.if_icmp .ge 6, 3) := by decide +kernel
theorem dX6_ask_50 : decode cX6_ask 50 = .ok (.bipush (-9), 2) := by decide +kernel
theorem dX6_ask_52 : decode cX6_ask 52 = .ok (.ireturn, 1) := by decide +kernel
theorem dX6_ask_53 : decode cX6_ask 53 = .ok (.bipush (-9), 2) := by decide +kernel
theorem dX6_ask_55 : decode cX6_ask 55 = .ok (.istore_n 2, 1) := by decide +kernel
theorem dX6_ask_56 : decode cX6_ask 56 = .ok (.sipush 251, 3) := by decide +kernel
theorem dX6_ask_59 : decode cX6_ask 59 = .ok (.istore_n 3, 1) := by decide +kernel
theorem dX6_ask_60 : decode cX6_ask 60 = .ok (.iconst 0, 1) := by decide +kernel
theorem dX6_ask_61 : decode cX6_ask 61 = .ok (.istore 4, 2) := by decide +kernel
theorem dX6_ask_63 : decode cX6_ask 63 = .ok (.iload 4, 2) := by decide +kernel
theorem dX6_ask_65 : decode cX6_ask 65 = .ok (.sipush 1000, 3) := by decide +kernel
theorem dX6_ask_68 : decode cX6_ask 68 = .ok (.if_icmp .ge 127, 3) := by decide +kernel
theorem dX6_ask_71 : decode cX6_ask 71 = .ok (.iconst 0, 1) := by decide +kernel
theorem dX6_ask_72 : decode cX6_ask 72 = .ok (.istore 5, 2) := by decide +kernel
theorem dX6_ask_74 : decode cX6_ask 74 = .ok (.iconst 0, 1) := by decide +kernel
theorem dX6_ask_75 : decode cX6_ask 75 = .ok (.istore 6, 2) := by decide +kernel
theorem dX6_ask_77 : decode cX6_ask 77 = .ok (.iload 6, 2) := by decide +kernel
theorem dX6_ask_79 : decode cX6_ask 79 = .ok (.iconst 4, 1) := by decide +kernel
theorem dX6_ask_80 : decode cX6_ask 80 = .ok (.if_icmp .ge 17, 3) := by decide +kernel
theorem dX6_ask_83 : decode cX6_ask 83 = .ok (.aload_n 0, 1) := by decide +kernel
theorem dX6_ask_84 : decode cX6_ask 84 = .ok (.getfield 50, 3) := by decide +kernel
theorem dX6_ask_87 : decode cX6_ask 87 = .ok (.iload 6, 2) := by decide +kernel
theorem dX6_ask_89 : decode cX6_ask 89 = .ok (.iconst 0, 1) := by decide +kernel
theorem dX6_ask_90 : decode cX6_ask 90 = .ok (.iastore, 1) := by decide +kernel
theorem dX6_ask_91 : decode cX6_ask 91 = .ok (.iinc 6 1, 3) := by decide +kernel
theorem dX6_ask_94 : decode cX6_ask 94 = .ok (.goto (-17), 3) := by decide +kernel
theorem dX6_ask_97 : decode cX6_ask 97 = .ok (.iconst 0, 1) := by decide +kernel
theorem dX6_ask_98 : decode cX6_ask 98 = .ok (.istore 6, 2) := by decide +kernel
theorem dX6_ask_100 : decode cX6_ask 100 = .ok (.iload 6, 2) := by decide +kernel
theorem dX6_ask_102 : decode cX6_ask 102 = .ok (.iload_n 1, 1) := by decide +kernel
theorem dX6_ask_103 : decode cX6_ask 103 = .ok (.if_icmp .ge 60, 3) := by decide +kernel
theorem dX6_ask_106 : decode cX6_ask 106 = .ok (.iload 4, 2) := by decide +kernel
theorem dX6_ask_108 : decode cX6_ask 108 = .ok (.aload_n 0, 1) := by decide +kernel
theorem dX6_ask_109 : decode cX6_ask 109 = .ok (.getfield 47, 3) := by decide +kernel
theorem dX6_ask_112 : decode cX6_ask 112 = .ok (.iload 6, 2) := by decide +kernel
theorem dX6_ask_114 : decode cX6_ask 114 = .ok (.iaload, 1) := by decide +kernel
theorem dX6_ask_115 : decode cX6_ask 115 = .ok (.invokestatic 172, 3) := by decide +kernel
theorem dX6_ask_118 : decode cX6_ask 118 = .ok (.istore 7, 2) := by decide +kernel
theorem dX6_ask_120 : decode cX6_ask 120 = .ok (.aload_n 0, 1) := by decide +kernel
theorem dX6_ask_121 : decode cX6_ask 121 = .ok (.getfield 50, 3) := by decide +kernel
theorem dX6_ask_124 : decode cX6_ask 124 = .ok (.iload 7, 2) := by decide +kernel
theorem dX6_ask_126 : decode cX6_ask 126 = .ok (.dup2, 1) := by decide +kernel
theorem dX6_ask_127 : decode cX6_ask 127 = .ok (.iaload, 1) := by decide +kernel
theorem dX6_ask_128 : decode cX6_ask 128 = .ok (.iconst 1, 1) := by decide +kernel
theorem dX6_ask_129 : decode cX6_ask 129 = .ok (.iadd, 1) := by decide +kernel
theorem dX6_ask_130 : decode cX6_ask 130 = .ok (.iastore, 1) := by decide +kernel
theorem dX6_ask_131 : decode cX6_ask 131 = .ok (.aload_n 0, 1) := by decide +kernel
theorem dX6_ask_132 : decode cX6_ask 132 = .ok (.getfield 50, 3) := by decide +kernel
theorem dX6_ask_135 : decode cX6_ask 135 = .ok (.iload 7, 2) := by decide +kernel
theorem dX6_ask_137 : decode cX6_ask 137 = .ok (.iaload, 1) := by decide +kernel
theorem dX6_ask_138 : decode cX6_ask 138 = .ok (.iload 5, 2) := by decide +kernel
theorem dX6_ask_140 : decode cX6_ask 140 = .ok (.if_icmp .le 13, 3) := by decide +kernel
theorem dX6_ask_143 : decode cX6_ask 143 = .ok (.aload_n 0, 1) := by decide +kernel
theorem dX6_ask_144 : decode cX6_ask 144 = .ok (.getfield 50, 3) := by decide +kernel
theorem dX6_ask_147 : decode cX6_ask 147 = .ok (.iload 7, 2) := by decide +kernel
theorem dX6_ask_149 : decode cX6_ask 149 = .ok (.iaload, 1) := by decide +kernel
theorem dX6_ask_150 : decode cX6_ask 150 = .ok (.goto 5, 3) := by decide +kernel
theorem dX6_ask_153 : decode cX6_ask 153 = .ok (.iload 5, 2) := by decide +kernel
theorem dX6_ask_155 : decode cX6_ask 155 = .ok (.istore 5, 2) := by decide +kernel
theorem dX6_ask_157 : decode cX6_ask 157 = .ok (.iinc 6 1, 3) := by decide +kernel
theorem dX6_ask_160 : decode cX6_ask 160 = .ok (.goto (-60), 3) := by decide +kernel
theorem dX6_ask_163 : decode cX6_ask 163 = .ok (.iload 5, 2) := by decide +kernel
theorem dX6_ask_165 : decode cX6_ask 165 = .ok (.iload_n 3, 1) := by decide +kernel
theorem dX6_ask_166 : decode cX6_ask 166 = .ok (.if_icmp .ge 8, 3) := by decide +kernel
theorem dX6_ask_169 : decode cX6_ask 169 = .ok (.iload 4, 2) := by decide +kernel
theorem dX6_ask_171 : decode cX6_ask 171 = .ok (.goto 4, 3) := by decide +kernel
theorem dX6_ask_174 : decode cX6_ask 174 = .ok (.iload_n 2, 1) := by decide +kernel
theorem dX6_ask_175 : decode cX6_ask 175 = .ok (.istore_n 2, 1) := by decide +kernel
theorem dX6_ask_176 : decode cX6_ask 176 = .ok (.iload 5, 2) := by decide +kernel
theorem dX6_ask_178 : decode cX6_ask 178 = .ok (.iload_n 3, 1) := by decide +kernel
theorem dX6_ask_179 : decode cX6_ask 179 = .ok (.if_icmp .ge 8, 3) := by decide +kernel
theorem dX6_ask_182 : decode cX6_ask 182 = .ok (.iload 5, 2) := by decide +kernel
theorem dX6_ask_184 : decode cX6_ask 184 = .ok (.goto 4, 3) := by decide +kernel
theorem dX6_ask_187 : decode cX6_ask 187 = .ok (.iload_n 3, 1) := by decide +kernel
theorem dX6_ask_188 : decode cX6_ask 188 = .ok (.istore_n 3, 1) := by decide +kernel
theorem dX6_ask_189 : decode cX6_ask 189 = .ok (.iinc 4 1, 3) := by decide +kernel
theorem dX6_ask_192 : decode cX6_ask 192 = .ok (.goto (-129), 3) := by decide +kernel
theorem dX6_ask_195 : decode cX6_ask 195 = .ok (.iload_n 2, 1) := by decide +kernel
theorem dX6_ask_196 : decode cX6_ask 196 = .ok (.ireturn, 1) := by decide +kernel
set_option maxHeartbeats 4000000 in
set_option maxRecDepth 100000 in
theorem c_X6_ask (E : GE) (l : Launch) (a0 : Nat → Nat) (M0 : Mo) (post : Int32 → Mo → Prop) (h : wp_X6_ask M0 post) : Met l yX6_ask (wz yX6_ask cX6_ask 8 (some .int)) { frames := 3, cells := 0, slots := 0, locals := 67 } (gPc E [.ref (a0 99)] (gW [bModel E a0 M0])) (gQi E (gW [bModel E a0 M0]) (fun r (u : Mo) => post r u) (fun (u : Mo) w => w = gW [bModel E a0 u])) 0 0 (gIn (gW [bModel E a0 M0])) := by
  unfold wp_X6_ask at h
  refine g_of_i (by decide) (Nat.le_of_ble_eq_true rfl) ?_
  intro p e s m below meth c A Q hx hb hml hown ht hE hP hD hret ls hl
  have hK := hE.1
  have hS : va_S A s.heap s.heap [] := va_S.rf
  have hl : lv_has ls 8 [(0, .ref (a0 99))] := hl
  refine lv_iconst (v := 0) hx hb dX6_ask_0 (by decide) ?_
  refine lv_istore_n (lv' := [(1, .int 0), (0, .ref (a0 99))]) hx hb dX6_ask_1 rfl hl (by decide) rfl (fun ls hl => ?_)
  refine lv_iconst (v := 0) hx hb dX6_ask_2 (by decide) ?_
  refine lv_istore_n (lv' := [(2, .int 0), (1, .int 0), (0, .ref (a0 99))]) hx hb dX6_ask_3 rfl hl (by decide) rfl (fun ls hl => ?_)
  have L4 : ∀ (n4 : Nat) (x1_4 : Int32) (x2_4 : Int32) (M0_4 : Mo) (H : Heap) (locs : List Loc) (ls : Array Slot), wp_X6_ask_L4 post n4 x1_4 x2_4 M0_4 → gP E (gW [bModel E a0 M0_4]) H → va_D A (gW [bModel E a0 M0_4]) → va_S A s.heap H locs → lv_has ls 8 [(0, .ref (a0 99)), (1, .int x1_4), (2, .int x2_4)] → W p l e { frames := 3, cells := 0, slots := 0, locals := 67 } s m ([.ref (a0 99)] : List Value).toArray below meth c H locs 0 0 Q (F0 m 4 ls []) := by
    intro n4
    induction n4 with
    | zero => intro x1_4 x2_4 M0_4 H locs ls h; exact h.elim
    | succ n4 ih4 =>
      intro x1_4 x2_4 M0_4 H locs ls h hP hD hS hl
      rw [wp_X6_ask_L4] at h
      refine lv_iload_n hx hb dX6_ask_4 rfl (lv_at hl 2 rfl) ?_
      refine lv_sipush (v := 1000) hx hb dX6_ask_5 (by decide) ?_
      refine lv_icmp_ge (tgt := 45) hx hb dX6_ask_8 (by decide) (fun c_39 => ?_) (fun c_39 => ?_)
      · have h := h.1 c_39
        refine lv_iload_n hx hb dX6_ask_45 rfl (lv_at hl 1 rfl) ?_
        refine lv_iconst (v := 2) hx hb dX6_ask_46 (by decide) ?_
        refine lv_icmp_ge (tgt := 53) hx hb dX6_ask_47 (by decide) (fun c_40 => ?_) (fun c_40 => ?_)
        · have h := h.1 c_40
          refine lv_bipush (v := (-9)) hx hb dX6_ask_53 (by decide) ?_
          refine lv_istore_n (lv' := [(2, .int (-9)), (0, .ref (a0 99)), (1, .int x1_4)]) hx hb dX6_ask_55 rfl hl (by decide) rfl (fun ls hl => ?_)
          refine lv_sipush (v := 251) hx hb dX6_ask_56 (by decide) ?_
          refine lv_istore_n (lv' := [(3, .int 251), (2, .int (-9)), (0, .ref (a0 99)), (1, .int x1_4)]) hx hb dX6_ask_59 rfl hl (by decide) rfl (fun ls hl => ?_)
          refine lv_iconst (v := 0) hx hb dX6_ask_60 (by decide) ?_
          refine lv_istore (lv' := [(4, .int 0), (3, .int 251), (2, .int (-9)), (0, .ref (a0 99)), (1, .int x1_4)]) hx hb dX6_ask_61 hl (by decide) rfl (fun ls hl => ?_)
          have L63 : ∀ (n63 : Nat) (x2_63 : Int32) (x3_63 : Int32) (x4_63 : Int32) (M0_63 : Mo) (H : Heap) (locs : List Loc) (ls : Array Slot), wp_X6_ask_L63 post x1_4 n63 x2_63 x3_63 x4_63 M0_63 → gP E (gW [bModel E a0 M0_63]) H → va_D A (gW [bModel E a0 M0_63]) → va_S A s.heap H locs → lv_has ls 8 [(0, .ref (a0 99)), (1, .int x1_4), (2, .int x2_63), (3, .int x3_63), (4, .int x4_63)] → W p l e { frames := 3, cells := 0, slots := 0, locals := 67 } s m ([.ref (a0 99)] : List Value).toArray below meth c H locs 0 0 Q (F0 m 63 ls []) := by
            intro n63
            induction n63 with
            | zero => intro x2_63 x3_63 x4_63 M0_63 H locs ls h; exact h.elim
            | succ n63 ih63 =>
              intro x2_63 x3_63 x4_63 M0_63 H locs ls h hP hD hS hl
              rw [wp_X6_ask_L63] at h
              refine lv_iload hx hb dX6_ask_63 (lv_at hl 4 rfl) ?_
              refine lv_sipush (v := 1000) hx hb dX6_ask_65 (by decide) ?_
              refine lv_icmp_ge (tgt := 195) hx hb dX6_ask_68 (by decide) (fun c_41 => ?_) (fun c_41 => ?_)
              · have h := h.1 c_41
                refine lv_iload_n hx hb dX6_ask_195 rfl (lv_at hl 2 rfl) ?_
                exact hret x2_63 M0_63 _ _ _ _ _ h rfl hP hD hS dX6_ask_196
              · have h := h.2 c_41
                refine lv_iconst (v := 0) hx hb dX6_ask_71 (by decide) ?_
                refine lv_istore (lv' := [(5, .int 0), (0, .ref (a0 99)), (1, .int x1_4), (2, .int x2_63), (3, .int x3_63), (4, .int x4_63)]) hx hb dX6_ask_72 hl (by decide) rfl (fun ls hl => ?_)
                refine lv_iconst (v := 0) hx hb dX6_ask_74 (by decide) ?_
                refine lv_istore (lv' := [(6, .int 0), (5, .int 0), (0, .ref (a0 99)), (1, .int x1_4), (2, .int x2_63), (3, .int x3_63), (4, .int x4_63)]) hx hb dX6_ask_75 hl (by decide) rfl (fun ls hl => ?_)
                have L77 : ∀ (n77 : Nat) (x6_77 : Int32) (M0_77 : Mo) (H : Heap) (locs : List Loc) (ls : Array Slot), wp_X6_ask_L77 post (fun x2_63 x3_63 x4_63 M0_63 => (wp_X6_ask_L63 post x1_4 n63 x2_63 x3_63 x4_63 M0_63)) x1_4 x2_63 x3_63 x4_63 0 n77 x6_77 M0_77 → gP E (gW [bModel E a0 M0_77]) H → va_D A (gW [bModel E a0 M0_77]) → va_S A s.heap H locs → lv_has ls 8 [(0, .ref (a0 99)), (1, .int x1_4), (2, .int x2_63), (3, .int x3_63), (4, .int x4_63), (5, .int 0), (6, .int x6_77)] → W p l e { frames := 3, cells := 0, slots := 0, locals := 67 } s m ([.ref (a0 99)] : List Value).toArray below meth c H locs 0 0 Q (F0 m 77 ls []) := by
                  intro n77
                  induction n77 with
                  | zero => intro x6_77 M0_77 H locs ls h; exact h.elim
                  | succ n77 ih77 =>
                    intro x6_77 M0_77 H locs ls h hP hD hS hl
                    rw [wp_X6_ask_L77] at h
                    refine lv_iload hx hb dX6_ask_77 (lv_at hl 6 rfl) ?_
                    refine lv_iconst (v := 4) hx hb dX6_ask_79 (by decide) ?_
                    refine lv_icmp_ge (tgt := 97) hx hb dX6_ask_80 (by decide) (fun c_42 => ?_) (fun c_42 => ?_)
                    · have h := h.1 c_42
                      refine lv_iconst (v := 0) hx hb dX6_ask_97 (by decide) ?_
                      refine lv_istore (lv' := [(6, .int 0), (0, .ref (a0 99)), (1, .int x1_4), (2, .int x2_63), (3, .int x3_63), (4, .int x4_63), (5, .int 0)]) hx hb dX6_ask_98 hl (by decide) rfl (fun ls hl => ?_)
                      have L100 : ∀ (n100 : Nat) (x5_100 : Int32) (x6_100 : Int32) (M0_100 : Mo) (H : Heap) (locs : List Loc) (ls : Array Slot), wp_X6_ask_L100 post (fun x2_63 x3_63 x4_63 M0_63 => (wp_X6_ask_L63 post x1_4 n63 x2_63 x3_63 x4_63 M0_63)) x1_4 x2_63 x3_63 x4_63 n100 x5_100 x6_100 M0_100 → gP E (gW [bModel E a0 M0_100]) H → va_D A (gW [bModel E a0 M0_100]) → va_S A s.heap H locs → lv_has ls 8 [(0, .ref (a0 99)), (1, .int x1_4), (2, .int x2_63), (3, .int x3_63), (4, .int x4_63), (5, .int x5_100), (6, .int x6_100)] → W p l e { frames := 3, cells := 0, slots := 0, locals := 67 } s m ([.ref (a0 99)] : List Value).toArray below meth c H locs 0 0 Q (F0 m 100 ls []) := by
                        intro n100
                        induction n100 with
                        | zero => intro x5_100 x6_100 M0_100 H locs ls h; exact h.elim
                        | succ n100 ih100 =>
                          intro x5_100 x6_100 M0_100 H locs ls h hP hD hS hl
                          rw [wp_X6_ask_L100] at h
                          refine lv_iload hx hb dX6_ask_100 (lv_at hl 6 rfl) ?_
                          refine lv_iload_n hx hb dX6_ask_102 rfl (lv_at hl 1 rfl) ?_
                          refine lv_icmp_ge (tgt := 163) hx hb dX6_ask_103 (by decide) (fun c_43 => ?_) (fun c_43 => ?_)
                          · have h := h.1 c_43
                            refine lv_iload hx hb dX6_ask_163 (lv_at hl 5 rfl) ?_
                            refine lv_iload_n hx hb dX6_ask_165 rfl (lv_at hl 3 rfl) ?_
                            refine lv_icmp_ge (tgt := 174) hx hb dX6_ask_166 (by decide) (fun c_44 => ?_) (fun c_44 => ?_)
                            · have h := h.1 c_44
                              refine lv_iload_n hx hb dX6_ask_174 rfl (lv_at hl 2 rfl) ?_
                              refine lv_istore_n (lv' := [(2, .int x2_63), (0, .ref (a0 99)), (1, .int x1_4), (3, .int x3_63), (4, .int x4_63), (5, .int x5_100), (6, .int x6_100)]) hx hb dX6_ask_175 rfl hl (by decide) rfl (fun ls hl => ?_)
                              refine lv_iload hx hb dX6_ask_176 (lv_at hl 5 rfl) ?_
                              refine lv_iload_n hx hb dX6_ask_178 rfl (lv_at hl 3 rfl) ?_
                              refine lv_icmp_ge (tgt := 187) hx hb dX6_ask_179 (by decide) (fun c_45 => ?_) (fun c_45 => ?_)
                              · have h := h.1 c_45
                                refine lv_iload_n hx hb dX6_ask_187 rfl (lv_at hl 3 rfl) ?_
                                refine lv_istore_n (lv' := [(3, .int x3_63), (2, .int x2_63), (0, .ref (a0 99)), (1, .int x1_4), (4, .int x4_63), (5, .int x5_100), (6, .int x6_100)]) hx hb dX6_ask_188 rfl hl (by decide) rfl (fun ls hl => ?_)
                                refine lv_iinc (v := (x4_63 + 1)) (lv' := [(4, .int (x4_63 + 1)), (3, .int x3_63), (2, .int x2_63), (0, .ref (a0 99)), (1, .int x1_4), (5, .int x5_100), (6, .int x6_100)]) hx hb dX6_ask_189 hl (k := 4) rfl rfl (by decide) rfl (fun ls hl => ?_)
                                refine lv_goto (tgt := 63) hx hb dX6_ask_192 (by decide) ?_
                                exact ih63 x2_63 x3_63 (x4_63 + 1) M0_100 _ _ _ h hP hD hS (lv_sub hl [3, 4, 2, 1, 0] rfl)
                              · have h := h.2 c_45
                                refine lv_iload hx hb dX6_ask_182 (lv_at hl 5 rfl) ?_
                                refine lv_goto (tgt := 188) hx hb dX6_ask_184 (by decide) ?_
                                refine lv_istore_n (lv' := [(3, .int x5_100), (2, .int x2_63), (0, .ref (a0 99)), (1, .int x1_4), (4, .int x4_63), (5, .int x5_100), (6, .int x6_100)]) hx hb dX6_ask_188 rfl hl (by decide) rfl (fun ls hl => ?_)
                                refine lv_iinc (v := (x4_63 + 1)) (lv' := [(4, .int (x4_63 + 1)), (3, .int x5_100), (2, .int x2_63), (0, .ref (a0 99)), (1, .int x1_4), (5, .int x5_100), (6, .int x6_100)]) hx hb dX6_ask_189 hl (k := 4) rfl rfl (by decide) rfl (fun ls hl => ?_)
                                refine lv_goto (tgt := 63) hx hb dX6_ask_192 (by decide) ?_
                                exact ih63 x2_63 x5_100 (x4_63 + 1) M0_100 _ _ _ h hP hD hS (lv_sub hl [3, 4, 2, 1, 0] rfl)
                            · have h := h.2 c_44
                              refine lv_iload hx hb dX6_ask_169 (lv_at hl 4 rfl) ?_
                              refine lv_goto (tgt := 175) hx hb dX6_ask_171 (by decide) ?_
                              refine lv_istore_n (lv' := [(2, .int x4_63), (0, .ref (a0 99)), (1, .int x1_4), (3, .int x3_63), (4, .int x4_63), (5, .int x5_100), (6, .int x6_100)]) hx hb dX6_ask_175 rfl hl (by decide) rfl (fun ls hl => ?_)
                              refine lv_iload hx hb dX6_ask_176 (lv_at hl 5 rfl) ?_
                              refine lv_iload_n hx hb dX6_ask_178 rfl (lv_at hl 3 rfl) ?_
                              refine lv_icmp_ge (tgt := 187) hx hb dX6_ask_179 (by decide) (fun c_46 => ?_) (fun c_46 => ?_)
                              · have h := h.1 c_46
                                refine lv_iload_n hx hb dX6_ask_187 rfl (lv_at hl 3 rfl) ?_
                                refine lv_istore_n (lv' := [(3, .int x3_63), (2, .int x4_63), (0, .ref (a0 99)), (1, .int x1_4), (4, .int x4_63), (5, .int x5_100), (6, .int x6_100)]) hx hb dX6_ask_188 rfl hl (by decide) rfl (fun ls hl => ?_)
                                refine lv_iinc (v := (x4_63 + 1)) (lv' := [(4, .int (x4_63 + 1)), (3, .int x3_63), (2, .int x4_63), (0, .ref (a0 99)), (1, .int x1_4), (5, .int x5_100), (6, .int x6_100)]) hx hb dX6_ask_189 hl (k := 4) rfl rfl (by decide) rfl (fun ls hl => ?_)
                                refine lv_goto (tgt := 63) hx hb dX6_ask_192 (by decide) ?_
                                exact ih63 x4_63 x3_63 (x4_63 + 1) M0_100 _ _ _ h hP hD hS (lv_sub hl [3, 4, 2, 1, 0] rfl)
                              · have h := h.2 c_46
                                refine lv_iload hx hb dX6_ask_182 (lv_at hl 5 rfl) ?_
                                refine lv_goto (tgt := 188) hx hb dX6_ask_184 (by decide) ?_
                                refine lv_istore_n (lv' := [(3, .int x5_100), (2, .int x4_63), (0, .ref (a0 99)), (1, .int x1_4), (4, .int x4_63), (5, .int x5_100), (6, .int x6_100)]) hx hb dX6_ask_188 rfl hl (by decide) rfl (fun ls hl => ?_)
                                refine lv_iinc (v := (x4_63 + 1)) (lv' := [(4, .int (x4_63 + 1)), (3, .int x5_100), (2, .int x4_63), (0, .ref (a0 99)), (1, .int x1_4), (5, .int x5_100), (6, .int x6_100)]) hx hb dX6_ask_189 hl (k := 4) rfl rfl (by decide) rfl (fun ls hl => ?_)
                                refine lv_goto (tgt := 63) hx hb dX6_ask_192 (by decide) ?_
                                exact ih63 x4_63 x5_100 (x4_63 + 1) M0_100 _ _ _ h hP hD hS (lv_sub hl [3, 4, 2, 1, 0] rfl)
                          · have h := h.2 c_43
                            refine lv_iload hx hb dX6_ask_106 (lv_at hl 4 rfl) ?_
                            refine lv_aload_n hx hb dX6_ask_108 rfl (lv_at hl 0 rfl) ?_
                            refine va_get (D := (E.1, E.2.1)) (ci := 6) (v := .ref (a0 24)) (C := RX6) (T := TX6) (N := 26) hx hb ht wu_X6 hown hK hP 0 rfl rfl 24 (by decide) (ht _ wk_X6_47) (fun _ h9 => h9) rfl dX6_ask_109 ?_
                            refine lv_iload hx hb dX6_ask_112 (lv_at hl 6 rfl) ?_
                            refine va_iald hx hb hK hP 12 0 rfl rfl h.1 dX6_ask_114 ?_
                            have h := h.2
                            have p1 := gB (n := 1) (bs := [bModel E a0 M0_100]) (bc := []) (br := [bModel E a0 M0_100]) [0] rfl rfl (by decide)
                            refine g_i (g_runS (As := [.int x4_63, .int (M0_100.1.2 24 x6_100.toNatClampNeg)]) (rest := []) ⟨hx, hb, hml, hown, ht⟩ hE (c_X6_rightOf E l x4_63 (M0_100.1.2 24 x6_100.toNatClampNeg) _ h) ⟨rfl, rfl⟩ wk_X6_172 wt_X6_rightOf wn_X6 wc_X6_rightOf yd_X6_rightOf ⟨Nat.le_of_ble_eq_true rfl, Nat.le_of_ble_eq_true rfl⟩ hP hD p1 rfl rfl hl.1 rfl (lv_room (Nat.le_of_ble_eq_true rfl)) dX6_ask_115 ⟨Nat.zero_le _, Nat.zero_le _⟩) hP hD hS p1 (fun r_47 _ w H locs h hw hP hD hS => ?_)
                            subst hw
                            clear p1
                            have p2 := gB (n := 1) (bs := [bModel E a0 M0_100]) (bc := []) (br := [bModel E a0 M0_100]) [0] rfl rfl (by decide)
                            have hP := gP_perm p2.symm hP
                            have hD := gD_perm p2.symm hD
                            clear p2
                            refine lv_istore (lv' := [(7, .int r_47), (0, .ref (a0 99)), (1, .int x1_4), (2, .int x2_63), (3, .int x3_63), (4, .int x4_63), (5, .int x5_100), (6, .int x6_100)]) hx hb dX6_ask_118 hl (by decide) rfl (fun ls hl => ?_)
                            refine lv_aload_n hx hb dX6_ask_120 rfl (lv_at hl 1 rfl) ?_
                            refine va_get (D := (E.1, E.2.1)) (ci := 6) (v := .ref (a0 25)) (C := RX6) (T := TX6) (N := 26) hx hb ht wu_X6 hown hK hP 0 rfl rfl 25 (by decide) (ht _ wk_X6_50) (fun _ h9 => h9) rfl dX6_ask_121 ?_
                            refine lv_iload hx hb dX6_ask_124 (lv_at hl 0 rfl) ?_
                            refine lv_dup2_11 hx hb dX6_ask_126 rfl rfl ?_
                            refine va_iald hx hb hK hP 13 0 rfl rfl h.1 dX6_ask_127 ?_
                            have h := h.2
                            refine lv_iconst (v := 1) hx hb dX6_ask_128 (by decide) ?_
                            refine lv_iadd hx hb dX6_ask_129 ?_
                            refine va_iast hx hb hK hP hD hS 13 0 rfl rfl h.1 dX6_ask_130 (fun H locs hP hD hS => ?_)
                            have h := h.2
                            have hP : gP E (gW [bModel E a0 (pma M0_100 25 (r_47.toNatClampNeg) ((M0_100.1.2 25 r_47.toNatClampNeg) + 1))]) H := hP
                            have hD : va_D A (gW [bModel E a0 (pma M0_100 25 (r_47.toNatClampNeg) ((M0_100.1.2 25 r_47.toNatClampNeg) + 1))]) := hD
                            obtain ⟨M_48, eM_48⟩ : ∃ z : Mo, z = (pma M0_100 25 (r_47.toNatClampNeg) ((M0_100.1.2 25 r_47.toNatClampNeg) + 1)) := ⟨_, rfl⟩
                            have h := h M_48 eM_48
                            rw [← eM_48] at hP hD
                            refine lv_aload_n hx hb dX6_ask_131 rfl (lv_at hl 1 rfl) ?_
                            refine va_get (D := (E.1, E.2.1)) (ci := 6) (v := .ref (a0 25)) (C := RX6) (T := TX6) (N := 26) hx hb ht wu_X6 hown hK hP 0 rfl rfl 25 (by decide) (ht _ wk_X6_50) (fun _ h9 => h9) rfl dX6_ask_132 ?_
                            refine lv_iload hx hb dX6_ask_135 (lv_at hl 0 rfl) ?_
                            refine va_iald hx hb hK hP 13 0 rfl rfl h.1 dX6_ask_137 ?_
                            have h := h.2
                            refine lv_iload hx hb dX6_ask_138 (lv_at hl 6 rfl) ?_
                            refine lv_icmp_le (tgt := 153) hx hb dX6_ask_140 (by decide) (fun c_49 => ?_) (fun c_49 => ?_)
                            · have h := h.1 c_49
                              refine lv_iload hx hb dX6_ask_153 (lv_at hl 6 rfl) ?_
                              refine lv_istore (lv' := [(5, .int x5_100), (7, .int r_47), (0, .ref (a0 99)), (1, .int x1_4), (2, .int x2_63), (3, .int x3_63), (4, .int x4_63), (6, .int x6_100)]) hx hb dX6_ask_155 hl (by decide) rfl (fun ls hl => ?_)
                              refine lv_iinc (v := (x6_100 + 1)) (lv' := [(6, .int (x6_100 + 1)), (5, .int x5_100), (7, .int r_47), (0, .ref (a0 99)), (1, .int x1_4), (2, .int x2_63), (3, .int x3_63), (4, .int x4_63)]) hx hb dX6_ask_157 hl (k := 7) rfl rfl (by decide) rfl (fun ls hl => ?_)
                              refine lv_goto (tgt := 100) hx hb dX6_ask_160 (by decide) ?_
                              exact ih100 x5_100 (x6_100 + 1) M_48 _ _ _ h hP hD hS (lv_sub hl [3, 4, 5, 6, 7, 1, 0] rfl)
                            · have h := h.2 c_49
                              refine lv_aload_n hx hb dX6_ask_143 rfl (lv_at hl 1 rfl) ?_
                              refine va_get (D := (E.1, E.2.1)) (ci := 6) (v := .ref (a0 25)) (C := RX6) (T := TX6) (N := 26) hx hb ht wu_X6 hown hK hP 0 rfl rfl 25 (by decide) (ht _ wk_X6_50) (fun _ h9 => h9) rfl dX6_ask_144 ?_
                              refine lv_iload hx hb dX6_ask_147 (lv_at hl 0 rfl) ?_
                              refine va_iald hx hb hK hP 13 0 rfl rfl h.1 dX6_ask_149 ?_
                              have h := h.2
                              refine lv_goto (tgt := 155) hx hb dX6_ask_150 (by decide) ?_
                              refine lv_istore (lv' := [(5, .int (M_48.1.2 25 r_47.toNatClampNeg)), (7, .int r_47), (0, .ref (a0 99)), (1, .int x1_4), (2, .int x2_63), (3, .int x3_63), (4, .int x4_63), (6, .int x6_100)]) hx hb dX6_ask_155 hl (by decide) rfl (fun ls hl => ?_)
                              refine lv_iinc (v := (x6_100 + 1)) (lv' := [(6, .int (x6_100 + 1)), (5, .int (M_48.1.2 25 r_47.toNatClampNeg)), (7, .int r_47), (0, .ref (a0 99)), (1, .int x1_4), (2, .int x2_63), (3, .int x3_63), (4, .int x4_63)]) hx hb dX6_ask_157 hl (k := 7) rfl rfl (by decide) rfl (fun ls hl => ?_)
                              refine lv_goto (tgt := 100) hx hb dX6_ask_160 (by decide) ?_
                              exact ih100 (M_48.1.2 25 r_47.toNatClampNeg) (x6_100 + 1) M_48 _ _ _ h hP hD hS (lv_sub hl [3, 4, 5, 6, 7, 1, 0] rfl)
                      obtain ⟨n100, h⟩ := h
                      exact L100 n100 0 0 M0_77 _ _ _ h hP hD hS (lv_sub hl [1, 2, 3, 4, 5, 6, 0] rfl)
                    · have h := h.2 c_42
                      refine lv_aload_n hx hb dX6_ask_83 rfl (lv_at hl 0 rfl) ?_
                      refine va_get (D := (E.1, E.2.1)) (ci := 6) (v := .ref (a0 25)) (C := RX6) (T := TX6) (N := 26) hx hb ht wu_X6 hown hK hP 0 rfl rfl 25 (by decide) (ht _ wk_X6_50) (fun _ h9 => h9) rfl dX6_ask_84 ?_
                      refine lv_iload hx hb dX6_ask_87 (lv_at hl 6 rfl) ?_
                      refine lv_iconst (v := 0) hx hb dX6_ask_89 (by decide) ?_
                      refine va_iast hx hb hK hP hD hS 13 0 rfl rfl h.1 dX6_ask_90 (fun H locs hP hD hS => ?_)
                      have h := h.2
                      have hP : gP E (gW [bModel E a0 (pma M0_77 25 (x6_77.toNatClampNeg) 0)]) H := hP
                      have hD : va_D A (gW [bModel E a0 (pma M0_77 25 (x6_77.toNatClampNeg) 0)]) := hD
                      refine lv_iinc (v := (x6_77 + 1)) (lv' := [(6, .int (x6_77 + 1)), (0, .ref (a0 99)), (1, .int x1_4), (2, .int x2_63), (3, .int x3_63), (4, .int x4_63), (5, .int 0)]) hx hb dX6_ask_91 hl (k := 6) rfl rfl (by decide) rfl (fun ls hl => ?_)
                      refine lv_goto (tgt := 77) hx hb dX6_ask_94 (by decide) ?_
                      exact ih77 (x6_77 + 1) (pma M0_77 25 (x6_77.toNatClampNeg) 0) _ _ _ h hP hD hS (lv_sub hl [1, 2, 3, 4, 5, 6, 0] rfl)
                obtain ⟨n77, h⟩ := h
                exact L77 n77 0 M0_63 _ _ _ h hP hD hS (lv_sub hl [2, 3, 4, 5, 6, 1, 0] rfl)
          obtain ⟨n63, h⟩ := h
          exact L63 n63 (-9) 251 0 M0_4 _ _ _ h hP hD hS (lv_sub hl [3, 4, 2, 1, 0] rfl)
        · have h := h.2 c_40
          refine lv_bipush (v := (-9)) hx hb dX6_ask_50 (by decide) ?_
          exact hret (-9) M0_4 _ _ _ _ _ h rfl hP hD hS dX6_ask_52
      · have h := h.2 c_39
        refine lv_aload_n hx hb dX6_ask_11 rfl (lv_at hl 0 rfl) ?_
        refine lv_iload_n hx hb dX6_ask_12 rfl (lv_at hl 2 rfl) ?_
        have p1 := gB (n := 1) (bs := [bModel E a0 M0_4]) (bc := [bModel E a0 M0_4]) (br := []) [0] rfl rfl (by decide)
        refine g_i (g_runV (As := [.int x2_4]) (rest := []) ⟨hx, hb, hml, hown, ht⟩ hE (c_X6_fits E l a0 M0_4 x2_4 _ h) ⟨rfl, rfl⟩ wk_X6_192 wi_X6_fits ws_X6_fits wn_X6 wc_X6_fits yd_X6_fits ⟨Nat.le_of_ble_eq_true rfl, Nat.le_of_ble_eq_true rfl⟩ hP hD p1 (ci := 6) rfl rfl rfl rfl rfl hl.1 rfl (lv_room (Nat.le_of_ble_eq_true rfl)) dX6_ask_13 ⟨Nat.zero_le _, Nat.zero_le _⟩) hP hD hS p1 (fun r_50 _ w H locs h hw hP hD hS => ?_)
        subst hw
        clear p1
        have p2 := gB (n := 1) (bs := [bModel E a0 M0_4]) (bc := [bModel E a0 M0_4]) (br := []) [0] rfl rfl (by decide)
        have hP := gP_perm p2.symm hP
        have hD := gD_perm p2.symm hD
        clear p2
        refine lv_if_eq (tgt := 39) hx hb dX6_ask_16 (by decide) (fun c_51 => ?_) (fun c_51 => ?_)
        · have h := h.1 c_51
          refine lv_iinc (v := (x2_4 + 1)) (lv' := [(2, .int (x2_4 + 1)), (0, .ref (a0 99)), (1, .int x1_4)]) hx hb dX6_ask_39 hl (k := 2) rfl rfl (by decide) rfl (fun ls hl => ?_)
          refine lv_goto (tgt := 4) hx hb dX6_ask_42 (by decide) ?_
          exact ih4 x1_4 (x2_4 + 1) M0_4 _ _ _ h hP hD hS (lv_sub hl [1, 2, 0] rfl)
        · have h := h.2 c_51
          refine lv_iload_n hx hb dX6_ask_19 rfl (lv_at hl 1 rfl) ?_
          refine lv_sipush (v := 250) hx hb dX6_ask_20 (by decide) ?_
          refine lv_icmp_ne (tgt := 29) hx hb dX6_ask_23 (by decide) (fun c_52 => ?_) (fun c_52 => ?_)
          · have h := h.1 c_52
            refine lv_aload_n hx hb dX6_ask_29 rfl (lv_at hl 0 rfl) ?_
            refine va_get (D := (E.1, E.2.1)) (ci := 6) (v := .ref (a0 24)) (C := RX6) (T := TX6) (N := 26) hx hb ht wu_X6 hown hK hP 0 rfl rfl 24 (by decide) (ht _ wk_X6_47) (fun _ h9 => h9) rfl dX6_ask_30 ?_
            refine lv_iload_n hx hb dX6_ask_33 rfl (lv_at hl 1 rfl) ?_
            refine lv_iload_n hx hb dX6_ask_34 rfl (lv_at hl 2 rfl) ?_
            refine va_iast hx hb hK hP hD hS 12 0 rfl rfl h.1 dX6_ask_35 (fun H locs hP hD hS => ?_)
            have h := h.2
            have hP : gP E (gW [bModel E a0 (pma M0_4 24 (x1_4.toNatClampNeg) x2_4)]) H := hP
            have hD : va_D A (gW [bModel E a0 (pma M0_4 24 (x1_4.toNatClampNeg) x2_4)]) := hD
            refine lv_iinc (v := (x1_4 + 1)) (lv' := [(1, .int (x1_4 + 1)), (0, .ref (a0 99)), (2, .int x2_4)]) hx hb dX6_ask_36 hl (k := 1) rfl rfl (by decide) rfl (fun ls hl => ?_)
            refine lv_iinc (v := (x2_4 + 1)) (lv' := [(2, .int (x2_4 + 1)), (1, .int (x1_4 + 1)), (0, .ref (a0 99))]) hx hb dX6_ask_39 hl (k := 2) rfl rfl (by decide) rfl (fun ls hl => ?_)
            refine lv_goto (tgt := 4) hx hb dX6_ask_42 (by decide) ?_
            exact ih4 (x1_4 + 1) (x2_4 + 1) (pma M0_4 24 (x1_4.toNatClampNeg) x2_4) _ _ _ h hP hD hS (lv_sub hl [2, 1, 0] rfl)
          · have h := h.2 c_52
            refine lv_bipush (v := (-9)) hx hb dX6_ask_26 (by decide) ?_
            exact hret (-9) M0_4 _ _ _ _ _ h rfl hP hD hS dX6_ask_28
  obtain ⟨n4, h⟩ := h
  exact L4 n4 0 0 M0 _ _ _ h hP hD hS (lv_sub hl [2, 1, 0] rfl)
theorem dX6_asLock_0 : decode cX6_asLock 0 = .ok (.aload_n 0, 1) := by decide +kernel
theorem dX6_asLock_1 : decode cX6_asLock 1 = .ok (.dup, 1) := by decide +kernel
theorem dX6_asLock_2 : decode cX6_asLock 2 = .ok (.getfield 195, 3) := by decide +kernel
theorem dX6_asLock_5 : decode cX6_asLock 5 = .ok (.lconst 1, 1) := by decide +kernel
theorem dX6_asLock_6 : decode cX6_asLock 6 = .ok (.ladd, 1) := by decide +kernel
theorem dX6_asLock_7 : decode cX6_asLock 7 = .ok (.putfield 195, 3) := by decide +kernel
theorem dX6_asLock_10 : decode cX6_asLock 10 = .ok (.aload_n 0, 1) := by decide +kernel
theorem dX6_asLock_11 : decode cX6_asLock 11 = .ok (.iload_n 1, 1) := by decide +kernel
theorem dX6_asLock_12 : decode cX6_asLock 12 = .ok (.invokevirtual 152, 3) := by decide +kernel
theorem dX6_asLock_15 : decode cX6_asLock 15 = .ok (.invokestatic 169, 3) := by decide +kernel
theorem dX6_asLock_18 : decode cX6_asLock 18 = .ok (.ireturn, 1) := by decide +kernel
set_option maxHeartbeats 4000000 in
set_option maxRecDepth 100000 in
theorem c_X6_asLock (E : GE) (l : Launch) (a0 : Nat → Nat) (M0 : Mo) (x1 : Int32) (post : Int32 → Mo → Prop) (h : wp_X6_asLock M0 x1 post) : Met l yX6_asLock (wz yX6_asLock cX6_asLock 2 (some .int)) { frames := 2, cells := 0, slots := 0, locals := 44 } (gPc E [.ref (a0 99), .int x1] (gW [bModel E a0 M0])) (gQi E (gW [bModel E a0 M0]) (fun r (u : Mo) => post r u) (fun (u : Mo) w => w = gW [bModel E a0 u])) 0 0 (gIn (gW [bModel E a0 M0])) := by
  unfold wp_X6_asLock at h
  refine g_of_i (by decide) (Nat.le_of_ble_eq_true rfl) ?_
  intro p e s m below meth c A Q hx hb hml hown ht hE hP hD hret ls hl
  have hK := hE.1
  have hS : va_S A s.heap s.heap [] := va_S.rf
  have hl : lv_has ls 2 [(0, .ref (a0 99)), (1, .int x1)] := hl
  refine lv_aload_n hx hb dX6_asLock_0 rfl (lv_at hl 0 rfl) ?_
  refine lv_dup hx hb dX6_asLock_1 rfl ?_
  refine va_get (D := (E.1, E.2.1)) (ci := 6) (v := .long (M0.2)) (C := RX6) (T := TX6) (N := 26) hx hb ht wu_X6 hown hK hP 0 rfl rfl 19 (by decide) (ht _ wk_X6_195) (fun _ h9 => h9) rfl dX6_asLock_2 ?_
  refine lv_lconst (v := 1) hx hb dX6_asLock_5 (by decide) ?_
  refine lv_ladd hx hb dX6_asLock_6 ?_
  refine va_put (D := (E.1, E.2.1)) (ci := 6) (v := .long (M0.2 + 1)) (ty := .long) (C := RX6) (T := TX6) (N := 26) hx hb ht wu_X6 tyX6 tyX6_ok nmX6 hown hK hP hD hS 0 rfl rfl 19 (by decide) (ht _ wk_X6_195) (fun _ h9 => h9) rfl (by decide +kernel) rfl rfl (Nat.le_of_ble_eq_true rfl) dX6_asLock_7 (fun H locs hP hD hS => ?_)
  have hP : gP E (gW [bModel E a0 (pmt M0 (M0.2 + 1))]) H := hP
  have hD : va_D A (gW [bModel E a0 (pmt M0 (M0.2 + 1))]) := hD
  refine lv_aload_n hx hb dX6_asLock_10 rfl (lv_at hl 0 rfl) ?_
  refine lv_iload_n hx hb dX6_asLock_11 rfl (lv_at hl 1 rfl) ?_
  have p1 := gB (n := 1) (bs := [bModel E a0 (pmt M0 (M0.2 + 1))]) (bc := [bModel E a0 (pmt M0 (M0.2 + 1))]) (br := []) [0] rfl rfl (by decide)
  refine g_i (g_runV (As := [.int x1]) (rest := []) ⟨hx, hb, hml, hown, ht⟩ hE (c_X6_knowers E l a0 (pmt M0 (M0.2 + 1)) x1 _ h) ⟨rfl, rfl⟩ wk_X6_152 wi_X6_knowers ws_X6_knowers wn_X6 wc_X6_knowers yd_X6_knowers ⟨Nat.le_of_ble_eq_true rfl, Nat.le_of_ble_eq_true rfl⟩ hP hD p1 (ci := 6) rfl rfl rfl rfl rfl hl.1 rfl (lv_room (Nat.le_of_ble_eq_true rfl)) dX6_asLock_12 ⟨Nat.zero_le _, Nat.zero_le _⟩) hP hD hS p1 (fun r_1 _ w H locs h hw hP hD hS => ?_)
  subst hw
  clear p1
  have p2 := gB (n := 1) (bs := [bModel E a0 (pmt M0 (M0.2 + 1))]) (bc := [bModel E a0 (pmt M0 (M0.2 + 1))]) (br := []) [0] rfl rfl (by decide)
  have hP := gP_perm p2.symm hP
  have hD := gD_perm p2.symm hD
  clear p2
  have p1 := gB (n := 1) (bs := [bModel E a0 (pmt M0 (M0.2 + 1))]) (bc := []) (br := [bModel E a0 (pmt M0 (M0.2 + 1))]) [0] rfl rfl (by decide)
  refine g_i (g_runS (As := [.int r_1]) (rest := []) ⟨hx, hb, hml, hown, ht⟩ hE (c_X6_ones E l r_1 _ h) ⟨rfl, rfl⟩ wk_X6_169 wt_X6_ones wn_X6 wc_X6_ones yd_X6_ones ⟨Nat.le_of_ble_eq_true rfl, Nat.le_of_ble_eq_true rfl⟩ hP hD p1 rfl rfl hl.1 rfl (lv_room (Nat.le_of_ble_eq_true rfl)) dX6_asLock_15 ⟨Nat.zero_le _, Nat.zero_le _⟩) hP hD hS p1 (fun r_2 _ w H locs h hw hP hD hS => ?_)
  subst hw
  clear p1
  have p2 := gB (n := 1) (bs := [bModel E a0 (pmt M0 (M0.2 + 1))]) (bc := []) (br := [bModel E a0 (pmt M0 (M0.2 + 1))]) [0] rfl rfl (by decide)
  have hP := gP_perm p2.symm hP
  have hD := gD_perm p2.symm hD
  clear p2
  exact hret r_2 (pmt M0 (M0.2 + 1)) _ _ _ _ _ h rfl hP hD hS dX6_asLock_18
theorem dX6_asBrass_0 : decode cX6_asBrass 0 = .ok (.aload_n 0, 1) := by decide +kernel
theorem dX6_asBrass_1 : decode cX6_asBrass 1 = .ok (.dup, 1) := by decide +kernel
theorem dX6_asBrass_2 : decode cX6_asBrass 2 = .ok (.getfield 195, 3) := by decide +kernel
theorem dX6_asBrass_5 : decode cX6_asBrass 5 = .ok (.ldc2_w 188, 3) := by decide +kernel
theorem dX6_asBrass_8 : decode cX6_asBrass 8 = .ok (.ladd, 1) := by decide +kernel
theorem dX6_asBrass_9 : decode cX6_asBrass 9 = .ok (.putfield 195, 3) := by decide +kernel
theorem dX6_asBrass_12 : decode cX6_asBrass 12 = .ok (.aload_n 0, 1) := by decide +kernel
theorem dX6_asBrass_13 : decode cX6_asBrass 13 = .ok (.iload_n 1, 1) := by decide +kernel
theorem dX6_asBrass_14 : decode cX6_asBrass 14 = .ok (.invokevirtual 199, 3) := by decide +kernel
theorem dX6_asBrass_17 : decode cX6_asBrass 17 = .ok (.aload_n 0, 1) := by decide +kernel
theorem dX6_asBrass_18 : decode cX6_asBrass 18 = .ok (.getfield 23, 3) := by decide +kernel
theorem dX6_asBrass_21 : decode cX6_asBrass 21 = .ok (.bipush 18, 2) := by decide +kernel
theorem dX6_asBrass_23 : decode cX6_asBrass 23 = .ok (.iload_n 1, 1) := by decide +kernel
theorem dX6_asBrass_24 : decode cX6_asBrass 24 = .ok (.iadd, 1) := by decide +kernel
theorem dX6_asBrass_25 : decode cX6_asBrass 25 = .ok (.iaload, 1) := by decide +kernel
theorem dX6_asBrass_26 : decode cX6_asBrass 26 = .ok (.aload_n 0, 1) := by decide +kernel
theorem dX6_asBrass_27 : decode cX6_asBrass 27 = .ok (.getfield 23, 3) := by decide +kernel
theorem dX6_asBrass_30 : decode cX6_asBrass 30 = .ok (.bipush 10, 2) := by decide +kernel
theorem dX6_asBrass_32 : decode cX6_asBrass 32 = .ok (.iload_n 1, 1) := by decide +kernel
theorem dX6_asBrass_33 : decode cX6_asBrass 33 = .ok (.iadd, 1) := by decide +kernel
theorem dX6_asBrass_34 : decode cX6_asBrass 34 = .ok (.iaload, 1) := by decide +kernel
theorem dX6_asBrass_35 : decode cX6_asBrass 35 = .ok (.invokestatic 155, 3) := by decide +kernel
theorem dX6_asBrass_38 : decode cX6_asBrass 38 = .ok (.iadd, 1) := by decide +kernel
theorem dX6_asBrass_39 : decode cX6_asBrass 39 = .ok (.ireturn, 1) := by decide +kernel
set_option maxHeartbeats 4000000 in
set_option maxRecDepth 100000 in
theorem c_X6_asBrass (E : GE) (l : Launch) (a0 : Nat → Nat) (M0 : Mo) (x1 : Int32) (post : Int32 → Mo → Prop) (h : wp_X6_asBrass M0 x1 post) : Met l yX6_asBrass (wz yX6_asBrass cX6_asBrass 2 (some .int)) { frames := 3, cells := 0, slots := 0, locals := 65 } (gPc E [.ref (a0 99), .int x1] (gW [bModel E a0 M0])) (gQi E (gW [bModel E a0 M0]) (fun r (u : Mo) => post r u) (fun (u : Mo) w => w = gW [bModel E a0 u])) 0 0 (gIn (gW [bModel E a0 M0])) := by
  unfold wp_X6_asBrass at h
  refine g_of_i (by decide) (Nat.le_of_ble_eq_true rfl) ?_
  intro p e s m below meth c A Q hx hb hml hown ht hE hP hD hret ls hl
  have hK := hE.1
  have hS : va_S A s.heap s.heap [] := va_S.rf
  have hl : lv_has ls 2 [(0, .ref (a0 99)), (1, .int x1)] := hl
  refine lv_aload_n hx hb dX6_asBrass_0 rfl (lv_at hl 0 rfl) ?_
  refine lv_dup hx hb dX6_asBrass_1 rfl ?_
  refine va_get (D := (E.1, E.2.1)) (ci := 6) (v := .long (M0.2)) (C := RX6) (T := TX6) (N := 26) hx hb ht wu_X6 hown hK hP 0 rfl rfl 19 (by decide) (ht _ wk_X6_195) (fun _ h9 => h9) rfl dX6_asBrass_2 ?_
  refine lv_ldc2 hx hb hown (ht _ wk_X6_188) dX6_asBrass_5 ?_
  refine lv_ladd hx hb dX6_asBrass_8 ?_
  refine va_put (D := (E.1, E.2.1)) (ci := 6) (v := .long (M0.2 + 10)) (ty := .long) (C := RX6) (T := TX6) (N := 26) hx hb ht wu_X6 tyX6 tyX6_ok nmX6 hown hK hP hD hS 0 rfl rfl 19 (by decide) (ht _ wk_X6_195) (fun _ h9 => h9) rfl (by decide +kernel) rfl rfl (Nat.le_of_ble_eq_true rfl) dX6_asBrass_9 (fun H locs hP hD hS => ?_)
  have hP : gP E (gW [bModel E a0 (pmt M0 (M0.2 + 10))]) H := hP
  have hD : va_D A (gW [bModel E a0 (pmt M0 (M0.2 + 10))]) := hD
  refine lv_aload_n hx hb dX6_asBrass_12 rfl (lv_at hl 0 rfl) ?_
  refine lv_iload_n hx hb dX6_asBrass_13 rfl (lv_at hl 1 rfl) ?_
  have p1 := gB (n := 1) (bs := [bModel E a0 (pmt M0 (M0.2 + 10))]) (bc := [bModel E a0 (pmt M0 (M0.2 + 10))]) (br := []) [0] rfl rfl (by decide)
  refine g_i (g_runV (As := [.int x1]) (rest := []) ⟨hx, hb, hml, hown, ht⟩ hE (c_X6_asLock E l a0 (pmt M0 (M0.2 + 10)) x1 _ h) ⟨rfl, rfl⟩ wk_X6_199 wi_X6_asLock ws_X6_asLock wn_X6 wc_X6_asLock yd_X6_asLock ⟨Nat.le_of_ble_eq_true rfl, Nat.le_of_ble_eq_true rfl⟩ hP hD p1 (ci := 6) rfl rfl rfl rfl rfl hl.1 rfl (lv_room (Nat.le_of_ble_eq_true rfl)) dX6_asBrass_14 ⟨Nat.zero_le _, Nat.zero_le _⟩) hP hD hS p1 (fun r_1 M_2 w H locs h hw hP hD hS => ?_)
  subst hw
  clear p1
  have p2 := gB (n := 1) (bs := [bModel E a0 M_2]) (bc := [bModel E a0 M_2]) (br := []) [0] rfl rfl (by decide)
  have hP := gP_perm p2.symm hP
  have hD := gD_perm p2.symm hD
  clear p2
  refine lv_aload_n hx hb dX6_asBrass_17 rfl (lv_at hl 0 rfl) ?_
  refine va_get (D := (E.1, E.2.1)) (ci := 6) (v := .ref (a0 7)) (C := RX6) (T := TX6) (N := 26) hx hb ht wu_X6 hown hK hP 0 rfl rfl 7 (by decide) (ht _ wk_X6_23) (fun _ h9 => h9) rfl dX6_asBrass_18 ?_
  refine lv_bipush (v := 18) hx hb dX6_asBrass_21 (by decide) ?_
  refine lv_iload_n hx hb dX6_asBrass_23 rfl (lv_at hl 1 rfl) ?_
  refine lv_iadd hx hb dX6_asBrass_24 ?_
  refine va_iald hx hb hK hP 4 0 rfl rfl h.1 dX6_asBrass_25 ?_
  have h := h.2
  refine lv_aload_n hx hb dX6_asBrass_26 rfl (lv_at hl 0 rfl) ?_
  refine va_get (D := (E.1, E.2.1)) (ci := 6) (v := .ref (a0 7)) (C := RX6) (T := TX6) (N := 26) hx hb ht wu_X6 hown hK hP 0 rfl rfl 7 (by decide) (ht _ wk_X6_23) (fun _ h9 => h9) rfl dX6_asBrass_27 ?_
  refine lv_bipush (v := 10) hx hb dX6_asBrass_30 (by decide) ?_
  refine lv_iload_n hx hb dX6_asBrass_32 rfl (lv_at hl 1 rfl) ?_
  refine lv_iadd hx hb dX6_asBrass_33 ?_
  refine va_iald hx hb hK hP 4 0 rfl rfl h.1 dX6_asBrass_34 ?_
  have h := h.2
  have p1 := gB (n := 1) (bs := [bModel E a0 M_2]) (bc := []) (br := [bModel E a0 M_2]) [0] rfl rfl (by decide)
  refine g_i (g_runS (As := [.int (M_2.1.2 7 (18 + x1).toNatClampNeg), .int (M_2.1.2 7 (10 + x1).toNatClampNeg)]) (rest := [.int r_1]) ⟨hx, hb, hml, hown, ht⟩ hE (c_X6_stepsOf E l (M_2.1.2 7 (18 + x1).toNatClampNeg) (M_2.1.2 7 (10 + x1).toNatClampNeg) _ h) ⟨rfl, rfl⟩ wk_X6_155 wt_X6_stepsOf wn_X6 wc_X6_stepsOf yd_X6_stepsOf ⟨Nat.le_of_ble_eq_true rfl, Nat.le_of_ble_eq_true rfl⟩ hP hD p1 rfl rfl hl.1 rfl (lv_room (Nat.le_of_ble_eq_true rfl)) dX6_asBrass_35 ⟨Nat.zero_le _, Nat.zero_le _⟩) hP hD hS p1 (fun r_3 _ w H locs h hw hP hD hS => ?_)
  subst hw
  clear p1
  have p2 := gB (n := 1) (bs := [bModel E a0 M_2]) (bc := []) (br := [bModel E a0 M_2]) [0] rfl rfl (by decide)
  have hP := gP_perm p2.symm hP
  have hD := gD_perm p2.symm hD
  clear p2
  refine lv_iadd hx hb dX6_asBrass_38 ?_
  exact hret (r_1 + r_3) M_2 _ _ _ _ _ h rfl hP hD hS dX6_asBrass_39
theorem dX6_asRusty_0 : decode cX6_asRusty 0 = .ok (.aload_n 0, 1) := by decide +kernel
theorem dX6_asRusty_1 : decode cX6_asRusty 1 = .ok (.dup, 1) := by decide +kernel
theorem dX6_asRusty_2 : decode cX6_asRusty 2 = .ok (.getfield 195, 3) := by decide +kernel
theorem dX6_asRusty_5 : decode cX6_asRusty 5 = .ok (.ldc2_w 202, 3) := by decide +kernel
theorem dX6_asRusty_8 : decode cX6_asRusty 8 = .ok (.ladd, 1) := by decide +kernel
theorem dX6_asRusty_9 : decode cX6_asRusty 9 = .ok (.putfield 195, 3) := by decide +kernel
theorem dX6_asRusty_12 : decode cX6_asRusty 12 = .ok (.aload_n 0, 1) := by decide +kernel
theorem dX6_asRusty_13 : decode cX6_asRusty 13 = .ok (.iload_n 1, 1) := by decide +kernel
theorem dX6_asRusty_14 : decode cX6_asRusty 14 = .ok (.invokevirtual 199, 3) := by decide +kernel
theorem dX6_asRusty_17 : decode cX6_asRusty 17 = .ok (.aload_n 0, 1) := by decide +kernel
theorem dX6_asRusty_18 : decode cX6_asRusty 18 = .ok (.getfield 23, 3) := by decide +kernel
theorem dX6_asRusty_21 : decode cX6_asRusty 21 = .ok (.bipush 8, 2) := by decide +kernel
theorem dX6_asRusty_23 : decode cX6_asRusty 23 = .ok (.iaload, 1) := by decide +kernel
theorem dX6_asRusty_24 : decode cX6_asRusty 24 = .ok (.isub, 1) := by decide +kernel
theorem dX6_asRusty_25 : decode cX6_asRusty 25 = .ok (.ireturn, 1) := by decide +kernel
set_option maxHeartbeats 4000000 in
set_option maxRecDepth 100000 in
theorem c_X6_asRusty (E : GE) (l : Launch) (a0 : Nat → Nat) (M0 : Mo) (x1 : Int32) (post : Int32 → Mo → Prop) (h : wp_X6_asRusty M0 x1 post) : Met l yX6_asRusty (wz yX6_asRusty cX6_asRusty 2 (some .int)) { frames := 3, cells := 0, slots := 0, locals := 65 } (gPc E [.ref (a0 99), .int x1] (gW [bModel E a0 M0])) (gQi E (gW [bModel E a0 M0]) (fun r (u : Mo) => post r u) (fun (u : Mo) w => w = gW [bModel E a0 u])) 0 0 (gIn (gW [bModel E a0 M0])) := by
  unfold wp_X6_asRusty at h
  refine g_of_i (by decide) (Nat.le_of_ble_eq_true rfl) ?_
  intro p e s m below meth c A Q hx hb hml hown ht hE hP hD hret ls hl
  have hK := hE.1
  have hS : va_S A s.heap s.heap [] := va_S.rf
  have hl : lv_has ls 2 [(0, .ref (a0 99)), (1, .int x1)] := hl
  refine lv_aload_n hx hb dX6_asRusty_0 rfl (lv_at hl 0 rfl) ?_
  refine lv_dup hx hb dX6_asRusty_1 rfl ?_
  refine va_get (D := (E.1, E.2.1)) (ci := 6) (v := .long (M0.2)) (C := RX6) (T := TX6) (N := 26) hx hb ht wu_X6 hown hK hP 0 rfl rfl 19 (by decide) (ht _ wk_X6_195) (fun _ h9 => h9) rfl dX6_asRusty_2 ?_
  refine lv_ldc2 hx hb hown (ht _ wk_X6_202) dX6_asRusty_5 ?_
  refine lv_ladd hx hb dX6_asRusty_8 ?_
  refine va_put (D := (E.1, E.2.1)) (ci := 6) (v := .long (M0.2 + 100)) (ty := .long) (C := RX6) (T := TX6) (N := 26) hx hb ht wu_X6 tyX6 tyX6_ok nmX6 hown hK hP hD hS 0 rfl rfl 19 (by decide) (ht _ wk_X6_195) (fun _ h9 => h9) rfl (by decide +kernel) rfl rfl (Nat.le_of_ble_eq_true rfl) dX6_asRusty_9 (fun H locs hP hD hS => ?_)
  have hP : gP E (gW [bModel E a0 (pmt M0 (M0.2 + 100))]) H := hP
  have hD : va_D A (gW [bModel E a0 (pmt M0 (M0.2 + 100))]) := hD
  refine lv_aload_n hx hb dX6_asRusty_12 rfl (lv_at hl 0 rfl) ?_
  refine lv_iload_n hx hb dX6_asRusty_13 rfl (lv_at hl 1 rfl) ?_
  have p1 := gB (n := 1) (bs := [bModel E a0 (pmt M0 (M0.2 + 100))]) (bc := [bModel E a0 (pmt M0 (M0.2 + 100))]) (br := []) [0] rfl rfl (by decide)
  refine g_i (g_runV (As := [.int x1]) (rest := []) ⟨hx, hb, hml, hown, ht⟩ hE (c_X6_asLock E l a0 (pmt M0 (M0.2 + 100)) x1 _ h) ⟨rfl, rfl⟩ wk_X6_199 wi_X6_asLock ws_X6_asLock wn_X6 wc_X6_asLock yd_X6_asLock ⟨Nat.le_of_ble_eq_true rfl, Nat.le_of_ble_eq_true rfl⟩ hP hD p1 (ci := 6) rfl rfl rfl rfl rfl hl.1 rfl (lv_room (Nat.le_of_ble_eq_true rfl)) dX6_asRusty_14 ⟨Nat.zero_le _, Nat.zero_le _⟩) hP hD hS p1 (fun r_1 M_2 w H locs h hw hP hD hS => ?_)
  subst hw
  clear p1
  have p2 := gB (n := 1) (bs := [bModel E a0 M_2]) (bc := [bModel E a0 M_2]) (br := []) [0] rfl rfl (by decide)
  have hP := gP_perm p2.symm hP
  have hD := gD_perm p2.symm hD
  clear p2
  refine lv_aload_n hx hb dX6_asRusty_17 rfl (lv_at hl 0 rfl) ?_
  refine va_get (D := (E.1, E.2.1)) (ci := 6) (v := .ref (a0 7)) (C := RX6) (T := TX6) (N := 26) hx hb ht wu_X6 hown hK hP 0 rfl rfl 7 (by decide) (ht _ wk_X6_23) (fun _ h9 => h9) rfl dX6_asRusty_18 ?_
  refine lv_bipush (v := 8) hx hb dX6_asRusty_21 (by decide) ?_
  refine va_iald hx hb hK hP 4 0 rfl rfl (by unfold vp_in; decide) dX6_asRusty_23 ?_
  refine lv_asi (x' := (M_2.1.2 7 8)) rfl ?_
  refine lv_isub hx hb dX6_asRusty_24 ?_
  exact hret (r_1 - (M_2.1.2 7 8)) M_2 _ _ _ _ _ h rfl hP hD hS dX6_asRusty_25
theorem dX6_asDouble_0 : decode cX6_asDouble 0 = .ok (.aload_n 0, 1) := by decide +kernel
theorem dX6_asDouble_1 : decode cX6_asDouble 1 = .ok (.dup, 1) := by decide +kernel
theorem dX6_asDouble_2 : decode cX6_asDouble 2 = .ok (.getfield 195, 3) := by decide +kernel
theorem dX6_asDouble_5 : decode cX6_asDouble 5 = .ok (.ldc2_w 204, 3) := by decide +kernel
theorem dX6_asDouble_8 : decode cX6_asDouble 8 = .ok (.ladd, 1) := by decide +kernel
theorem dX6_asDouble_9 : decode cX6_asDouble 9 = .ok (.putfield 195, 3) := by decide +kernel
theorem dX6_asDouble_12 : decode cX6_asDouble 12 = .ok (.aload_n 0, 1) := by decide +kernel
theorem dX6_asDouble_13 : decode cX6_asDouble 13 = .ok (.iload_n 1, 1) := by decide +kernel
theorem dX6_asDouble_14 : decode cX6_asDouble 14 = .ok (.invokevirtual 206, 3) := by decide +kernel
theorem dX6_asDouble_17 : decode cX6_asDouble 17 = .ok (.iconst 2, 1) := by decide +kernel
theorem dX6_asDouble_18 : decode cX6_asDouble 18 = .ok (.imul, 1) := by decide +kernel
theorem dX6_asDouble_19 : decode cX6_asDouble 19 = .ok (.ireturn, 1) := by decide +kernel
set_option maxHeartbeats 4000000 in
set_option maxRecDepth 100000 in
theorem c_X6_asDouble (E : GE) (l : Launch) (a0 : Nat → Nat) (M0 : Mo) (x1 : Int32) (post : Int32 → Mo → Prop) (h : wp_X6_asDouble M0 x1 post) : Met l yX6_asDouble (wz yX6_asDouble cX6_asDouble 2 (some .int)) { frames := 4, cells := 0, slots := 0, locals := 86 } (gPc E [.ref (a0 99), .int x1] (gW [bModel E a0 M0])) (gQi E (gW [bModel E a0 M0]) (fun r (u : Mo) => post r u) (fun (u : Mo) w => w = gW [bModel E a0 u])) 0 0 (gIn (gW [bModel E a0 M0])) := by
  unfold wp_X6_asDouble at h
  refine g_of_i (by decide) (Nat.le_of_ble_eq_true rfl) ?_
  intro p e s m below meth c A Q hx hb hml hown ht hE hP hD hret ls hl
  have hK := hE.1
  have hS : va_S A s.heap s.heap [] := va_S.rf
  have hl : lv_has ls 2 [(0, .ref (a0 99)), (1, .int x1)] := hl
  refine lv_aload_n hx hb dX6_asDouble_0 rfl (lv_at hl 0 rfl) ?_
  refine lv_dup hx hb dX6_asDouble_1 rfl ?_
  refine va_get (D := (E.1, E.2.1)) (ci := 6) (v := .long (M0.2)) (C := RX6) (T := TX6) (N := 26) hx hb ht wu_X6 hown hK hP 0 rfl rfl 19 (by decide) (ht _ wk_X6_195) (fun _ h9 => h9) rfl dX6_asDouble_2 ?_
  refine lv_ldc2 hx hb hown (ht _ wk_X6_204) dX6_asDouble_5 ?_
  refine lv_ladd hx hb dX6_asDouble_8 ?_
  refine va_put (D := (E.1, E.2.1)) (ci := 6) (v := .long (M0.2 + 1000)) (ty := .long) (C := RX6) (T := TX6) (N := 26) hx hb ht wu_X6 tyX6 tyX6_ok nmX6 hown hK hP hD hS 0 rfl rfl 19 (by decide) (ht _ wk_X6_195) (fun _ h9 => h9) rfl (by decide +kernel) rfl rfl (Nat.le_of_ble_eq_true rfl) dX6_asDouble_9 (fun H locs hP hD hS => ?_)
  have hP : gP E (gW [bModel E a0 (pmt M0 (M0.2 + 1000))]) H := hP
  have hD : va_D A (gW [bModel E a0 (pmt M0 (M0.2 + 1000))]) := hD
  refine lv_aload_n hx hb dX6_asDouble_12 rfl (lv_at hl 0 rfl) ?_
  refine lv_iload_n hx hb dX6_asDouble_13 rfl (lv_at hl 1 rfl) ?_
  have p1 := gB (n := 1) (bs := [bModel E a0 (pmt M0 (M0.2 + 1000))]) (bc := [bModel E a0 (pmt M0 (M0.2 + 1000))]) (br := []) [0] rfl rfl (by decide)
  refine g_i (g_runV (As := [.int x1]) (rest := []) ⟨hx, hb, hml, hown, ht⟩ hE (c_X6_asBrass E l a0 (pmt M0 (M0.2 + 1000)) x1 _ h) ⟨rfl, rfl⟩ wk_X6_206 wi_X6_asBrass ws_X6_asBrass wn_X6 wc_X6_asBrass yd_X6_asBrass ⟨Nat.le_of_ble_eq_true rfl, Nat.le_of_ble_eq_true rfl⟩ hP hD p1 (ci := 6) rfl rfl rfl rfl rfl hl.1 rfl (lv_room (Nat.le_of_ble_eq_true rfl)) dX6_asDouble_14 ⟨Nat.zero_le _, Nat.zero_le _⟩) hP hD hS p1 (fun r_1 M_2 w H locs h hw hP hD hS => ?_)
  subst hw
  clear p1
  have p2 := gB (n := 1) (bs := [bModel E a0 M_2]) (bc := [bModel E a0 M_2]) (br := []) [0] rfl rfl (by decide)
  have hP := gP_perm p2.symm hP
  have hD := gD_perm p2.symm hD
  clear p2
  refine lv_iconst (v := 2) hx hb dX6_asDouble_17 (by decide) ?_
  refine lv_imul hx hb dX6_asDouble_18 ?_
  exact hret (r_1 * 2) M_2 _ _ _ _ _ h rfl hP hD hS dX6_asDouble_19
theorem dX6_asSeized_0 : decode cX6_asSeized 0 = .ok (.aload_n 0, 1) := by decide +kernel
theorem dX6_asSeized_1 : decode cX6_asSeized 1 = .ok (.dup, 1) := by decide +kernel
theorem dX6_asSeized_2 : decode cX6_asSeized 2 = .ok (.getfield 195, 3) := by decide +kernel
theorem dX6_asSeized_5 : decode cX6_asSeized 5 = .ok (.ldc2_w 209, 3) := by decide +kernel
theorem dX6_asSeized_8 : decode cX6_asSeized 8 = .ok (.ladd, 1) := by decide +kernel
theorem dX6_asSeized_9 : decode cX6_asSeized 9 = .ok (.putfield 195, 3) := by decide +kernel
theorem dX6_asSeized_12 : decode cX6_asSeized 12 = .ok (.aload_n 0, 1) := by decide +kernel
theorem dX6_asSeized_13 : decode cX6_asSeized 13 = .ok (.iload_n 1, 1) := by decide +kernel
theorem dX6_asSeized_14 : decode cX6_asSeized 14 = .ok (.invokevirtual 211, 3) := by decide +kernel
theorem dX6_asSeized_17 : decode cX6_asSeized 17 = .ok (.iload_n 1, 1) := by decide +kernel
theorem dX6_asSeized_18 : decode cX6_asSeized 18 = .ok (.iadd, 1) := by decide +kernel
theorem dX6_asSeized_19 : decode cX6_asSeized 19 = .ok (.ireturn, 1) := by decide +kernel
set_option maxHeartbeats 4000000 in
set_option maxRecDepth 100000 in
theorem c_X6_asSeized (E : GE) (l : Launch) (a0 : Nat → Nat) (M0 : Mo) (x1 : Int32) (post : Int32 → Mo → Prop) (h : wp_X6_asSeized M0 x1 post) : Met l yX6_asSeized (wz yX6_asSeized cX6_asSeized 2 (some .int)) { frames := 4, cells := 0, slots := 0, locals := 86 } (gPc E [.ref (a0 99), .int x1] (gW [bModel E a0 M0])) (gQi E (gW [bModel E a0 M0]) (fun r (u : Mo) => post r u) (fun (u : Mo) w => w = gW [bModel E a0 u])) 0 0 (gIn (gW [bModel E a0 M0])) := by
  unfold wp_X6_asSeized at h
  refine g_of_i (by decide) (Nat.le_of_ble_eq_true rfl) ?_
  intro p e s m below meth c A Q hx hb hml hown ht hE hP hD hret ls hl
  have hK := hE.1
  have hS : va_S A s.heap s.heap [] := va_S.rf
  have hl : lv_has ls 2 [(0, .ref (a0 99)), (1, .int x1)] := hl
  refine lv_aload_n hx hb dX6_asSeized_0 rfl (lv_at hl 0 rfl) ?_
  refine lv_dup hx hb dX6_asSeized_1 rfl ?_
  refine va_get (D := (E.1, E.2.1)) (ci := 6) (v := .long (M0.2)) (C := RX6) (T := TX6) (N := 26) hx hb ht wu_X6 hown hK hP 0 rfl rfl 19 (by decide) (ht _ wk_X6_195) (fun _ h9 => h9) rfl dX6_asSeized_2 ?_
  refine lv_ldc2 hx hb hown (ht _ wk_X6_209) dX6_asSeized_5 ?_
  refine lv_ladd hx hb dX6_asSeized_8 ?_
  refine va_put (D := (E.1, E.2.1)) (ci := 6) (v := .long (M0.2 + 10000)) (ty := .long) (C := RX6) (T := TX6) (N := 26) hx hb ht wu_X6 tyX6 tyX6_ok nmX6 hown hK hP hD hS 0 rfl rfl 19 (by decide) (ht _ wk_X6_195) (fun _ h9 => h9) rfl (by decide +kernel) rfl rfl (Nat.le_of_ble_eq_true rfl) dX6_asSeized_9 (fun H locs hP hD hS => ?_)
  have hP : gP E (gW [bModel E a0 (pmt M0 (M0.2 + 10000))]) H := hP
  have hD : va_D A (gW [bModel E a0 (pmt M0 (M0.2 + 10000))]) := hD
  refine lv_aload_n hx hb dX6_asSeized_12 rfl (lv_at hl 0 rfl) ?_
  refine lv_iload_n hx hb dX6_asSeized_13 rfl (lv_at hl 1 rfl) ?_
  have p1 := gB (n := 1) (bs := [bModel E a0 (pmt M0 (M0.2 + 10000))]) (bc := [bModel E a0 (pmt M0 (M0.2 + 10000))]) (br := []) [0] rfl rfl (by decide)
  refine g_i (g_runV (As := [.int x1]) (rest := []) ⟨hx, hb, hml, hown, ht⟩ hE (c_X6_asRusty E l a0 (pmt M0 (M0.2 + 10000)) x1 _ h) ⟨rfl, rfl⟩ wk_X6_211 wi_X6_asRusty ws_X6_asRusty wn_X6 wc_X6_asRusty yd_X6_asRusty ⟨Nat.le_of_ble_eq_true rfl, Nat.le_of_ble_eq_true rfl⟩ hP hD p1 (ci := 6) rfl rfl rfl rfl rfl hl.1 rfl (lv_room (Nat.le_of_ble_eq_true rfl)) dX6_asSeized_14 ⟨Nat.zero_le _, Nat.zero_le _⟩) hP hD hS p1 (fun r_1 M_2 w H locs h hw hP hD hS => ?_)
  subst hw
  clear p1
  have p2 := gB (n := 1) (bs := [bModel E a0 M_2]) (bc := [bModel E a0 M_2]) (br := []) [0] rfl rfl (by decide)
  have hP := gP_perm p2.symm hP
  have hD := gD_perm p2.symm hD
  clear p2
  refine lv_iload_n hx hb dX6_asSeized_17 rfl (lv_at hl 1 rfl) ?_
  refine lv_iadd hx hb dX6_asSeized_18 ?_
  exact hret (r_1 + x1) M_2 _ _ _ _ _ h rfl hP hD hS dX6_asSeized_19
theorem dX6_asPainted_0 : decode cX6_asPainted 0 = .ok (.aload_n 0, 1) := by decide +kernel
theorem dX6_asPainted_1 : decode cX6_asPainted 1 = .ok (.dup, 1) := by decide +kernel
theorem dX6_asPainted_2 : decode cX6_asPainted 2 = .ok (.getfield 195, 3) := by decide +kernel
theorem dX6_asPainted_5 : decode cX6_asPainted 5 = .ok (.ldc2_w 214, 3) := by decide +kernel
theorem dX6_asPainted_8 : decode cX6_asPainted 8 = .ok (.ladd, 1) := by decide +kernel
theorem dX6_asPainted_9 : decode cX6_asPainted 9 = .ok (.putfield 195, 3) := by decide +kernel
theorem dX6_asPainted_12 : decode cX6_asPainted 12 = .ok (.aload_n 0, 1) := by decide +kernel
theorem dX6_asPainted_13 : decode cX6_asPainted 13 = .ok (.iload_n 1, 1) := by decide +kernel
theorem dX6_asPainted_14 : decode cX6_asPainted 14 = .ok (.invokevirtual 199, 3) := by decide +kernel
theorem dX6_asPainted_17 : decode cX6_asPainted 17 = .ok (.aload_n 0, 1) := by decide +kernel
theorem dX6_asPainted_18 : decode cX6_asPainted 18 = .ok (.getfield 23, 3) := by decide +kernel
theorem dX6_asPainted_21 : decode cX6_asPainted 21 = .ok (.bipush 18, 2) := by decide +kernel
theorem dX6_asPainted_23 : decode cX6_asPainted 23 = .ok (.iload_n 1, 1) := by decide +kernel
theorem dX6_asPainted_24 : decode cX6_asPainted 24 = .ok (.iadd, 1) := by decide +kernel
theorem dX6_asPainted_25 : decode cX6_asPainted 25 = .ok (.iaload, 1) := by decide +kernel
theorem dX6_asPainted_26 : decode cX6_asPainted 26 = .ok (.iadd, 1) := by decide +kernel
theorem dX6_asPainted_27 : decode cX6_asPainted 27 = .ok (.ireturn, 1) := by decide +kernel
set_option maxHeartbeats 4000000 in
set_option maxRecDepth 100000 in
theorem c_X6_asPainted (E : GE) (l : Launch) (a0 : Nat → Nat) (M0 : Mo) (x1 : Int32) (post : Int32 → Mo → Prop) (h : wp_X6_asPainted M0 x1 post) : Met l yX6_asPainted (wz yX6_asPainted cX6_asPainted 2 (some .int)) { frames := 3, cells := 0, slots := 0, locals := 65 } (gPc E [.ref (a0 99), .int x1] (gW [bModel E a0 M0])) (gQi E (gW [bModel E a0 M0]) (fun r (u : Mo) => post r u) (fun (u : Mo) w => w = gW [bModel E a0 u])) 0 0 (gIn (gW [bModel E a0 M0])) := by
  unfold wp_X6_asPainted at h
  refine g_of_i (by decide) (Nat.le_of_ble_eq_true rfl) ?_
  intro p e s m below meth c A Q hx hb hml hown ht hE hP hD hret ls hl
  have hK := hE.1
  have hS : va_S A s.heap s.heap [] := va_S.rf
  have hl : lv_has ls 2 [(0, .ref (a0 99)), (1, .int x1)] := hl
  refine lv_aload_n hx hb dX6_asPainted_0 rfl (lv_at hl 0 rfl) ?_
  refine lv_dup hx hb dX6_asPainted_1 rfl ?_
  refine va_get (D := (E.1, E.2.1)) (ci := 6) (v := .long (M0.2)) (C := RX6) (T := TX6) (N := 26) hx hb ht wu_X6 hown hK hP 0 rfl rfl 19 (by decide) (ht _ wk_X6_195) (fun _ h9 => h9) rfl dX6_asPainted_2 ?_
  refine lv_ldc2 hx hb hown (ht _ wk_X6_214) dX6_asPainted_5 ?_
  refine lv_ladd hx hb dX6_asPainted_8 ?_
  refine va_put (D := (E.1, E.2.1)) (ci := 6) (v := .long (M0.2 + 100000)) (ty := .long) (C := RX6) (T := TX6) (N := 26) hx hb ht wu_X6 tyX6 tyX6_ok nmX6 hown hK hP hD hS 0 rfl rfl 19 (by decide) (ht _ wk_X6_195) (fun _ h9 => h9) rfl (by decide +kernel) rfl rfl (Nat.le_of_ble_eq_true rfl) dX6_asPainted_9 (fun H locs hP hD hS => ?_)
  have hP : gP E (gW [bModel E a0 (pmt M0 (M0.2 + 100000))]) H := hP
  have hD : va_D A (gW [bModel E a0 (pmt M0 (M0.2 + 100000))]) := hD
  refine lv_aload_n hx hb dX6_asPainted_12 rfl (lv_at hl 0 rfl) ?_
  refine lv_iload_n hx hb dX6_asPainted_13 rfl (lv_at hl 1 rfl) ?_
  have p1 := gB (n := 1) (bs := [bModel E a0 (pmt M0 (M0.2 + 100000))]) (bc := [bModel E a0 (pmt M0 (M0.2 + 100000))]) (br := []) [0] rfl rfl (by decide)
  refine g_i (g_runV (As := [.int x1]) (rest := []) ⟨hx, hb, hml, hown, ht⟩ hE (c_X6_asLock E l a0 (pmt M0 (M0.2 + 100000)) x1 _ h) ⟨rfl, rfl⟩ wk_X6_199 wi_X6_asLock ws_X6_asLock wn_X6 wc_X6_asLock yd_X6_asLock ⟨Nat.le_of_ble_eq_true rfl, Nat.le_of_ble_eq_true rfl⟩ hP hD p1 (ci := 6) rfl rfl rfl rfl rfl hl.1 rfl (lv_room (Nat.le_of_ble_eq_true rfl)) dX6_asPainted_14 ⟨Nat.zero_le _, Nat.zero_le _⟩) hP hD hS p1 (fun r_1 M_2 w H locs h hw hP hD hS => ?_)
  subst hw
  clear p1
  have p2 := gB (n := 1) (bs := [bModel E a0 M_2]) (bc := [bModel E a0 M_2]) (br := []) [0] rfl rfl (by decide)
  have hP := gP_perm p2.symm hP
  have hD := gD_perm p2.symm hD
  clear p2
  refine lv_aload_n hx hb dX6_asPainted_17 rfl (lv_at hl 0 rfl) ?_
  refine va_get (D := (E.1, E.2.1)) (ci := 6) (v := .ref (a0 7)) (C := RX6) (T := TX6) (N := 26) hx hb ht wu_X6 hown hK hP 0 rfl rfl 7 (by decide) (ht _ wk_X6_23) (fun _ h9 => h9) rfl dX6_asPainted_18 ?_
  refine lv_bipush (v := 18) hx hb dX6_asPainted_21 (by decide) ?_
  refine lv_iload_n hx hb dX6_asPainted_23 rfl (lv_at hl 1 rfl) ?_
  refine lv_iadd hx hb dX6_asPainted_24 ?_
  refine va_iald hx hb hK hP 4 0 rfl rfl h.1 dX6_asPainted_25 ?_
  have h := h.2
  refine lv_iadd hx hb dX6_asPainted_26 ?_
  exact hret (r_1 + (M_2.1.2 7 (18 + x1).toNatClampNeg)) M_2 _ _ _ _ _ h rfl hP hD hS dX6_asPainted_27
theorem dX6_mark_0 : decode cX6_mark 0 = .ok (.aload_n 0, 1) := by decide +kernel
theorem dX6_mark_1 : decode cX6_mark 1 = .ok (.iload_n 2, 1) := by decide +kernel
theorem dX6_mark_2 : decode cX6_mark 2 = .ok (.invokevirtual 149, 3) := by decide +kernel
theorem dX6_mark_5 : decode cX6_mark 5 = .ok (.ifCond .ne 6, 3) := by decide +kernel
theorem dX6_mark_8 : decode cX6_mark 8 = .ok (.ldc 216, 2) := by decide +kernel
theorem dX6_mark_10 : decode cX6_mark 10 = .ok (.ireturn, 1) := by decide +kernel
theorem dX6_mark_11 : decode cX6_mark 11 = .ok (.iload_n 1, 1) := by decide +kernel
theorem dX6_mark_12 : decode cX6_mark 12 = .ok (.tableswitch 76 0 5 #[40, 46, 52, 58, 64, 70], 40) := by decide +kernel
theorem dX6_mark_52 : decode cX6_mark 52 = .ok (.aload_n 0, 1) := by decide +kernel
theorem dX6_mark_53 : decode cX6_mark 53 = .ok (.iload_n 2, 1) := by decide +kernel
theorem dX6_mark_54 : decode cX6_mark 54 = .ok (.invokevirtual 199, 3) := by decide +kernel
theorem dX6_mark_57 : decode cX6_mark 57 = .ok (.ireturn, 1) := by decide +kernel
theorem dX6_mark_58 : decode cX6_mark 58 = .ok (.aload_n 0, 1) := by decide +kernel
theorem dX6_mark_59 : decode cX6_mark 59 = .ok (.iload_n 2, 1) := by decide +kernel
theorem dX6_mark_60 : decode cX6_mark 60 = .ok (.invokevirtual 206, 3) := by decide +kernel
theorem dX6_mark_63 : decode cX6_mark 63 = .ok (.ireturn, 1) := by decide +kernel
theorem dX6_mark_64 : decode cX6_mark 64 = .ok (.aload_n 0, 1) := by decide +kernel
theorem dX6_mark_65 : decode cX6_mark 65 = .ok (.iload_n 2, 1) := by decide +kernel
theorem dX6_mark_66 : decode cX6_mark 66 = .ok (.invokevirtual 211, 3) := by decide +kernel
theorem dX6_mark_69 : decode cX6_mark 69 = .ok (.ireturn, 1) := by decide +kernel
theorem dX6_mark_70 : decode cX6_mark 70 = .ok (.aload_n 0, 1) := by decide +kernel
theorem dX6_mark_71 : decode cX6_mark 71 = .ok (.iload_n 2, 1) := by decide +kernel
theorem dX6_mark_72 : decode cX6_mark 72 = .ok (.invokevirtual 217, 3) := by decide +kernel
theorem dX6_mark_75 : decode cX6_mark 75 = .ok (.ireturn, 1) := by decide +kernel
theorem dX6_mark_76 : decode cX6_mark 76 = .ok (.aload_n 0, 1) := by decide +kernel
theorem dX6_mark_77 : decode cX6_mark 77 = .ok (.iload_n 2, 1) := by decide +kernel
theorem dX6_mark_78 : decode cX6_mark 78 = .ok (.invokevirtual 220, 3) := by decide +kernel
theorem dX6_mark_81 : decode cX6_mark 81 = .ok (.ireturn, 1) := by decide +kernel
theorem dX6_mark_82 : decode cX6_mark 82 = .ok (.aload_n 0, 1) := by decide +kernel
theorem dX6_mark_83 : decode cX6_mark 83 = .ok (.iload_n 2, 1) := by decide +kernel
theorem dX6_mark_84 : decode cX6_mark 84 = .ok (.invokevirtual 223, 3) := by decide +kernel
theorem dX6_mark_87 : decode cX6_mark 87 = .ok (.ireturn, 1) := by decide +kernel
theorem dX6_mark_88 : decode cX6_mark 88 = .ok (.ldc 216, 2) := by decide +kernel
theorem dX6_mark_90 : decode cX6_mark 90 = .ok (.ireturn, 1) := by decide +kernel
set_option maxHeartbeats 4000000 in
set_option maxRecDepth 100000 in
theorem c_X6_mark (E : GE) (l : Launch) (a0 : Nat → Nat) (M0 : Mo) (x1 : Int32) (x2 : Int32) (post : Int32 → Mo → Prop) (h : wp_X6_mark M0 x1 x2 post) : Met l yX6_mark (wz yX6_mark cX6_mark 3 (some .int)) { frames := 5, cells := 0, slots := 0, locals := 107 } (gPc E [.ref (a0 99), .int x1, .int x2] (gW [bModel E a0 M0])) (gQi E (gW [bModel E a0 M0]) (fun r (u : Mo) => post r u) (fun (u : Mo) w => w = gW [bModel E a0 u])) 0 0 (gIn (gW [bModel E a0 M0])) := by
  unfold wp_X6_mark at h
  refine g_of_i (by decide) (Nat.le_of_ble_eq_true rfl) ?_
  intro p e s m below meth c A Q hx hb hml hown ht hE hP hD hret ls hl
  have hK := hE.1
  have hS : va_S A s.heap s.heap [] := va_S.rf
  have hl : lv_has ls 3 [(0, .ref (a0 99)), (1, .int x1), (2, .int x2)] := hl
  refine lv_aload_n hx hb dX6_mark_0 rfl (lv_at hl 0 rfl) ?_
  refine lv_iload_n hx hb dX6_mark_1 rfl (lv_at hl 2 rfl) ?_
  have p1 := gB (n := 1) (bs := [bModel E a0 M0]) (bc := [bModel E a0 M0]) (br := []) [0] rfl rfl (by decide)
  refine g_i (g_runV (As := [.int x2]) (rest := []) ⟨hx, hb, hml, hown, ht⟩ hE (c_X6_isLock E l a0 M0 x2 _ h) ⟨rfl, rfl⟩ wk_X6_149 wi_X6_isLock ws_X6_isLock wn_X6 wc_X6_isLock yd_X6_isLock ⟨Nat.le_of_ble_eq_true rfl, Nat.le_of_ble_eq_true rfl⟩ hP hD p1 (ci := 6) rfl rfl rfl rfl rfl hl.1 rfl (lv_room (Nat.le_of_ble_eq_true rfl)) dX6_mark_2 ⟨Nat.zero_le _, Nat.zero_le _⟩) hP hD hS p1 (fun r_1 _ w H locs h hw hP hD hS => ?_)
  subst hw
  clear p1
  have p2 := gB (n := 1) (bs := [bModel E a0 M0]) (bc := [bModel E a0 M0]) (br := []) [0] rfl rfl (by decide)
  have hP := gP_perm p2.symm hP
  have hD := gD_perm p2.symm hD
  clear p2
  refine lv_if_ne (tgt := 11) hx hb dX6_mark_5 (by decide) (fun c_2 => ?_) (fun c_2 => ?_)
  · have h := h.1 c_2
    refine lv_iload_n hx hb dX6_mark_11 rfl (lv_at hl 1 rfl) ?_
    rcases sw_0_5 x1 with c | c | c | c | c | c | c
    · have h := h.1 c
      refine lv_asi c ?_
      refine lv_tableIn (off := 40) (tgt := 52) hx hb dX6_mark_12 (by decide) (by decide) rfl (by decide) ?_
      refine lv_aload_n hx hb dX6_mark_52 rfl (lv_at hl 0 rfl) ?_
      refine lv_iload_n hx hb dX6_mark_53 rfl (lv_at hl 2 rfl) ?_
      have p1 := gB (n := 1) (bs := [bModel E a0 M0]) (bc := [bModel E a0 M0]) (br := []) [0] rfl rfl (by decide)
      refine g_i (g_runV (As := [.int x2]) (rest := []) ⟨hx, hb, hml, hown, ht⟩ hE (c_X6_asLock E l a0 M0 x2 _ h) ⟨rfl, rfl⟩ wk_X6_199 wi_X6_asLock ws_X6_asLock wn_X6 wc_X6_asLock yd_X6_asLock ⟨Nat.le_of_ble_eq_true rfl, Nat.le_of_ble_eq_true rfl⟩ hP hD p1 (ci := 6) rfl rfl rfl rfl rfl hl.1 rfl (lv_room (Nat.le_of_ble_eq_true rfl)) dX6_mark_54 ⟨Nat.zero_le _, Nat.zero_le _⟩) hP hD hS p1 (fun r_3 M_4 w H locs h hw hP hD hS => ?_)
      subst hw
      clear p1
      have p2 := gB (n := 1) (bs := [bModel E a0 M_4]) (bc := [bModel E a0 M_4]) (br := []) [0] rfl rfl (by decide)
      have hP := gP_perm p2.symm hP
      have hD := gD_perm p2.symm hD
      clear p2
      exact hret r_3 M_4 _ _ _ _ _ h rfl hP hD hS dX6_mark_57
    · have h := h.2.1 c
      refine lv_asi c ?_
      refine lv_tableIn (off := 46) (tgt := 58) hx hb dX6_mark_12 (by decide) (by decide) rfl (by decide) ?_
      refine lv_aload_n hx hb dX6_mark_58 rfl (lv_at hl 0 rfl) ?_
      refine lv_iload_n hx hb dX6_mark_59 rfl (lv_at hl 2 rfl) ?_
      have p1 := gB (n := 1) (bs := [bModel E a0 M0]) (bc := [bModel E a0 M0]) (br := []) [0] rfl rfl (by decide)
      refine g_i (g_runV (As := [.int x2]) (rest := []) ⟨hx, hb, hml, hown, ht⟩ hE (c_X6_asBrass E l a0 M0 x2 _ h) ⟨rfl, rfl⟩ wk_X6_206 wi_X6_asBrass ws_X6_asBrass wn_X6 wc_X6_asBrass yd_X6_asBrass ⟨Nat.le_of_ble_eq_true rfl, Nat.le_of_ble_eq_true rfl⟩ hP hD p1 (ci := 6) rfl rfl rfl rfl rfl hl.1 rfl (lv_room (Nat.le_of_ble_eq_true rfl)) dX6_mark_60 ⟨Nat.zero_le _, Nat.zero_le _⟩) hP hD hS p1 (fun r_5 M_6 w H locs h hw hP hD hS => ?_)
      subst hw
      clear p1
      have p2 := gB (n := 1) (bs := [bModel E a0 M_6]) (bc := [bModel E a0 M_6]) (br := []) [0] rfl rfl (by decide)
      have hP := gP_perm p2.symm hP
      have hD := gD_perm p2.symm hD
      clear p2
      exact hret r_5 M_6 _ _ _ _ _ h rfl hP hD hS dX6_mark_63
    · have h := h.2.2.1 c
      refine lv_asi c ?_
      refine lv_tableIn (off := 52) (tgt := 64) hx hb dX6_mark_12 (by decide) (by decide) rfl (by decide) ?_
      refine lv_aload_n hx hb dX6_mark_64 rfl (lv_at hl 0 rfl) ?_
      refine lv_iload_n hx hb dX6_mark_65 rfl (lv_at hl 2 rfl) ?_
      have p1 := gB (n := 1) (bs := [bModel E a0 M0]) (bc := [bModel E a0 M0]) (br := []) [0] rfl rfl (by decide)
      refine g_i (g_runV (As := [.int x2]) (rest := []) ⟨hx, hb, hml, hown, ht⟩ hE (c_X6_asRusty E l a0 M0 x2 _ h) ⟨rfl, rfl⟩ wk_X6_211 wi_X6_asRusty ws_X6_asRusty wn_X6 wc_X6_asRusty yd_X6_asRusty ⟨Nat.le_of_ble_eq_true rfl, Nat.le_of_ble_eq_true rfl⟩ hP hD p1 (ci := 6) rfl rfl rfl rfl rfl hl.1 rfl (lv_room (Nat.le_of_ble_eq_true rfl)) dX6_mark_66 ⟨Nat.zero_le _, Nat.zero_le _⟩) hP hD hS p1 (fun r_7 M_8 w H locs h hw hP hD hS => ?_)
      subst hw
      clear p1
      have p2 := gB (n := 1) (bs := [bModel E a0 M_8]) (bc := [bModel E a0 M_8]) (br := []) [0] rfl rfl (by decide)
      have hP := gP_perm p2.symm hP
      have hD := gD_perm p2.symm hD
      clear p2
      exact hret r_7 M_8 _ _ _ _ _ h rfl hP hD hS dX6_mark_69
    · have h := h.2.2.2.1 c
      refine lv_asi c ?_
      refine lv_tableIn (off := 58) (tgt := 70) hx hb dX6_mark_12 (by decide) (by decide) rfl (by decide) ?_
      refine lv_aload_n hx hb dX6_mark_70 rfl (lv_at hl 0 rfl) ?_
      refine lv_iload_n hx hb dX6_mark_71 rfl (lv_at hl 2 rfl) ?_
      have p1 := gB (n := 1) (bs := [bModel E a0 M0]) (bc := [bModel E a0 M0]) (br := []) [0] rfl rfl (by decide)
      refine g_i (g_runV (As := [.int x2]) (rest := []) ⟨hx, hb, hml, hown, ht⟩ hE (c_X6_asDouble E l a0 M0 x2 _ h) ⟨rfl, rfl⟩ wk_X6_217 wi_X6_asDouble ws_X6_asDouble wn_X6 wc_X6_asDouble yd_X6_asDouble ⟨Nat.le_of_ble_eq_true rfl, Nat.le_of_ble_eq_true rfl⟩ hP hD p1 (ci := 6) rfl rfl rfl rfl rfl hl.1 rfl (lv_room (Nat.le_of_ble_eq_true rfl)) dX6_mark_72 ⟨Nat.zero_le _, Nat.zero_le _⟩) hP hD hS p1 (fun r_9 M_10 w H locs h hw hP hD hS => ?_)
      subst hw
      clear p1
      have p2 := gB (n := 1) (bs := [bModel E a0 M_10]) (bc := [bModel E a0 M_10]) (br := []) [0] rfl rfl (by decide)
      have hP := gP_perm p2.symm hP
      have hD := gD_perm p2.symm hD
      clear p2
      exact hret r_9 M_10 _ _ _ _ _ h rfl hP hD hS dX6_mark_75
    · have h := h.2.2.2.2.1 c
      refine lv_asi c ?_
      refine lv_tableIn (off := 64) (tgt := 76) hx hb dX6_mark_12 (by decide) (by decide) rfl (by decide) ?_
      refine lv_aload_n hx hb dX6_mark_76 rfl (lv_at hl 0 rfl) ?_
      refine lv_iload_n hx hb dX6_mark_77 rfl (lv_at hl 2 rfl) ?_
      have p1 := gB (n := 1) (bs := [bModel E a0 M0]) (bc := [bModel E a0 M0]) (br := []) [0] rfl rfl (by decide)
      refine g_i (g_runV (As := [.int x2]) (rest := []) ⟨hx, hb, hml, hown, ht⟩ hE (c_X6_asSeized E l a0 M0 x2 _ h) ⟨rfl, rfl⟩ wk_X6_220 wi_X6_asSeized ws_X6_asSeized wn_X6 wc_X6_asSeized yd_X6_asSeized ⟨Nat.le_of_ble_eq_true rfl, Nat.le_of_ble_eq_true rfl⟩ hP hD p1 (ci := 6) rfl rfl rfl rfl rfl hl.1 rfl (lv_room (Nat.le_of_ble_eq_true rfl)) dX6_mark_78 ⟨Nat.zero_le _, Nat.zero_le _⟩) hP hD hS p1 (fun r_11 M_12 w H locs h hw hP hD hS => ?_)
      subst hw
      clear p1
      have p2 := gB (n := 1) (bs := [bModel E a0 M_12]) (bc := [bModel E a0 M_12]) (br := []) [0] rfl rfl (by decide)
      have hP := gP_perm p2.symm hP
      have hD := gD_perm p2.symm hD
      clear p2
      exact hret r_11 M_12 _ _ _ _ _ h rfl hP hD hS dX6_mark_81
    · have h := h.2.2.2.2.2.1 c
      refine lv_asi c ?_
      refine lv_tableIn (off := 70) (tgt := 82) hx hb dX6_mark_12 (by decide) (by decide) rfl (by decide) ?_
      refine lv_aload_n hx hb dX6_mark_82 rfl (lv_at hl 0 rfl) ?_
      refine lv_iload_n hx hb dX6_mark_83 rfl (lv_at hl 2 rfl) ?_
      have p1 := gB (n := 1) (bs := [bModel E a0 M0]) (bc := [bModel E a0 M0]) (br := []) [0] rfl rfl (by decide)
      refine g_i (g_runV (As := [.int x2]) (rest := []) ⟨hx, hb, hml, hown, ht⟩ hE (c_X6_asPainted E l a0 M0 x2 _ h) ⟨rfl, rfl⟩ wk_X6_223 wi_X6_asPainted ws_X6_asPainted wn_X6 wc_X6_asPainted yd_X6_asPainted ⟨Nat.le_of_ble_eq_true rfl, Nat.le_of_ble_eq_true rfl⟩ hP hD p1 (ci := 6) rfl rfl rfl rfl rfl hl.1 rfl (lv_room (Nat.le_of_ble_eq_true rfl)) dX6_mark_84 ⟨Nat.zero_le _, Nat.zero_le _⟩) hP hD hS p1 (fun r_13 M_14 w H locs h hw hP hD hS => ?_)
      subst hw
      clear p1
      have p2 := gB (n := 1) (bs := [bModel E a0 M_14]) (bc := [bModel E a0 M_14]) (br := []) [0] rfl rfl (by decide)
      have hP := gP_perm p2.symm hP
      have hD := gD_perm p2.symm hD
      clear p2
      exact hret r_13 M_14 _ _ _ _ _ h rfl hP hD hS dX6_mark_87
    · have h := h.2.2.2.2.2.2 c
      refine lv_tableOut (tgt := 88) hx hb dX6_mark_12 c (by decide) ?_
      refine lv_ldc hx hb hown (ht _ wk_X6_216) dX6_mark_88 ?_
      exact hret (-1000000) M0 _ _ _ _ _ h rfl hP hD hS dX6_mark_90
  · have h := h.2 c_2
    refine lv_ldc hx hb hown (ht _ wk_X6_216) dX6_mark_8 ?_
    exact hret (-1000000) M0 _ _ _ _ _ h rfl hP hD hS dX6_mark_10
theorem dX6_keep_0 : decode cX6_keep 0 = .ok (.iload_n 1, 1) := by decide +kernel
theorem dX6_keep_1 : decode cX6_keep 1 = .ok (.i2l, 1) := by decide +kernel
theorem dX6_keep_2 : decode cX6_keep 2 = .ok (.lconst 0, 1) := by decide +kernel
theorem dX6_keep_3 : decode cX6_keep 3 = .ok (.lconst 1, 1) := by decide +kernel
theorem dX6_keep_4 : decode cX6_keep 4 = .ok (.invokestatic 55, 3) := by decide +kernel
theorem dX6_keep_7 : decode cX6_keep 7 = .ok (.ifCond .ne 5, 3) := by decide +kernel
theorem dX6_keep_10 : decode cX6_keep 10 = .ok (.iconst (-1), 1) := by decide +kernel
theorem dX6_keep_11 : decode cX6_keep 11 = .ok (.ireturn, 1) := by decide +kernel
theorem dX6_keep_12 : decode cX6_keep 12 = .ok (.iconst 0, 1) := by decide +kernel
theorem dX6_keep_13 : decode cX6_keep 13 = .ok (.istore_n 2, 1) := by decide +kernel
theorem dX6_keep_14 : decode cX6_keep 14 = .ok (.iload_n 2, 1) := by decide +kernel
theorem dX6_keep_15 : decode cX6_keep 15 = .ok (.bipush 32, 2) := by decide +kernel
theorem dX6_keep_17 : decode cX6_keep 17 = .ok (.if_icmp .ge 26, 3) := by decide +kernel
theorem dX6_keep_20 : decode cX6_keep 20 = .ok (.aload_n 0, 1) := by decide +kernel
theorem dX6_keep_21 : decode cX6_keep 21 = .ok (.getfield 29, 3) := by decide +kernel
theorem dX6_keep_24 : decode cX6_keep 24 = .ok (.bipush 32, 2) := by decide +kernel
theorem dX6_keep_26 : decode cX6_keep 26 = .ok (.iload_n 1, 1) := by decide +kernel
theorem dX6_keep_27 : decode cX6_keep 27 = .ok (.imul, 1) := by decide +kernel
theorem dX6_keep_28 : decode cX6_keep 28 = .ok (.iload_n 2, 1) := by decide +kernel
theorem dX6_keep_29 : decode cX6_keep 29 = .ok (.iadd, 1) := by decide +kernel
theorem dX6_keep_30 : decode cX6_keep 30 = .ok (.aload_n 0, 1) := by decide +kernel
theorem dX6_keep_31 : decode cX6_keep 31 = .ok (.getfield 23, 3) := by decide +kernel
theorem dX6_keep_34 : decode cX6_keep 34 = .ok (.iload_n 2, 1) := by decide +kernel
theorem dX6_keep_35 : decode cX6_keep 35 = .ok (.iaload, 1) := by decide +kernel
theorem dX6_keep_36 : decode cX6_keep 36 = .ok (.iastore, 1) := by decide +kernel
theorem dX6_keep_37 : decode cX6_keep 37 = .ok (.iinc 2 1, 3) := by decide +kernel
theorem dX6_keep_40 : decode cX6_keep 40 = .ok (.goto (-26), 3) := by decide +kernel
theorem dX6_keep_43 : decode cX6_keep 43 = .ok (.iconst 0, 1) := by decide +kernel
theorem dX6_keep_44 : decode cX6_keep 44 = .ok (.istore_n 2, 1) := by decide +kernel
theorem dX6_keep_45 : decode cX6_keep 45 = .ok (.iload_n 2, 1) := by decide +kernel
theorem dX6_keep_46 : decode cX6_keep 46 = .ok (.sipush 320, 3) := by decide +kernel
theorem dX6_keep_49 : decode cX6_keep 49 = .ok (.if_icmp .ge 27, 3) := by decide +kernel
theorem dX6_keep_52 : decode cX6_keep 52 = .ok (.aload_n 0, 1) := by decide +kernel
theorem dX6_keep_53 : decode cX6_keep 53 = .ok (.getfield 35, 3) := by decide +kernel
theorem dX6_keep_56 : decode cX6_keep 56 = .ok (.sipush 320, 3) := by decide +kernel
theorem dX6_keep_59 : decode cX6_keep 59 = .ok (.iload_n 1, 1) := by decide +kernel
theorem dX6_keep_60 : decode cX6_keep 60 = .ok (.imul, 1) := by decide +kernel
theorem dX6_keep_61 : decode cX6_keep 61 = .ok (.iload_n 2, 1) := by decide +kernel
theorem dX6_keep_62 : decode cX6_keep 62 = .ok (.iadd, 1) := by decide +kernel
theorem dX6_keep_63 : decode cX6_keep 63 = .ok (.aload_n 0, 1) := by decide +kernel
theorem dX6_keep_64 : decode cX6_keep 64 = .ok (.getfield 26, 3) := by decide +kernel
theorem dX6_keep_67 : decode cX6_keep 67 = .ok (.iload_n 2, 1) := by decide +kernel
theorem dX6_keep_68 : decode cX6_keep 68 = .ok (.iaload, 1) := by decide +kernel
theorem dX6_keep_69 : decode cX6_keep 69 = .ok (.iastore, 1) := by decide +kernel
theorem dX6_keep_70 : decode cX6_keep 70 = .ok (.iinc 2 1, 3) := by decide +kernel
theorem dX6_keep_73 : decode cX6_keep 73 = .ok (.goto (-28), 3) := by decide +kernel
theorem dX6_keep_76 : decode cX6_keep 76 = .ok (.aload_n 0, 1) := by decide +kernel
theorem dX6_keep_77 : decode cX6_keep 77 = .ok (.getfield 32, 3) := by decide +kernel
theorem dX6_keep_80 : decode cX6_keep 80 = .ok (.iload_n 1, 1) := by decide +kernel
theorem dX6_keep_81 : decode cX6_keep 81 = .ok (.aload_n 0, 1) := by decide +kernel
theorem dX6_keep_82 : decode cX6_keep 82 = .ok (.getfield 112, 3) := by decide +kernel
theorem dX6_keep_85 : decode cX6_keep 85 = .ok (.iastore, 1) := by decide +kernel
theorem dX6_keep_86 : decode cX6_keep 86 = .ok (.aload_n 0, 1) := by decide +kernel
theorem dX6_keep_87 : decode cX6_keep 87 = .ok (.dup, 1) := by decide +kernel
theorem dX6_keep_88 : decode cX6_keep 88 = .ok (.getfield 115, 3) := by decide +kernel
theorem dX6_keep_91 : decode cX6_keep 91 = .ok (.iconst 1, 1) := by decide +kernel
theorem dX6_keep_92 : decode cX6_keep 92 = .ok (.iload_n 1, 1) := by decide +kernel
theorem dX6_keep_93 : decode cX6_keep 93 = .ok (.ishl, 1) := by decide +kernel
theorem dX6_keep_94 : decode cX6_keep 94 = .ok (.ior, 1) := by decide +kernel
theorem dX6_keep_95 : decode cX6_keep 95 = .ok (.putfield 115, 3) := by decide +kernel
theorem dX6_keep_98 : decode cX6_keep 98 = .ok (.aload_n 0, 1) := by decide +kernel
theorem dX6_keep_99 : decode cX6_keep 99 = .ok (.getfield 23, 3) := by decide +kernel
theorem dX6_keep_102 : decode cX6_keep 102 = .ok (.bipush 8, 2) := by decide +kernel
theorem dX6_keep_104 : decode cX6_keep 104 = .ok (.iaload, 1) := by decide +kernel
theorem dX6_keep_105 : decode cX6_keep 105 = .ok (.ireturn, 1) := by decide +kernel
set_option maxHeartbeats 4000000 in
set_option maxRecDepth 100000 in
theorem c_X6_keep (E : GE) (l : Launch) (a0 : Nat → Nat) (M0 : Mo) (x1 : Int32) (post : Int32 → Mo → Prop) (h : wp_X6_keep M0 x1 post) : Met l yX6_keep (wz yX6_keep cX6_keep 3 (some .int)) { frames := 1, cells := 0, slots := 0, locals := 25 } (gPc E [.ref (a0 99), .int x1] (gW [bModel E a0 M0])) (gQi E (gW [bModel E a0 M0]) (fun r (u : Mo) => post r u) (fun (u : Mo) w => w = gW [bModel E a0 u])) 0 0 (gIn (gW [bModel E a0 M0])) := by
  unfold wp_X6_keep at h
  refine g_of_i (by decide) (Nat.le_of_ble_eq_true rfl) ?_
  intro p e s m below meth c A Q hx hb hml hown ht hE hP hD hret ls hl
  have hK := hE.1
  have hS : va_S A s.heap s.heap [] := va_S.rf
  have hl : lv_has ls 3 [(0, .ref (a0 99)), (1, .int x1)] := hl
  refine lv_iload_n hx hb dX6_keep_0 rfl (lv_at hl 1 rfl) ?_
  refine lv_i2l (v := x1.toInt64) hx hb dX6_keep_1 rfl ?_
  refine lv_lconst (v := 0) hx hb dX6_keep_2 (by decide) ?_
  refine lv_lconst (v := 1) hx hb dX6_keep_3 (by decide) ?_
  have p1 := gB (n := 1) (bs := [bModel E a0 M0]) (bc := []) (br := [bModel E a0 M0]) [0] rfl rfl (by decide)
  refine g_i (g_runS (As := [.long (x1.toInt64), .long 0, .long 1]) (rest := []) ⟨hx, hb, hml, hown, ht⟩ hE (c_X6_in E l (x1.toInt64) 0 1 _ h) ⟨rfl, rfl⟩ wk_X6_55 wt_X6_in wn_X6 wc_X6_in yd_X6_in ⟨Nat.le_of_ble_eq_true rfl, Nat.le_of_ble_eq_true rfl⟩ hP hD p1 rfl rfl hl.1 rfl (lv_room (Nat.le_of_ble_eq_true rfl)) dX6_keep_4 ⟨Nat.zero_le _, Nat.zero_le _⟩) hP hD hS p1 (fun r_1 _ w H locs h hw hP hD hS => ?_)
  subst hw
  clear p1
  have p2 := gB (n := 1) (bs := [bModel E a0 M0]) (bc := []) (br := [bModel E a0 M0]) [0] rfl rfl (by decide)
  have hP := gP_perm p2.symm hP
  have hD := gD_perm p2.symm hD
  clear p2
  refine lv_if_ne (tgt := 12) hx hb dX6_keep_7 (by decide) (fun c_2 => ?_) (fun c_2 => ?_)
  · have h := h.1 c_2
    refine lv_iconst (v := 0) hx hb dX6_keep_12 (by decide) ?_
    refine lv_istore_n (lv' := [(2, .int 0), (0, .ref (a0 99)), (1, .int x1)]) hx hb dX6_keep_13 rfl hl (by decide) rfl (fun ls hl => ?_)
    have L14 : ∀ (n14 : Nat) (x2_14 : Int32) (M0_14 : Mo) (H : Heap) (locs : List Loc) (ls : Array Slot), wp_X6_keep_L14 post x1 n14 x2_14 M0_14 → gP E (gW [bModel E a0 M0_14]) H → va_D A (gW [bModel E a0 M0_14]) → va_S A s.heap H locs → lv_has ls 3 [(0, .ref (a0 99)), (1, .int x1), (2, .int x2_14)] → W p l e { frames := 1, cells := 0, slots := 0, locals := 25 } s m ([.ref (a0 99), .int x1] : List Value).toArray below meth c H locs 0 0 Q (F0 m 14 ls []) := by
      intro n14
      induction n14 with
      | zero => intro x2_14 M0_14 H locs ls h; exact h.elim
      | succ n14 ih14 =>
        intro x2_14 M0_14 H locs ls h hP hD hS hl
        rw [wp_X6_keep_L14] at h
        refine lv_iload_n hx hb dX6_keep_14 rfl (lv_at hl 2 rfl) ?_
        refine lv_bipush (v := 32) hx hb dX6_keep_15 (by decide) ?_
        refine lv_icmp_ge (tgt := 43) hx hb dX6_keep_17 (by decide) (fun c_11 => ?_) (fun c_11 => ?_)
        · have h := h.1 c_11
          refine lv_iconst (v := 0) hx hb dX6_keep_43 (by decide) ?_
          refine lv_istore_n (lv' := [(2, .int 0), (0, .ref (a0 99)), (1, .int x1)]) hx hb dX6_keep_44 rfl hl (by decide) rfl (fun ls hl => ?_)
          have L45 : ∀ (n45 : Nat) (x2_45 : Int32) (M0_45 : Mo) (H : Heap) (locs : List Loc) (ls : Array Slot), wp_X6_keep_L45 post x1 n45 x2_45 M0_45 → gP E (gW [bModel E a0 M0_45]) H → va_D A (gW [bModel E a0 M0_45]) → va_S A s.heap H locs → lv_has ls 3 [(0, .ref (a0 99)), (1, .int x1), (2, .int x2_45)] → W p l e { frames := 1, cells := 0, slots := 0, locals := 25 } s m ([.ref (a0 99), .int x1] : List Value).toArray below meth c H locs 0 0 Q (F0 m 45 ls []) := by
            intro n45
            induction n45 with
            | zero => intro x2_45 M0_45 H locs ls h; exact h.elim
            | succ n45 ih45 =>
              intro x2_45 M0_45 H locs ls h hP hD hS hl
              rw [wp_X6_keep_L45] at h
              refine lv_iload_n hx hb dX6_keep_45 rfl (lv_at hl 2 rfl) ?_
              refine lv_sipush (v := 320) hx hb dX6_keep_46 (by decide) ?_
              refine lv_icmp_ge (tgt := 76) hx hb dX6_keep_49 (by decide) (fun c_12 => ?_) (fun c_12 => ?_)
              · have h := h.1 c_12
                refine lv_aload_n hx hb dX6_keep_76 rfl (lv_at hl 0 rfl) ?_
                refine va_get (D := (E.1, E.2.1)) (ci := 6) (v := .ref (a0 12)) (C := RX6) (T := TX6) (N := 26) hx hb ht wu_X6 hown hK hP 0 rfl rfl 12 (by decide) (ht _ wk_X6_32) (fun _ h9 => h9) rfl dX6_keep_77 ?_
                refine lv_iload_n hx hb dX6_keep_80 rfl (lv_at hl 1 rfl) ?_
                refine lv_aload_n hx hb dX6_keep_81 rfl (lv_at hl 0 rfl) ?_
                refine va_get (D := (E.1, E.2.1)) (ci := 6) (v := .int (M0_45.1.1 9)) (C := RX6) (T := TX6) (N := 26) hx hb ht wu_X6 hown hK hP 0 rfl rfl 9 (by decide) (ht _ wk_X6_112) (fun _ h9 => h9) rfl dX6_keep_82 ?_
                refine va_iast hx hb hK hP hD hS 7 0 rfl rfl h.1 dX6_keep_85 (fun H locs hP hD hS => ?_)
                have h := h.2
                have hP : gP E (gW [bModel E a0 (pma M0_45 12 (x1.toNatClampNeg) (M0_45.1.1 9))]) H := hP
                have hD : va_D A (gW [bModel E a0 (pma M0_45 12 (x1.toNatClampNeg) (M0_45.1.1 9))]) := hD
                refine lv_aload_n hx hb dX6_keep_86 rfl (lv_at hl 0 rfl) ?_
                refine lv_dup hx hb dX6_keep_87 rfl ?_
                refine va_get (D := (E.1, E.2.1)) (ci := 6) (v := .int ((pma M0_45 12 (x1.toNatClampNeg) (M0_45.1.1 9)).1.1 10)) (C := RX6) (T := TX6) (N := 26) hx hb ht wu_X6 hown hK hP 0 rfl rfl 10 (by decide) (ht _ wk_X6_115) (fun _ h9 => h9) rfl dX6_keep_88 ?_
                refine lv_iconst (v := 1) hx hb dX6_keep_91 (by decide) ?_
                refine lv_iload_n hx hb dX6_keep_92 rfl (lv_at hl 1 rfl) ?_
                refine lv_ishl hx hb dX6_keep_93 ?_
                refine lv_ior hx hb dX6_keep_94 ?_
                refine va_put (D := (E.1, E.2.1)) (ci := 6) (v := .int (((pma M0_45 12 (x1.toNatClampNeg) (M0_45.1.1 9)).1.1 10) ||| ((1 : Int32) <<< (x1 &&& 31)))) (ty := .int) (C := RX6) (T := TX6) (N := 26) hx hb ht wu_X6 tyX6 tyX6_ok nmX6 hown hK hP hD hS 0 rfl rfl 10 (by decide) (ht _ wk_X6_115) (fun _ h9 => h9) rfl (by decide +kernel) rfl rfl (Nat.le_of_ble_eq_true rfl) dX6_keep_95 (fun H locs hP hD hS => ?_)
                have hP : gP E (gW [bModel E a0 (pmf (pma M0_45 12 (x1.toNatClampNeg) (M0_45.1.1 9)) 10 (((pma M0_45 12 (x1.toNatClampNeg) (M0_45.1.1 9)).1.1 10) ||| ((1 : Int32) <<< (x1 &&& 31))))]) H := hP
                have hD : va_D A (gW [bModel E a0 (pmf (pma M0_45 12 (x1.toNatClampNeg) (M0_45.1.1 9)) 10 (((pma M0_45 12 (x1.toNatClampNeg) (M0_45.1.1 9)).1.1 10) ||| ((1 : Int32) <<< (x1 &&& 31))))]) := hD
                obtain ⟨M_13, eM_13⟩ : ∃ z : Mo, z = (pmf (pma M0_45 12 (x1.toNatClampNeg) (M0_45.1.1 9)) 10 (((pma M0_45 12 (x1.toNatClampNeg) (M0_45.1.1 9)).1.1 10) ||| ((1 : Int32) <<< (x1 &&& 31)))) := ⟨_, rfl⟩
                have h := h M_13 eM_13
                rw [← eM_13] at hP hD
                refine lv_aload_n hx hb dX6_keep_98 rfl (lv_at hl 0 rfl) ?_
                refine va_get (D := (E.1, E.2.1)) (ci := 6) (v := .ref (a0 7)) (C := RX6) (T := TX6) (N := 26) hx hb ht wu_X6 hown hK hP 0 rfl rfl 7 (by decide) (ht _ wk_X6_23) (fun _ h9 => h9) rfl dX6_keep_99 ?_
                refine lv_bipush (v := 8) hx hb dX6_keep_102 (by decide) ?_
                refine va_iald hx hb hK hP 4 0 rfl rfl (by unfold vp_in; decide) dX6_keep_104 ?_
                refine lv_asi (x' := (M_13.1.2 7 8)) rfl ?_
                exact hret (M_13.1.2 7 8) M_13 _ _ _ _ _ h rfl hP hD hS dX6_keep_105
              · have h := h.2 c_12
                refine lv_aload_n hx hb dX6_keep_52 rfl (lv_at hl 0 rfl) ?_
                refine va_get (D := (E.1, E.2.1)) (ci := 6) (v := .ref (a0 13)) (C := RX6) (T := TX6) (N := 26) hx hb ht wu_X6 hown hK hP 0 rfl rfl 13 (by decide) (ht _ wk_X6_35) (fun _ h9 => h9) rfl dX6_keep_53 ?_
                refine lv_sipush (v := 320) hx hb dX6_keep_56 (by decide) ?_
                refine lv_iload_n hx hb dX6_keep_59 rfl (lv_at hl 1 rfl) ?_
                refine lv_imul hx hb dX6_keep_60 ?_
                refine lv_iload_n hx hb dX6_keep_61 rfl (lv_at hl 2 rfl) ?_
                refine lv_iadd hx hb dX6_keep_62 ?_
                refine lv_aload_n hx hb dX6_keep_63 rfl (lv_at hl 0 rfl) ?_
                refine va_get (D := (E.1, E.2.1)) (ci := 6) (v := .ref (a0 8)) (C := RX6) (T := TX6) (N := 26) hx hb ht wu_X6 hown hK hP 0 rfl rfl 8 (by decide) (ht _ wk_X6_26) (fun _ h9 => h9) rfl dX6_keep_64 ?_
                refine lv_iload_n hx hb dX6_keep_67 rfl (lv_at hl 2 rfl) ?_
                refine va_iald hx hb hK hP 5 0 rfl rfl h.1 dX6_keep_68 ?_
                have h := h.2
                refine va_iast hx hb hK hP hD hS 8 0 rfl rfl h.1 dX6_keep_69 (fun H locs hP hD hS => ?_)
                have h := h.2
                have hP : gP E (gW [bModel E a0 (pma M0_45 13 (((320 * x1) + x2_45).toNatClampNeg) (M0_45.1.2 8 x2_45.toNatClampNeg))]) H := hP
                have hD : va_D A (gW [bModel E a0 (pma M0_45 13 (((320 * x1) + x2_45).toNatClampNeg) (M0_45.1.2 8 x2_45.toNatClampNeg))]) := hD
                obtain ⟨M_14, eM_14⟩ : ∃ z : Mo, z = (pma M0_45 13 (((320 * x1) + x2_45).toNatClampNeg) (M0_45.1.2 8 x2_45.toNatClampNeg)) := ⟨_, rfl⟩
                have h := h M_14 eM_14
                rw [← eM_14] at hP hD
                refine lv_iinc (v := (x2_45 + 1)) (lv' := [(2, .int (x2_45 + 1)), (0, .ref (a0 99)), (1, .int x1)]) hx hb dX6_keep_70 hl (k := 2) rfl rfl (by decide) rfl (fun ls hl => ?_)
                refine lv_goto (tgt := 45) hx hb dX6_keep_73 (by decide) ?_
                exact ih45 (x2_45 + 1) M_14 _ _ _ h hP hD hS (lv_sub hl [1, 2, 0] rfl)
          obtain ⟨n45, h⟩ := h
          exact L45 n45 0 M0_14 _ _ _ h hP hD hS (lv_sub hl [1, 2, 0] rfl)
        · have h := h.2 c_11
          refine lv_aload_n hx hb dX6_keep_20 rfl (lv_at hl 0 rfl) ?_
          refine va_get (D := (E.1, E.2.1)) (ci := 6) (v := .ref (a0 11)) (C := RX6) (T := TX6) (N := 26) hx hb ht wu_X6 hown hK hP 0 rfl rfl 11 (by decide) (ht _ wk_X6_29) (fun _ h9 => h9) rfl dX6_keep_21 ?_
          refine lv_bipush (v := 32) hx hb dX6_keep_24 (by decide) ?_
          refine lv_iload_n hx hb dX6_keep_26 rfl (lv_at hl 1 rfl) ?_
          refine lv_imul hx hb dX6_keep_27 ?_
          refine lv_iload_n hx hb dX6_keep_28 rfl (lv_at hl 2 rfl) ?_
          refine lv_iadd hx hb dX6_keep_29 ?_
          refine lv_aload_n hx hb dX6_keep_30 rfl (lv_at hl 0 rfl) ?_
          refine va_get (D := (E.1, E.2.1)) (ci := 6) (v := .ref (a0 7)) (C := RX6) (T := TX6) (N := 26) hx hb ht wu_X6 hown hK hP 0 rfl rfl 7 (by decide) (ht _ wk_X6_23) (fun _ h9 => h9) rfl dX6_keep_31 ?_
          refine lv_iload_n hx hb dX6_keep_34 rfl (lv_at hl 2 rfl) ?_
          refine va_iald hx hb hK hP 4 0 rfl rfl h.1 dX6_keep_35 ?_
          have h := h.2
          refine va_iast hx hb hK hP hD hS 6 0 rfl rfl h.1 dX6_keep_36 (fun H locs hP hD hS => ?_)
          have h := h.2
          have hP : gP E (gW [bModel E a0 (pma M0_14 11 (((32 * x1) + x2_14).toNatClampNeg) (M0_14.1.2 7 x2_14.toNatClampNeg))]) H := hP
          have hD : va_D A (gW [bModel E a0 (pma M0_14 11 (((32 * x1) + x2_14).toNatClampNeg) (M0_14.1.2 7 x2_14.toNatClampNeg))]) := hD
          obtain ⟨M_15, eM_15⟩ : ∃ z : Mo, z = (pma M0_14 11 (((32 * x1) + x2_14).toNatClampNeg) (M0_14.1.2 7 x2_14.toNatClampNeg)) := ⟨_, rfl⟩
          have h := h M_15 eM_15
          rw [← eM_15] at hP hD
          refine lv_iinc (v := (x2_14 + 1)) (lv' := [(2, .int (x2_14 + 1)), (0, .ref (a0 99)), (1, .int x1)]) hx hb dX6_keep_37 hl (k := 2) rfl rfl (by decide) rfl (fun ls hl => ?_)
          refine lv_goto (tgt := 14) hx hb dX6_keep_40 (by decide) ?_
          exact ih14 (x2_14 + 1) M_15 _ _ _ h hP hD hS (lv_sub hl [1, 2, 0] rfl)
    obtain ⟨n14, h⟩ := h
    exact L14 n14 0 M0 _ _ _ h hP hD hS (lv_sub hl [1, 2, 0] rfl)
  · have h := h.2 c_2
    refine lv_iconst (v := (-1)) hx hb dX6_keep_10 (by decide) ?_
    exact hret (-1) M0 _ _ _ _ _ h rfl hP hD hS dX6_keep_11
theorem dX6_back_0 : decode cX6_back 0 = .ok (.iload_n 1, 1) := by decide +kernel
theorem dX6_back_1 : decode cX6_back 1 = .ok (.i2l, 1) := by decide +kernel
theorem dX6_back_2 : decode cX6_back 2 = .ok (.lconst 0, 1) := by decide +kernel
theorem dX6_back_3 : decode cX6_back 3 = .ok (.lconst 1, 1) := by decide +kernel
theorem dX6_back_4 : decode cX6_back 4 = .ok (.invokestatic 55, 3) := by decide +kernel
theorem dX6_back_7 : decode cX6_back 7 = .ok (.ifCond .ne 5, 3) := by decide +kernel
theorem dX6_back_10 : decode cX6_back 10 = .ok (.iconst (-1), 1) := by decide +kernel
theorem dX6_back_11 : decode cX6_back 11 = .ok (.ireturn, 1) := by decide +kernel
theorem dX6_back_12 : decode cX6_back 12 = .ok (.aload_n 0, 1) := by decide +kernel
theorem dX6_back_13 : decode cX6_back 13 = .ok (.getfield 115, 3) := by decide +kernel
theorem dX6_back_16 : decode cX6_back 16 = .ok (.iload_n 1, 1) := by decide +kernel
theorem dX6_back_17 : decode cX6_back 17 = .ok (.invokestatic 125, 3) := by decide +kernel
theorem dX6_back_20 : decode cX6_back 20 = .ok (.ifCond .ne 6, 3) := by decide +kernel
theorem dX6_back_23 : decode cX6_back 23 = .ok (.bipush (-2), 2) := by decide +kernel
theorem dX6_back_25 : decode cX6_back 25 = .ok (.ireturn, 1) := by decide +kernel
theorem dX6_back_26 : decode cX6_back 26 = .ok (.iconst 0, 1) := by decide +kernel
theorem dX6_back_27 : decode cX6_back 27 = .ok (.istore_n 2, 1) := by decide +kernel
theorem dX6_back_28 : decode cX6_back 28 = .ok (.iload_n 2, 1) := by decide +kernel
theorem dX6_back_29 : decode cX6_back 29 = .ok (.bipush 32, 2) := by decide +kernel
theorem dX6_back_31 : decode cX6_back 31 = .ok (.if_icmp .ge 26, 3) := by decide +kernel
theorem dX6_back_34 : decode cX6_back 34 = .ok (.aload_n 0, 1) := by decide +kernel
theorem dX6_back_35 : decode cX6_back 35 = .ok (.getfield 23, 3) := by decide +kernel
theorem dX6_back_38 : decode cX6_back 38 = .ok (.iload_n 2, 1) := by decide +kernel
theorem dX6_back_39 : decode cX6_back 39 = .ok (.aload_n 0, 1) := by decide +kernel
theorem dX6_back_40 : decode cX6_back 40 = .ok (.getfield 29, 3) := by decide +kernel
theorem dX6_back_43 : decode cX6_back 43 = .ok (.bipush 32, 2) := by decide +kernel
theorem dX6_back_45 : decode cX6_back 45 = .ok (.iload_n 1, 1) := by decide +kernel
theorem dX6_back_46 : decode cX6_back 46 = .ok (.imul, 1) := by decide +kernel
theorem dX6_back_47 : decode cX6_back 47 = .ok (.iload_n 2, 1) := by decide +kernel
theorem dX6_back_48 : decode cX6_back 48 = .ok (.iadd, 1) := by decide +kernel
theorem dX6_back_49 : decode cX6_back 49 = .ok (.iaload, 1) := by decide +kernel
theorem dX6_back_50 : decode cX6_back 50 = .ok (.iastore, 1) := by decide +kernel
theorem dX6_back_51 : decode cX6_back 51 = .ok (.iinc 2 1, 3) := by decide +kernel
theorem dX6_back_54 : decode cX6_back 54 = .ok (.goto (-26), 3) := by decide +kernel
theorem dX6_back_57 : decode cX6_back 57 = .ok (.iconst 0, 1) := by decide +kernel
theorem dX6_back_58 : decode cX6_back 58 = .ok (.istore_n 2, 1) := by decide +kernel
theorem dX6_back_59 : decode cX6_back 59 = .ok (.iload_n 2, 1) := by decide +kernel
theorem dX6_back_60 : decode cX6_back 60 = .ok (.sipush 320, 3) := by decide +kernel
theorem dX6_back_63 : decode cX6_back 63 = .ok (.if_icmp .ge 27, 3) := by decide +kernel
theorem dX6_back_66 : decode cX6_back 66 = .ok (.aload_n 0, 1) := by decide +kernel
theorem dX6_back_67 : decode cX6_back 67 = .ok (.getfield 26, 3) := by decide +kernel
theorem dX6_back_70 : decode cX6_back 70 = .ok (.iload_n 2, 1) := by decide +kernel
theorem dX6_back_71 : decode cX6_back 71 = .ok (.aload_n 0, 1) := by decide +kernel
theorem dX6_back_72 : decode cX6_back 72 = .ok (.getfield 35, 3) := by decide +kernel
theorem dX6_back_75 : decode cX6_back 75 = .ok (.sipush 320, 3) := by decide +kernel
theorem dX6_back_78 : decode cX6_back 78 = .ok (.iload_n 1, 1) := by decide +kernel
theorem dX6_back_79 : decode cX6_back 79 = .ok (.imul, 1) := by decide +kernel
theorem dX6_back_80 : decode cX6_back 80 = .ok (.iload_n 2, 1) := by decide +kernel
theorem dX6_back_81 : decode cX6_back 81 = .ok (.iadd, 1) := by decide +kernel
theorem dX6_back_82 : decode cX6_back 82 = .ok (.iaload, 1) := by decide +kernel
theorem dX6_back_83 : decode cX6_back 83 = .ok (.iastore, 1) := by decide +kernel
theorem dX6_back_84 : decode cX6_back 84 = .ok (.iinc 2 1, 3) := by decide +kernel
theorem dX6_back_87 : decode cX6_back 87 = .ok (.goto (-28), 3) := by decide +kernel
theorem dX6_back_90 : decode cX6_back 90 = .ok (.aload_n 0, 1) := by decide +kernel
theorem dX6_back_91 : decode cX6_back 91 = .ok (.aload_n 0, 1) := by decide +kernel
theorem dX6_back_92 : decode cX6_back 92 = .ok (.getfield 32, 3) := by decide +kernel
theorem dX6_back_95 : decode cX6_back 95 = .ok (.iload_n 1, 1) := by decide +kernel
theorem dX6_back_96 : decode cX6_back 96 = .ok (.iaload, 1) := by decide +kernel
theorem dX6_back_97 : decode cX6_back 97 = .ok (.putfield 112, 3) := by decide +kernel
theorem dX6_back_100 : decode cX6_back 100 = .ok (.aload_n 0, 1) := by decide +kernel
theorem dX6_back_101 : decode cX6_back 101 = .ok (.getfield 23, 3) := by decide +kernel
theorem dX6_back_104 : decode cX6_back 104 = .ok (.bipush 8, 2) := by decide +kernel
theorem dX6_back_106 : decode cX6_back 106 = .ok (.iaload, 1) := by decide +kernel
theorem dX6_back_107 : decode cX6_back 107 = .ok (.ireturn, 1) := by decide +kernel
set_option maxHeartbeats 4000000 in
set_option maxRecDepth 100000 in
theorem c_X6_back (E : GE) (l : Launch) (a0 : Nat → Nat) (M0 : Mo) (x1 : Int32) (post : Int32 → Mo → Prop) (h : wp_X6_back M0 x1 post) : Met l yX6_back (wz yX6_back cX6_back 3 (some .int)) { frames := 1, cells := 0, slots := 0, locals := 25 } (gPc E [.ref (a0 99), .int x1] (gW [bModel E a0 M0])) (gQi E (gW [bModel E a0 M0]) (fun r (u : Mo) => post r u) (fun (u : Mo) w => w = gW [bModel E a0 u])) 0 0 (gIn (gW [bModel E a0 M0])) := by
  unfold wp_X6_back at h
  refine g_of_i (by decide) (Nat.le_of_ble_eq_true rfl) ?_
  intro p e s m below meth c A Q hx hb hml hown ht hE hP hD hret ls hl
  have hK := hE.1
  have hS : va_S A s.heap s.heap [] := va_S.rf
  have hl : lv_has ls 3 [(0, .ref (a0 99)), (1, .int x1)] := hl
  refine lv_iload_n hx hb dX6_back_0 rfl (lv_at hl 1 rfl) ?_
  refine lv_i2l (v := x1.toInt64) hx hb dX6_back_1 rfl ?_
  refine lv_lconst (v := 0) hx hb dX6_back_2 (by decide) ?_
  refine lv_lconst (v := 1) hx hb dX6_back_3 (by decide) ?_
  have p1 := gB (n := 1) (bs := [bModel E a0 M0]) (bc := []) (br := [bModel E a0 M0]) [0] rfl rfl (by decide)
  refine g_i (g_runS (As := [.long (x1.toInt64), .long 0, .long 1]) (rest := []) ⟨hx, hb, hml, hown, ht⟩ hE (c_X6_in E l (x1.toInt64) 0 1 _ h) ⟨rfl, rfl⟩ wk_X6_55 wt_X6_in wn_X6 wc_X6_in yd_X6_in ⟨Nat.le_of_ble_eq_true rfl, Nat.le_of_ble_eq_true rfl⟩ hP hD p1 rfl rfl hl.1 rfl (lv_room (Nat.le_of_ble_eq_true rfl)) dX6_back_4 ⟨Nat.zero_le _, Nat.zero_le _⟩) hP hD hS p1 (fun r_1 _ w H locs h hw hP hD hS => ?_)
  subst hw
  clear p1
  have p2 := gB (n := 1) (bs := [bModel E a0 M0]) (bc := []) (br := [bModel E a0 M0]) [0] rfl rfl (by decide)
  have hP := gP_perm p2.symm hP
  have hD := gD_perm p2.symm hD
  clear p2
  refine lv_if_ne (tgt := 12) hx hb dX6_back_7 (by decide) (fun c_2 => ?_) (fun c_2 => ?_)
  · have h := h.1 c_2
    refine lv_aload_n hx hb dX6_back_12 rfl (lv_at hl 0 rfl) ?_
    refine va_get (D := (E.1, E.2.1)) (ci := 6) (v := .int (M0.1.1 10)) (C := RX6) (T := TX6) (N := 26) hx hb ht wu_X6 hown hK hP 0 rfl rfl 10 (by decide) (ht _ wk_X6_115) (fun _ h9 => h9) rfl dX6_back_13 ?_
    refine lv_iload_n hx hb dX6_back_16 rfl (lv_at hl 1 rfl) ?_
    have p1 := gB (n := 1) (bs := [bModel E a0 M0]) (bc := []) (br := [bModel E a0 M0]) [0] rfl rfl (by decide)
    refine g_i (g_runS (As := [.int (M0.1.1 10), .int x1]) (rest := []) ⟨hx, hb, hml, hown, ht⟩ hE (c_X6_has E l (M0.1.1 10) x1 _ h) ⟨rfl, rfl⟩ wk_X6_125 wt_X6_has wn_X6 wc_X6_has yd_X6_has ⟨Nat.le_of_ble_eq_true rfl, Nat.le_of_ble_eq_true rfl⟩ hP hD p1 rfl rfl hl.1 rfl (lv_room (Nat.le_of_ble_eq_true rfl)) dX6_back_17 ⟨Nat.zero_le _, Nat.zero_le _⟩) hP hD hS p1 (fun r_3 _ w H locs h hw hP hD hS => ?_)
    subst hw
    clear p1
    have p2 := gB (n := 1) (bs := [bModel E a0 M0]) (bc := []) (br := [bModel E a0 M0]) [0] rfl rfl (by decide)
    have hP := gP_perm p2.symm hP
    have hD := gD_perm p2.symm hD
    clear p2
    refine lv_if_ne (tgt := 26) hx hb dX6_back_20 (by decide) (fun c_4 => ?_) (fun c_4 => ?_)
    · have h := h.1 c_4
      refine lv_iconst (v := 0) hx hb dX6_back_26 (by decide) ?_
      refine lv_istore_n (lv' := [(2, .int 0), (0, .ref (a0 99)), (1, .int x1)]) hx hb dX6_back_27 rfl hl (by decide) rfl (fun ls hl => ?_)
      have L28 : ∀ (n28 : Nat) (x2_28 : Int32) (M0_28 : Mo) (H : Heap) (locs : List Loc) (ls : Array Slot), wp_X6_back_L28 post x1 n28 x2_28 M0_28 → gP E (gW [bModel E a0 M0_28]) H → va_D A (gW [bModel E a0 M0_28]) → va_S A s.heap H locs → lv_has ls 3 [(0, .ref (a0 99)), (1, .int x1), (2, .int x2_28)] → W p l e { frames := 1, cells := 0, slots := 0, locals := 25 } s m ([.ref (a0 99), .int x1] : List Value).toArray below meth c H locs 0 0 Q (F0 m 28 ls []) := by
        intro n28
        induction n28 with
        | zero => intro x2_28 M0_28 H locs ls h; exact h.elim
        | succ n28 ih28 =>
          intro x2_28 M0_28 H locs ls h hP hD hS hl
          rw [wp_X6_back_L28] at h
          refine lv_iload_n hx hb dX6_back_28 rfl (lv_at hl 2 rfl) ?_
          refine lv_bipush (v := 32) hx hb dX6_back_29 (by decide) ?_
          refine lv_icmp_ge (tgt := 57) hx hb dX6_back_31 (by decide) (fun c_11 => ?_) (fun c_11 => ?_)
          · have h := h.1 c_11
            refine lv_iconst (v := 0) hx hb dX6_back_57 (by decide) ?_
            refine lv_istore_n (lv' := [(2, .int 0), (0, .ref (a0 99)), (1, .int x1)]) hx hb dX6_back_58 rfl hl (by decide) rfl (fun ls hl => ?_)
            have L59 : ∀ (n59 : Nat) (x2_59 : Int32) (M0_59 : Mo) (H : Heap) (locs : List Loc) (ls : Array Slot), wp_X6_back_L59 post x1 n59 x2_59 M0_59 → gP E (gW [bModel E a0 M0_59]) H → va_D A (gW [bModel E a0 M0_59]) → va_S A s.heap H locs → lv_has ls 3 [(0, .ref (a0 99)), (1, .int x1), (2, .int x2_59)] → W p l e { frames := 1, cells := 0, slots := 0, locals := 25 } s m ([.ref (a0 99), .int x1] : List Value).toArray below meth c H locs 0 0 Q (F0 m 59 ls []) := by
              intro n59
              induction n59 with
              | zero => intro x2_59 M0_59 H locs ls h; exact h.elim
              | succ n59 ih59 =>
                intro x2_59 M0_59 H locs ls h hP hD hS hl
                rw [wp_X6_back_L59] at h
                refine lv_iload_n hx hb dX6_back_59 rfl (lv_at hl 2 rfl) ?_
                refine lv_sipush (v := 320) hx hb dX6_back_60 (by decide) ?_
                refine lv_icmp_ge (tgt := 90) hx hb dX6_back_63 (by decide) (fun c_12 => ?_) (fun c_12 => ?_)
                · have h := h.1 c_12
                  refine lv_aload_n hx hb dX6_back_90 rfl (lv_at hl 0 rfl) ?_
                  refine lv_aload_n hx hb dX6_back_91 rfl (lv_at hl 0 rfl) ?_
                  refine va_get (D := (E.1, E.2.1)) (ci := 6) (v := .ref (a0 12)) (C := RX6) (T := TX6) (N := 26) hx hb ht wu_X6 hown hK hP 0 rfl rfl 12 (by decide) (ht _ wk_X6_32) (fun _ h9 => h9) rfl dX6_back_92 ?_
                  refine lv_iload_n hx hb dX6_back_95 rfl (lv_at hl 1 rfl) ?_
                  refine va_iald hx hb hK hP 7 0 rfl rfl h.1 dX6_back_96 ?_
                  have h := h.2
                  refine va_put (D := (E.1, E.2.1)) (ci := 6) (v := .int (M0_59.1.2 12 x1.toNatClampNeg)) (ty := .int) (C := RX6) (T := TX6) (N := 26) hx hb ht wu_X6 tyX6 tyX6_ok nmX6 hown hK hP hD hS 0 rfl rfl 9 (by decide) (ht _ wk_X6_112) (fun _ h9 => h9) rfl (by decide +kernel) rfl rfl (Nat.le_of_ble_eq_true rfl) dX6_back_97 (fun H locs hP hD hS => ?_)
                  have hP : gP E (gW [bModel E a0 (pmf M0_59 9 (M0_59.1.2 12 x1.toNatClampNeg))]) H := hP
                  have hD : va_D A (gW [bModel E a0 (pmf M0_59 9 (M0_59.1.2 12 x1.toNatClampNeg))]) := hD
                  refine lv_aload_n hx hb dX6_back_100 rfl (lv_at hl 0 rfl) ?_
                  refine va_get (D := (E.1, E.2.1)) (ci := 6) (v := .ref (a0 7)) (C := RX6) (T := TX6) (N := 26) hx hb ht wu_X6 hown hK hP 0 rfl rfl 7 (by decide) (ht _ wk_X6_23) (fun _ h9 => h9) rfl dX6_back_101 ?_
                  refine lv_bipush (v := 8) hx hb dX6_back_104 (by decide) ?_
                  refine va_iald hx hb hK hP 4 0 rfl rfl (by unfold vp_in; decide) dX6_back_106 ?_
                  refine lv_asi (x' := ((pmf M0_59 9 (M0_59.1.2 12 x1.toNatClampNeg)).1.2 7 8)) rfl ?_
                  exact hret ((pmf M0_59 9 (M0_59.1.2 12 x1.toNatClampNeg)).1.2 7 8) (pmf M0_59 9 (M0_59.1.2 12 x1.toNatClampNeg)) _ _ _ _ _ h rfl hP hD hS dX6_back_107
                · have h := h.2 c_12
                  refine lv_aload_n hx hb dX6_back_66 rfl (lv_at hl 0 rfl) ?_
                  refine va_get (D := (E.1, E.2.1)) (ci := 6) (v := .ref (a0 8)) (C := RX6) (T := TX6) (N := 26) hx hb ht wu_X6 hown hK hP 0 rfl rfl 8 (by decide) (ht _ wk_X6_26) (fun _ h9 => h9) rfl dX6_back_67 ?_
                  refine lv_iload_n hx hb dX6_back_70 rfl (lv_at hl 2 rfl) ?_
                  refine lv_aload_n hx hb dX6_back_71 rfl (lv_at hl 0 rfl) ?_
                  refine va_get (D := (E.1, E.2.1)) (ci := 6) (v := .ref (a0 13)) (C := RX6) (T := TX6) (N := 26) hx hb ht wu_X6 hown hK hP 0 rfl rfl 13 (by decide) (ht _ wk_X6_35) (fun _ h9 => h9) rfl dX6_back_72 ?_
                  refine lv_sipush (v := 320) hx hb dX6_back_75 (by decide) ?_
                  refine lv_iload_n hx hb dX6_back_78 rfl (lv_at hl 1 rfl) ?_
                  refine lv_imul hx hb dX6_back_79 ?_
                  refine lv_iload_n hx hb dX6_back_80 rfl (lv_at hl 2 rfl) ?_
                  refine lv_iadd hx hb dX6_back_81 ?_
                  refine va_iald hx hb hK hP 8 0 rfl rfl h.1 dX6_back_82 ?_
                  have h := h.2
                  refine va_iast hx hb hK hP hD hS 5 0 rfl rfl h.1 dX6_back_83 (fun H locs hP hD hS => ?_)
                  have h := h.2
                  have hP : gP E (gW [bModel E a0 (pma M0_59 8 (x2_59.toNatClampNeg) (M0_59.1.2 13 ((320 * x1) + x2_59).toNatClampNeg))]) H := hP
                  have hD : va_D A (gW [bModel E a0 (pma M0_59 8 (x2_59.toNatClampNeg) (M0_59.1.2 13 ((320 * x1) + x2_59).toNatClampNeg))]) := hD
                  obtain ⟨M_13, eM_13⟩ : ∃ z : Mo, z = (pma M0_59 8 (x2_59.toNatClampNeg) (M0_59.1.2 13 ((320 * x1) + x2_59).toNatClampNeg)) := ⟨_, rfl⟩
                  have h := h M_13 eM_13
                  rw [← eM_13] at hP hD
                  refine lv_iinc (v := (x2_59 + 1)) (lv' := [(2, .int (x2_59 + 1)), (0, .ref (a0 99)), (1, .int x1)]) hx hb dX6_back_84 hl (k := 2) rfl rfl (by decide) rfl (fun ls hl => ?_)
                  refine lv_goto (tgt := 59) hx hb dX6_back_87 (by decide) ?_
                  exact ih59 (x2_59 + 1) M_13 _ _ _ h hP hD hS (lv_sub hl [1, 2, 0] rfl)
            obtain ⟨n59, h⟩ := h
            exact L59 n59 0 M0_28 _ _ _ h hP hD hS (lv_sub hl [1, 2, 0] rfl)
          · have h := h.2 c_11
            refine lv_aload_n hx hb dX6_back_34 rfl (lv_at hl 0 rfl) ?_
            refine va_get (D := (E.1, E.2.1)) (ci := 6) (v := .ref (a0 7)) (C := RX6) (T := TX6) (N := 26) hx hb ht wu_X6 hown hK hP 0 rfl rfl 7 (by decide) (ht _ wk_X6_23) (fun _ h9 => h9) rfl dX6_back_35 ?_
            refine lv_iload_n hx hb dX6_back_38 rfl (lv_at hl 2 rfl) ?_
            refine lv_aload_n hx hb dX6_back_39 rfl (lv_at hl 0 rfl) ?_
            refine va_get (D := (E.1, E.2.1)) (ci := 6) (v := .ref (a0 11)) (C := RX6) (T := TX6) (N := 26) hx hb ht wu_X6 hown hK hP 0 rfl rfl 11 (by decide) (ht _ wk_X6_29) (fun _ h9 => h9) rfl dX6_back_40 ?_
            refine lv_bipush (v := 32) hx hb dX6_back_43 (by decide) ?_
            refine lv_iload_n hx hb dX6_back_45 rfl (lv_at hl 1 rfl) ?_
            refine lv_imul hx hb dX6_back_46 ?_
            refine lv_iload_n hx hb dX6_back_47 rfl (lv_at hl 2 rfl) ?_
            refine lv_iadd hx hb dX6_back_48 ?_
            refine va_iald hx hb hK hP 6 0 rfl rfl h.1 dX6_back_49 ?_
            have h := h.2
            refine va_iast hx hb hK hP hD hS 4 0 rfl rfl h.1 dX6_back_50 (fun H locs hP hD hS => ?_)
            have h := h.2
            have hP : gP E (gW [bModel E a0 (pma M0_28 7 (x2_28.toNatClampNeg) (M0_28.1.2 11 ((32 * x1) + x2_28).toNatClampNeg))]) H := hP
            have hD : va_D A (gW [bModel E a0 (pma M0_28 7 (x2_28.toNatClampNeg) (M0_28.1.2 11 ((32 * x1) + x2_28).toNatClampNeg))]) := hD
            obtain ⟨M_14, eM_14⟩ : ∃ z : Mo, z = (pma M0_28 7 (x2_28.toNatClampNeg) (M0_28.1.2 11 ((32 * x1) + x2_28).toNatClampNeg)) := ⟨_, rfl⟩
            have h := h M_14 eM_14
            rw [← eM_14] at hP hD
            refine lv_iinc (v := (x2_28 + 1)) (lv' := [(2, .int (x2_28 + 1)), (0, .ref (a0 99)), (1, .int x1)]) hx hb dX6_back_51 hl (k := 2) rfl rfl (by decide) rfl (fun ls hl => ?_)
            refine lv_goto (tgt := 28) hx hb dX6_back_54 (by decide) ?_
            exact ih28 (x2_28 + 1) M_14 _ _ _ h hP hD hS (lv_sub hl [1, 2, 0] rfl)
      obtain ⟨n28, h⟩ := h
      exact L28 n28 0 M0 _ _ _ h hP hD hS (lv_sub hl [1, 2, 0] rfl)
    · have h := h.2 c_4
      refine lv_bipush (v := (-2)) hx hb dX6_back_23 (by decide) ?_
      exact hret (-2) M0 _ _ _ _ _ h rfl hP hD hS dX6_back_25
  · have h := h.2 c_2
    refine lv_iconst (v := (-1)) hx hb dX6_back_10 (by decide) ?_
    exact hret (-1) M0 _ _ _ _ _ h rfl hP hD hS dX6_back_11
theorem dX6_count_0 : decode cX6_count 0 = .ok (.iload_n 1, 1) := by decide +kernel
theorem dX6_count_1 : decode cX6_count 1 = .ok (.tableswitch 60 0 4 #[35, 40, 45, 50, 55], 35) := by decide +kernel
theorem dX6_count_36 : decode cX6_count 36 = .ok (.aload_n 0, 1) := by decide +kernel
theorem dX6_count_37 : decode cX6_count 37 = .ok (.getfield 7, 3) := by decide +kernel
theorem dX6_count_40 : decode cX6_count 40 = .ok (.ireturn, 1) := by decide +kernel
theorem dX6_count_41 : decode cX6_count 41 = .ok (.aload_n 0, 1) := by decide +kernel
theorem dX6_count_42 : decode cX6_count 42 = .ok (.getfield 109, 3) := by decide +kernel
theorem dX6_count_45 : decode cX6_count 45 = .ok (.ireturn, 1) := by decide +kernel
theorem dX6_count_46 : decode cX6_count 46 = .ok (.aload_n 0, 1) := by decide +kernel
theorem dX6_count_47 : decode cX6_count 47 = .ok (.getfield 118, 3) := by decide +kernel
theorem dX6_count_50 : decode cX6_count 50 = .ok (.ireturn, 1) := by decide +kernel
theorem dX6_count_51 : decode cX6_count 51 = .ok (.aload_n 0, 1) := by decide +kernel
theorem dX6_count_52 : decode cX6_count 52 = .ok (.getfield 112, 3) := by decide +kernel
theorem dX6_count_55 : decode cX6_count 55 = .ok (.ireturn, 1) := by decide +kernel
theorem dX6_count_56 : decode cX6_count 56 = .ok (.aload_n 0, 1) := by decide +kernel
theorem dX6_count_57 : decode cX6_count 57 = .ok (.getfield 59, 3) := by decide +kernel
theorem dX6_count_60 : decode cX6_count 60 = .ok (.ireturn, 1) := by decide +kernel
theorem dX6_count_61 : decode cX6_count 61 = .ok (.iconst (-1), 1) := by decide +kernel
theorem dX6_count_62 : decode cX6_count 62 = .ok (.ireturn, 1) := by decide +kernel
set_option maxHeartbeats 4000000 in
set_option maxRecDepth 100000 in
theorem c_X6_count (E : GE) (l : Launch) (a0 : Nat → Nat) (M0 : Mo) (x1 : Int32) (post : Int32 → Prop) (h : wp_X6_count M0 x1 post) : Met l yX6_count (wz yX6_count cX6_count 2 (some .int)) { frames := 0, cells := 0, slots := 0, locals := 0 } (gPc E [.ref (a0 99), .int x1] (gW [bModel E a0 M0])) (gQi E (gW [bModel E a0 M0]) (fun r (_ : Unit) => post r) (fun (_ : Unit) w => w = gW [bModel E a0 M0])) 0 0 (gIn (gW [bModel E a0 M0])) := by
  unfold wp_X6_count at h
  refine g_of_i (by decide) (Nat.le_of_ble_eq_true rfl) ?_
  intro p e s m below meth c A Q hx hb hml hown ht hE hP hD hret ls hl
  have hK := hE.1
  have hS : va_S A s.heap s.heap [] := va_S.rf
  have hl : lv_has ls 2 [(0, .ref (a0 99)), (1, .int x1)] := hl
  refine lv_iload_n hx hb dX6_count_0 rfl (lv_at hl 1 rfl) ?_
  rcases sw_0_4 x1 with c | c | c | c | c | c
  · have h := h.1 c
    refine lv_asi c ?_
    refine lv_tableIn (off := 35) (tgt := 36) hx hb dX6_count_1 (by decide) (by decide) rfl (by decide) ?_
    refine lv_aload_n hx hb dX6_count_36 rfl (lv_at hl 0 rfl) ?_
    refine va_get (D := (E.1, E.2.1)) (ci := 6) (v := .int (M0.1.1 0)) (C := RX6) (T := TX6) (N := 26) hx hb ht wu_X6 hown hK hP 0 rfl rfl 0 (by decide) (ht _ wk_X6_7) (fun _ h9 => h9) rfl dX6_count_37 ?_
    exact hret (M0.1.1 0) () _ _ _ _ _ h rfl hP hD hS dX6_count_40
  · have h := h.2.1 c
    refine lv_asi c ?_
    refine lv_tableIn (off := 40) (tgt := 41) hx hb dX6_count_1 (by decide) (by decide) rfl (by decide) ?_
    refine lv_aload_n hx hb dX6_count_41 rfl (lv_at hl 0 rfl) ?_
    refine va_get (D := (E.1, E.2.1)) (ci := 6) (v := .int (M0.1.1 1)) (C := RX6) (T := TX6) (N := 26) hx hb ht wu_X6 hown hK hP 0 rfl rfl 1 (by decide) (ht _ wk_X6_109) (fun _ h9 => h9) rfl dX6_count_42 ?_
    exact hret (M0.1.1 1) () _ _ _ _ _ h rfl hP hD hS dX6_count_45
  · have h := h.2.2.1 c
    refine lv_asi c ?_
    refine lv_tableIn (off := 45) (tgt := 46) hx hb dX6_count_1 (by decide) (by decide) rfl (by decide) ?_
    refine lv_aload_n hx hb dX6_count_46 rfl (lv_at hl 0 rfl) ?_
    refine va_get (D := (E.1, E.2.1)) (ci := 6) (v := .int (M0.1.1 16)) (C := RX6) (T := TX6) (N := 26) hx hb ht wu_X6 hown hK hP 0 rfl rfl 16 (by decide) (ht _ wk_X6_118) (fun _ h9 => h9) rfl dX6_count_47 ?_
    exact hret (M0.1.1 16) () _ _ _ _ _ h rfl hP hD hS dX6_count_50
  · have h := h.2.2.2.1 c
    refine lv_asi c ?_
    refine lv_tableIn (off := 50) (tgt := 51) hx hb dX6_count_1 (by decide) (by decide) rfl (by decide) ?_
    refine lv_aload_n hx hb dX6_count_51 rfl (lv_at hl 0 rfl) ?_
    refine va_get (D := (E.1, E.2.1)) (ci := 6) (v := .int (M0.1.1 9)) (C := RX6) (T := TX6) (N := 26) hx hb ht wu_X6 hown hK hP 0 rfl rfl 9 (by decide) (ht _ wk_X6_112) (fun _ h9 => h9) rfl dX6_count_52 ?_
    exact hret (M0.1.1 9) () _ _ _ _ _ h rfl hP hD hS dX6_count_55
  · have h := h.2.2.2.2.1 c
    refine lv_asi c ?_
    refine lv_tableIn (off := 55) (tgt := 56) hx hb dX6_count_1 (by decide) (by decide) rfl (by decide) ?_
    refine lv_aload_n hx hb dX6_count_56 rfl (lv_at hl 0 rfl) ?_
    refine va_get (D := (E.1, E.2.1)) (ci := 6) (v := .int (M0.1.1 14)) (C := RX6) (T := TX6) (N := 26) hx hb ht wu_X6 hown hK hP 0 rfl rfl 14 (by decide) (ht _ wk_X6_59) (fun _ h9 => h9) rfl dX6_count_57 ?_
    exact hret (M0.1.1 14) () _ _ _ _ _ h rfl hP hD hS dX6_count_60
  · have h := h.2.2.2.2.2 c
    refine lv_tableOut (tgt := 61) hx hb dX6_count_1 c (by decide) ?_
    refine lv_iconst (v := (-1)) hx hb dX6_count_61 (by decide) ?_
    exact hret (-1) () _ _ _ _ _ h rfl hP hD hS dX6_count_62
theorem dX6_trace_0 : decode cX6_trace 0 = .ok (.aload_n 0, 1) := by decide +kernel
theorem dX6_trace_1 : decode cX6_trace 1 = .ok (.getfield 195, 3) := by decide +kernel
theorem dX6_trace_4 : decode cX6_trace 4 = .ok (.lreturn, 1) := by decide +kernel
set_option maxHeartbeats 4000000 in
set_option maxRecDepth 100000 in
theorem c_X6_trace (E : GE) (l : Launch) (a0 : Nat → Nat) (M0 : Mo) (post : Int64 → Prop) (h : wp_X6_trace M0 post) : Met l yX6_trace (wz yX6_trace cX6_trace 1 (some .long)) { frames := 0, cells := 0, slots := 0, locals := 0 } (gPc E [.ref (a0 99)] (gW [bModel E a0 M0])) (gQl E (gW [bModel E a0 M0]) (fun r (_ : Unit) => post r) (fun (_ : Unit) w => w = gW [bModel E a0 M0])) 0 0 (gIn (gW [bModel E a0 M0])) := by
  unfold wp_X6_trace at h
  refine g_of_l (by decide) (Nat.le_of_ble_eq_true rfl) ?_
  intro p e s m below meth c A Q hx hb hml hown ht hE hP hD hret ls hl
  have hK := hE.1
  have hS : va_S A s.heap s.heap [] := va_S.rf
  have hl : lv_has ls 1 [(0, .ref (a0 99))] := hl
  refine lv_aload_n hx hb dX6_trace_0 rfl (lv_at hl 0 rfl) ?_
  refine va_get (D := (E.1, E.2.1)) (ci := 6) (v := .long (M0.2)) (C := RX6) (T := TX6) (N := 26) hx hb ht wu_X6 hown hK hP 0 rfl rfl 19 (by decide) (ht _ wk_X6_195) (fun _ h9 => h9) rfl dX6_trace_1 ?_
  exact hret (M0.2) () _ _ _ _ _ h rfl hP hD hS dX6_trace_4
