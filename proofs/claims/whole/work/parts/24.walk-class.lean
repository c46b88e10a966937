theorem sw_0_1 (x : Int32) : x = 0 ∨ x = 1 ∨ (x.toInt < 0 ∨ 1 < x.toInt) := by
  by_cases h0 : x = 0
  · exact Or.inl h0
  by_cases h1 : x = 1
  · exact Or.inr (Or.inl h1)
  refine Or.inr (Or.inr (?_))
  have g0 : x.toInt ≠ 0 := fun e => h0 (Int32.toInt_inj.mp (e.trans (by decide)))
  have g1 : x.toInt ≠ 1 := fun e => h1 (Int32.toInt_inj.mp (e.trans (by decide)))
  omega
theorem lk_out_0_1 {x : Int32} (h : x.toInt < 0 ∨ 1 < x.toInt) : Op.lookupswitch.offset (#[(0, 27), (1, 35)] : Array (Int × Int)).toList 60 x.toInt = 60 := by
  simp only [Op.lookupswitch.offset]
  rw [if_neg (by omega), if_neg (by omega)]
theorem dX5_type_0 : decode cX5_type 0 = .ok (.iload_n 1, 1) := by decide +kernel
theorem dX5_type_1 : decode cX5_type 1 = .ok (.ifCond .lt 10, 3) := by decide +kernel
theorem dX5_type_4 : decode cX5_type 4 = .ok (.iload_n 1, 1) := by decide +kernel
theorem dX5_type_5 : decode cX5_type 5 = .ok (.sipush 255, 3) := by decide +kernel
theorem dX5_type_8 : decode cX5_type 8 = .ok (.if_icmp .le 5, 3) := by decide +kernel
theorem dX5_type_11 : decode cX5_type 11 = .ok (.iconst (-1), 1) := by decide +kernel
theorem dX5_type_12 : decode cX5_type 12 = .ok (.ireturn, 1) := by decide +kernel
theorem dX5_type_13 : decode cX5_type 13 = .ok (.aload_n 0, 1) := by decide +kernel
theorem dX5_type_14 : decode cX5_type 14 = .ok (.getfield 10, 3) := by decide +kernel
theorem dX5_type_17 : decode cX5_type 17 = .ok (.iload_n 1, 1) := by decide +kernel
theorem dX5_type_18 : decode cX5_type 18 = .ok (.invokevirtual 52, 3) := by decide +kernel
theorem dX5_type_21 : decode cX5_type 21 = .ok (.ireturn, 1) := by decide +kernel
set_option maxHeartbeats 4000000 in
set_option maxRecDepth 100000 in
theorem c_X5_type (E : GE) (l : Launch) (G : Nat → Nat → Nat) (pl dr : Nat → Nat) (e0 e1 e2 : Nat → Nat → Nat) (Z0 : GC) (x1 : Int32) (post : Int32 → GC → Prop) (h : wp_X5_type Z0 x1 post) : Met l yX5_type (wz yX5_type cX5_type 2 (some .int)) { frames := 1, cells := 0, slots := 0, locals := 21 } (gPc E [.ref (G 0 99), .int x1] (gcW E G pl dr e0 e1 e2 Z0)) (gQi E (gcW E G pl dr e0 e1 e2 Z0) (fun r (u : GC) => post r u) (fun (u : GC) w => w = gcW E G pl dr e0 e1 e2 u)) 0 0 (gIn (gcW E G pl dr e0 e1 e2 Z0)) := by
  unfold wp_X5_type at h
  refine g_of_i (by decide) (Nat.le_of_ble_eq_true rfl) ?_
  intro p e s m below meth c A Q hx hb hml hown ht hE hP hD hret ls hl
  have hK := hE.1
  have hS : va_S A s.heap s.heap [] := va_S.rf
  have hl : lv_has ls 2 [(0, .ref (G 0 99)), (1, .int x1)] := hl
  refine lv_iload_n hx hb dX5_type_0 rfl (lv_at hl 1 rfl) ?_
  refine lv_if_lt (tgt := 11) hx hb dX5_type_1 (by decide) (fun c_1 => ?_) (fun c_1 => ?_)
  · have h := h.1 c_1
    refine lv_iconst (v := (-1)) hx hb dX5_type_11 (by decide) ?_
    exact hret (-1) Z0 _ _ _ _ _ h rfl hP hD hS dX5_type_12
  · have h := h.2 c_1
    refine lv_iload_n hx hb dX5_type_4 rfl (lv_at hl 1 rfl) ?_
    refine lv_sipush (v := 255) hx hb dX5_type_5 (by decide) ?_
    refine lv_icmp_le (tgt := 13) hx hb dX5_type_8 (by decide) (fun c_2 => ?_) (fun c_2 => ?_)
    · have h := h.1 c_2
      refine lv_aload_n hx hb dX5_type_13 rfl (lv_at hl 0 rfl) ?_
      refine va_get (D := (E.1, E.2.1)) (ci := 5) (v := .ref (G 1 99)) (C := RX5) (T := TX5) (N := 8) hx hb ht wu_X5 hown hK hP 0 rfl rfl 0 (by decide) (ht _ wk_X5_10) (fun _ h9 => h9) rfl dX5_type_14 ?_
      refine lv_iload_n hx hb dX5_type_17 rfl (lv_at hl 1 rfl) ?_
      have p1 := gB (n := 15) (bs := [bGC G (pl 99) (dr 99) Z0.1, bText E (G 1) (Z0.2.1 1), bNow E (G 2) (G 3) e0 (Z0.2.1 2), bScene E (G 3) (Z0.2.1 3), bPlan E pl (Z0.2.1 4), bPlan E dr (Z0.2.1 5), bRumour E (G 6) (Z0.2.1 6), bIm E G (Z0.2.1 7), bNow E (G 8) (G 10) e1 (Z0.2.1 8), bNow E (G 9) (G 11) e2 (Z0.2.1 9), bScene E (G 10) (Z0.2.1 10), bScene E (G 11) (Z0.2.1 11), bPool E e0 (Z0.2.2 0), bPool E e1 (Z0.2.2 1), bPool E e2 (Z0.2.2 2)]) (bc := [bText E (G 1) (Z0.2.1 1)]) (br := [bGC G (pl 99) (dr 99) Z0.1, bNow E (G 2) (G 3) e0 (Z0.2.1 2), bScene E (G 3) (Z0.2.1 3), bPlan E pl (Z0.2.1 4), bPlan E dr (Z0.2.1 5), bRumour E (G 6) (Z0.2.1 6), bIm E G (Z0.2.1 7), bNow E (G 8) (G 10) e1 (Z0.2.1 8), bNow E (G 9) (G 11) e2 (Z0.2.1 9), bScene E (G 10) (Z0.2.1 10), bScene E (G 11) (Z0.2.1 11), bPool E e0 (Z0.2.2 0), bPool E e1 (Z0.2.2 1), bPool E e2 (Z0.2.2 2)]) [1, 0, 2, 3, 4, 5, 6, 7, 8, 9, 10, 11, 12, 13, 14] rfl rfl (by decide)
      refine g_i (g_runV (As := [.int x1]) (rest := []) ⟨hx, hb, hml, hown, ht⟩ hE (c_X4_append E l (G 1) (Z0.2.1 1) x1 _ h) ⟨rfl, rfl⟩ wk_X5_52 wi_X4_append ws_X4_append wn_X4 wc_X4_append yd_X4_append ⟨Nat.le_of_ble_eq_true rfl, Nat.le_of_ble_eq_true rfl⟩ hP hD p1 (ci := 4) rfl rfl rfl rfl rfl hl.1 rfl (lv_room (Nat.le_of_ble_eq_true rfl)) dX5_type_18 ⟨Nat.zero_le _, Nat.zero_le _⟩) hP hD hS p1 (fun r_3 S_4 w H locs h hw hP hD hS => ?_)
      subst hw
      clear p1
      have p2 := gB (n := 15) (bs := [bGC G (pl 99) (dr 99) Z0.1, bText E (G 1) S_4, bNow E (G 2) (G 3) e0 (Z0.2.1 2), bScene E (G 3) (Z0.2.1 3), bPlan E pl (Z0.2.1 4), bPlan E dr (Z0.2.1 5), bRumour E (G 6) (Z0.2.1 6), bIm E G (Z0.2.1 7), bNow E (G 8) (G 10) e1 (Z0.2.1 8), bNow E (G 9) (G 11) e2 (Z0.2.1 9), bScene E (G 10) (Z0.2.1 10), bScene E (G 11) (Z0.2.1 11), bPool E e0 (Z0.2.2 0), bPool E e1 (Z0.2.2 1), bPool E e2 (Z0.2.2 2)]) (bc := [bText E (G 1) S_4]) (br := [bGC G (pl 99) (dr 99) Z0.1, bNow E (G 2) (G 3) e0 (Z0.2.1 2), bScene E (G 3) (Z0.2.1 3), bPlan E pl (Z0.2.1 4), bPlan E dr (Z0.2.1 5), bRumour E (G 6) (Z0.2.1 6), bIm E G (Z0.2.1 7), bNow E (G 8) (G 10) e1 (Z0.2.1 8), bNow E (G 9) (G 11) e2 (Z0.2.1 9), bScene E (G 10) (Z0.2.1 10), bScene E (G 11) (Z0.2.1 11), bPool E e0 (Z0.2.2 0), bPool E e1 (Z0.2.2 1), bPool E e2 (Z0.2.2 2)]) [1, 0, 2, 3, 4, 5, 6, 7, 8, 9, 10, 11, 12, 13, 14] rfl rfl (by decide)
      have hP := gP_perm p2.symm hP
      have hD := gD_perm p2.symm hD
      clear p2
      obtain ⟨Z_5, eZ_5⟩ : ∃ z : GC, z = (gx Z0 1 S_4) := ⟨_, rfl⟩
      have h := h Z_5 eZ_5
      have hP : gP E (gcW E G pl dr e0 e1 e2 Z_5) H := by rw [eZ_5]; exact hP
      have hD : va_D A (gcW E G pl dr e0 e1 e2 Z_5) := by rw [eZ_5]; exact hD
      exact hret r_3 Z_5 _ _ _ _ _ h rfl hP hD hS dX5_type_21
    · have h := h.2 c_2
      refine lv_iconst (v := (-1)) hx hb dX5_type_11 (by decide) ?_
      exact hret (-1) Z0 _ _ _ _ _ h rfl hP hD hS dX5_type_12
theorem dX5_clear_0 : decode cX5_clear 0 = .ok (.aload_n 0, 1) := by decide +kernel
theorem dX5_clear_1 : decode cX5_clear 1 = .ok (.getfield 10, 3) := by decide +kernel
theorem dX5_clear_4 : decode cX5_clear 4 = .ok (.invokevirtual 56, 3) := by decide +kernel
theorem dX5_clear_7 : decode cX5_clear 7 = .ok (.ireturn, 1) := by decide +kernel
set_option maxHeartbeats 4000000 in
set_option maxRecDepth 100000 in
theorem c_X5_clear (E : GE) (l : Launch) (G : Nat → Nat → Nat) (pl dr : Nat → Nat) (e0 e1 e2 : Nat → Nat → Nat) (Z0 : GC) (post : Int32 → GC → Prop) (h : wp_X5_clear Z0 post) : Met l yX5_clear (wz yX5_clear cX5_clear 1 (some .int)) { frames := 1, cells := 0, slots := 0, locals := 21 } (gPc E [.ref (G 0 99)] (gcW E G pl dr e0 e1 e2 Z0)) (gQi E (gcW E G pl dr e0 e1 e2 Z0) (fun r (u : GC) => post r u) (fun (u : GC) w => w = gcW E G pl dr e0 e1 e2 u)) 0 0 (gIn (gcW E G pl dr e0 e1 e2 Z0)) := by
  unfold wp_X5_clear at h
  refine g_of_i (by decide) (Nat.le_of_ble_eq_true rfl) ?_
  intro p e s m below meth c A Q hx hb hml hown ht hE hP hD hret ls hl
  have hK := hE.1
  have hS : va_S A s.heap s.heap [] := va_S.rf
  have hl : lv_has ls 1 [(0, .ref (G 0 99))] := hl
  refine lv_aload_n hx hb dX5_clear_0 rfl (lv_at hl 0 rfl) ?_
  refine va_get (D := (E.1, E.2.1)) (ci := 5) (v := .ref (G 1 99)) (C := RX5) (T := TX5) (N := 8) hx hb ht wu_X5 hown hK hP 0 rfl rfl 0 (by decide) (ht _ wk_X5_10) (fun _ h9 => h9) rfl dX5_clear_1 ?_
  have p1 := gB (n := 15) (bs := [bGC G (pl 99) (dr 99) Z0.1, bText E (G 1) (Z0.2.1 1), bNow E (G 2) (G 3) e0 (Z0.2.1 2), bScene E (G 3) (Z0.2.1 3), bPlan E pl (Z0.2.1 4), bPlan E dr (Z0.2.1 5), bRumour E (G 6) (Z0.2.1 6), bIm E G (Z0.2.1 7), bNow E (G 8) (G 10) e1 (Z0.2.1 8), bNow E (G 9) (G 11) e2 (Z0.2.1 9), bScene E (G 10) (Z0.2.1 10), bScene E (G 11) (Z0.2.1 11), bPool E e0 (Z0.2.2 0), bPool E e1 (Z0.2.2 1), bPool E e2 (Z0.2.2 2)]) (bc := [bText E (G 1) (Z0.2.1 1)]) (br := [bGC G (pl 99) (dr 99) Z0.1, bNow E (G 2) (G 3) e0 (Z0.2.1 2), bScene E (G 3) (Z0.2.1 3), bPlan E pl (Z0.2.1 4), bPlan E dr (Z0.2.1 5), bRumour E (G 6) (Z0.2.1 6), bIm E G (Z0.2.1 7), bNow E (G 8) (G 10) e1 (Z0.2.1 8), bNow E (G 9) (G 11) e2 (Z0.2.1 9), bScene E (G 10) (Z0.2.1 10), bScene E (G 11) (Z0.2.1 11), bPool E e0 (Z0.2.2 0), bPool E e1 (Z0.2.2 1), bPool E e2 (Z0.2.2 2)]) [1, 0, 2, 3, 4, 5, 6, 7, 8, 9, 10, 11, 12, 13, 14] rfl rfl (by decide)
  refine g_i (g_runV (As := []) (rest := []) ⟨hx, hb, hml, hown, ht⟩ hE (c_X4_empty E l (G 1) (Z0.2.1 1) _ h) ⟨rfl, rfl⟩ wk_X5_56 wi_X4_empty ws_X4_empty wn_X4 wc_X4_empty yd_X4_empty ⟨Nat.le_of_ble_eq_true rfl, Nat.le_of_ble_eq_true rfl⟩ hP hD p1 (ci := 4) rfl rfl rfl rfl rfl hl.1 rfl (lv_room (Nat.le_of_ble_eq_true rfl)) dX5_clear_4 ⟨Nat.zero_le _, Nat.zero_le _⟩) hP hD hS p1 (fun r_1 S_2 w H locs h hw hP hD hS => ?_)
  subst hw
  clear p1
  have p2 := gB (n := 15) (bs := [bGC G (pl 99) (dr 99) Z0.1, bText E (G 1) S_2, bNow E (G 2) (G 3) e0 (Z0.2.1 2), bScene E (G 3) (Z0.2.1 3), bPlan E pl (Z0.2.1 4), bPlan E dr (Z0.2.1 5), bRumour E (G 6) (Z0.2.1 6), bIm E G (Z0.2.1 7), bNow E (G 8) (G 10) e1 (Z0.2.1 8), bNow E (G 9) (G 11) e2 (Z0.2.1 9), bScene E (G 10) (Z0.2.1 10), bScene E (G 11) (Z0.2.1 11), bPool E e0 (Z0.2.2 0), bPool E e1 (Z0.2.2 1), bPool E e2 (Z0.2.2 2)]) (bc := [bText E (G 1) S_2]) (br := [bGC G (pl 99) (dr 99) Z0.1, bNow E (G 2) (G 3) e0 (Z0.2.1 2), bScene E (G 3) (Z0.2.1 3), bPlan E pl (Z0.2.1 4), bPlan E dr (Z0.2.1 5), bRumour E (G 6) (Z0.2.1 6), bIm E G (Z0.2.1 7), bNow E (G 8) (G 10) e1 (Z0.2.1 8), bNow E (G 9) (G 11) e2 (Z0.2.1 9), bScene E (G 10) (Z0.2.1 10), bScene E (G 11) (Z0.2.1 11), bPool E e0 (Z0.2.2 0), bPool E e1 (Z0.2.2 1), bPool E e2 (Z0.2.2 2)]) [1, 0, 2, 3, 4, 5, 6, 7, 8, 9, 10, 11, 12, 13, 14] rfl rfl (by decide)
  have hP := gP_perm p2.symm hP
  have hD := gD_perm p2.symm hD
  clear p2
  obtain ⟨Z_3, eZ_3⟩ : ∃ z : GC, z = (gx Z0 1 S_2) := ⟨_, rfl⟩
  have h := h Z_3 eZ_3
  have hP : gP E (gcW E G pl dr e0 e1 e2 Z_3) H := by rw [eZ_3]; exact hP
  have hD : va_D A (gcW E G pl dr e0 e1 e2 Z_3) := by rw [eZ_3]; exact hD
  exact hret r_1 Z_3 _ _ _ _ _ h rfl hP hD hS dX5_clear_7
theorem dX5_gate_0 : decode cX5_gate 0 = .ok (.aload_n 0, 1) := by decide +kernel
theorem dX5_gate_1 : decode cX5_gate 1 = .ok (.getfield 10, 3) := by decide +kernel
theorem dX5_gate_4 : decode cX5_gate 4 = .ok (.aload_n 0, 1) := by decide +kernel
theorem dX5_gate_5 : decode cX5_gate 5 = .ok (.getfield 45, 3) := by decide +kernel
theorem dX5_gate_8 : decode cX5_gate 8 = .ok (.invokevirtual 60, 3) := by decide +kernel
theorem dX5_gate_11 : decode cX5_gate 11 = .ok (.istore_n 1, 1) := by decide +kernel
theorem dX5_gate_12 : decode cX5_gate 12 = .ok (.iload_n 1, 1) := by decide +kernel
theorem dX5_gate_13 : decode cX5_gate 13 = .ok (.ifCond .ge 5, 3) := by decide +kernel
theorem dX5_gate_16 : decode cX5_gate 16 = .ok (.iload_n 1, 1) := by decide +kernel
theorem dX5_gate_17 : decode cX5_gate 17 = .ok (.ireturn, 1) := by decide +kernel
theorem dX5_gate_18 : decode cX5_gate 18 = .ok (.aload_n 0, 1) := by decide +kernel
theorem dX5_gate_19 : decode cX5_gate 19 = .ok (.getfield 41, 3) := by decide +kernel
theorem dX5_gate_22 : decode cX5_gate 22 = .ok (.astore_n 2, 1) := by decide +kernel
theorem dX5_gate_23 : decode cX5_gate 23 = .ok (.aload_n 0, 1) := by decide +kernel
theorem dX5_gate_24 : decode cX5_gate 24 = .ok (.aload_n 0, 1) := by decide +kernel
theorem dX5_gate_25 : decode cX5_gate 25 = .ok (.getfield 45, 3) := by decide +kernel
theorem dX5_gate_28 : decode cX5_gate 28 = .ok (.putfield 41, 3) := by decide +kernel
theorem dX5_gate_31 : decode cX5_gate 31 = .ok (.aload_n 0, 1) := by decide +kernel
theorem dX5_gate_32 : decode cX5_gate 32 = .ok (.aload_n 2, 1) := by decide +kernel
theorem dX5_gate_33 : decode cX5_gate 33 = .ok (.putfield 45, 3) := by decide +kernel
theorem dX5_gate_36 : decode cX5_gate 36 = .ok (.aload_n 0, 1) := by decide +kernel
theorem dX5_gate_37 : decode cX5_gate 37 = .ok (.getfield 10, 3) := by decide +kernel
theorem dX5_gate_40 : decode cX5_gate 40 = .ok (.invokevirtual 56, 3) := by decide +kernel
theorem dX5_gate_43 : decode cX5_gate 43 = .ok (.pop, 1) := by decide +kernel
theorem dX5_gate_44 : decode cX5_gate 44 = .ok (.aload_n 0, 1) := by decide +kernel
theorem dX5_gate_45 : decode cX5_gate 45 = .ok (.getfield 19, 3) := by decide +kernel
theorem dX5_gate_48 : decode cX5_gate 48 = .ok (.aload_n 0, 1) := by decide +kernel
theorem dX5_gate_49 : decode cX5_gate 49 = .ok (.getfield 41, 3) := by decide +kernel
theorem dX5_gate_52 : decode cX5_gate 52 = .ok (.invokevirtual 64, 3) := by decide +kernel
theorem dX5_gate_55 : decode cX5_gate 55 = .ok (.aload_n 0, 1) := by decide +kernel
theorem dX5_gate_56 : decode cX5_gate 56 = .ok (.getfield 34, 3) := by decide +kernel
theorem dX5_gate_59 : decode cX5_gate 59 = .ok (.invokevirtual 68, 3) := by decide +kernel
theorem dX5_gate_62 : decode cX5_gate 62 = .ok (.iconst 0, 1) := by decide +kernel
theorem dX5_gate_63 : decode cX5_gate 63 = .ok (.istore_n 3, 1) := by decide +kernel
theorem dX5_gate_64 : decode cX5_gate 64 = .ok (.iload_n 3, 1) := by decide +kernel
theorem dX5_gate_65 : decode cX5_gate 65 = .ok (.iconst 2, 1) := by decide +kernel
theorem dX5_gate_66 : decode cX5_gate 66 = .ok (.if_icmp .ge 16, 3) := by decide +kernel
theorem dX5_gate_69 : decode cX5_gate 69 = .ok (.aload_n 0, 1) := by decide +kernel
theorem dX5_gate_70 : decode cX5_gate 70 = .ok (.getfield 27, 3) := by decide +kernel
theorem dX5_gate_73 : decode cX5_gate 73 = .ok (.iload_n 3, 1) := by decide +kernel
theorem dX5_gate_74 : decode cX5_gate 74 = .ok (.iconst 0, 1) := by decide +kernel
theorem dX5_gate_75 : decode cX5_gate 75 = .ok (.bastore, 1) := by decide +kernel
theorem dX5_gate_76 : decode cX5_gate 76 = .ok (.iinc 3 1, 3) := by decide +kernel
theorem dX5_gate_79 : decode cX5_gate 79 = .ok (.goto (-15), 3) := by decide +kernel
theorem dX5_gate_82 : decode cX5_gate 82 = .ok (.iload_n 1, 1) := by decide +kernel
theorem dX5_gate_83 : decode cX5_gate 83 = .ok (.ireturn, 1) := by decide +kernel
set_option maxHeartbeats 4000000 in
set_option maxRecDepth 100000 in
theorem c_X5_gate (E : GE) (l : Launch) (G : Nat → Nat → Nat) (pl dr : Nat → Nat) (e0 e1 e2 : Nat → Nat → Nat) (Z0 : GC) (post : Int32 → GC → Prop) (h : wp_X5_gate Z0 post) : Met l yX5_gate (wz yX5_gate cX5_gate 4 (some .int)) { frames := 7, cells := 0, slots := 0, locals := 151 } (gPc E [.ref (G 0 99)] (gcW E G pl dr e0 e1 e2 Z0)) (gQi E (gcW E G pl dr e0 e1 e2 Z0) (fun r (u : GC) => post r u) (fun (u : GC) w => ∃ (pl dr : Nat → Nat) (e0 : Nat → Nat → Nat), w = gcW E G pl dr e0 e1 e2 u)) 0 0 (gIn (gcW E G pl dr e0 e1 e2 Z0)) := by
  unfold wp_X5_gate at h
  refine g_of_i (by decide) (Nat.le_of_ble_eq_true rfl) ?_
  intro p e s m below meth c A Q hx hb hml hown ht hE hP hD hret ls hl
  have hK := hE.1
  have hS : va_S A s.heap s.heap [] := va_S.rf
  have hl : lv_has ls 4 [(0, .ref (G 0 99))] := hl
  refine lv_aload_n hx hb dX5_gate_0 rfl (lv_at hl 0 rfl) ?_
  refine va_get (D := (E.1, E.2.1)) (ci := 5) (v := .ref (G 1 99)) (C := RX5) (T := TX5) (N := 8) hx hb ht wu_X5 hown hK hP 0 rfl rfl 0 (by decide) (ht _ wk_X5_10) (fun _ h9 => h9) rfl dX5_gate_1 ?_
  refine lv_aload_n hx hb dX5_gate_4 rfl (lv_at hl 0 rfl) ?_
  refine va_get (D := (E.1, E.2.1)) (ci := 5) (v := .ref (dr 99)) (C := RX5) (T := TX5) (N := 8) hx hb ht wu_X5 hown hK hP 0 rfl rfl 6 (by decide) (ht _ wk_X5_45) (fun _ h9 => h9) rfl dX5_gate_5 ?_
  have p1 := gB (n := 15) (bs := [bGC G (pl 99) (dr 99) Z0.1, bText E (G 1) (Z0.2.1 1), bNow E (G 2) (G 3) e0 (Z0.2.1 2), bScene E (G 3) (Z0.2.1 3), bPlan E pl (Z0.2.1 4), bPlan E dr (Z0.2.1 5), bRumour E (G 6) (Z0.2.1 6), bIm E G (Z0.2.1 7), bNow E (G 8) (G 10) e1 (Z0.2.1 8), bNow E (G 9) (G 11) e2 (Z0.2.1 9), bScene E (G 10) (Z0.2.1 10), bScene E (G 11) (Z0.2.1 11), bPool E e0 (Z0.2.2 0), bPool E e1 (Z0.2.2 1), bPool E e2 (Z0.2.2 2)]) (bc := [bText E (G 1) (Z0.2.1 1), bPlan E dr (Z0.2.1 5)]) (br := [bGC G (pl 99) (dr 99) Z0.1, bNow E (G 2) (G 3) e0 (Z0.2.1 2), bScene E (G 3) (Z0.2.1 3), bPlan E pl (Z0.2.1 4), bRumour E (G 6) (Z0.2.1 6), bIm E G (Z0.2.1 7), bNow E (G 8) (G 10) e1 (Z0.2.1 8), bNow E (G 9) (G 11) e2 (Z0.2.1 9), bScene E (G 10) (Z0.2.1 10), bScene E (G 11) (Z0.2.1 11), bPool E e0 (Z0.2.2 0), bPool E e1 (Z0.2.2 1), bPool E e2 (Z0.2.2 2)]) [1, 5, 0, 2, 3, 4, 6, 7, 8, 9, 10, 11, 12, 13, 14] rfl rfl (by decide)
  refine g_i (g_runV (As := [.ref (dr 99)]) (rest := []) ⟨hx, hb, hml, hown, ht⟩ hE (c_X4_tellAll E l (G 1) dr (Z0.2.1 1) (Z0.2.1 5) _ h) ⟨rfl, rfl⟩ wk_X5_60 wi_X4_tellAll ws_X4_tellAll wn_X4 wc_X4_tellAll yd_X4_tellAll ⟨Nat.le_of_ble_eq_true rfl, Nat.le_of_ble_eq_true rfl⟩ hP hD p1 (ci := 4) rfl rfl rfl rfl rfl hl.1 rfl (lv_room (Nat.le_of_ble_eq_true rfl)) dX5_gate_8 ⟨Nat.zero_le _, Nat.zero_le _⟩) hP hD hS p1 (fun r_1 u w H locs h hw hP hD hS => ?_)
  obtain ⟨S_2, S_3⟩ := u
  subst hw
  clear p1
  have p2 := gB (n := 15) (bs := [bGC G (pl 99) (dr 99) Z0.1, bText E (G 1) S_2, bNow E (G 2) (G 3) e0 (Z0.2.1 2), bScene E (G 3) (Z0.2.1 3), bPlan E pl (Z0.2.1 4), bPlan E dr S_3, bRumour E (G 6) (Z0.2.1 6), bIm E G (Z0.2.1 7), bNow E (G 8) (G 10) e1 (Z0.2.1 8), bNow E (G 9) (G 11) e2 (Z0.2.1 9), bScene E (G 10) (Z0.2.1 10), bScene E (G 11) (Z0.2.1 11), bPool E e0 (Z0.2.2 0), bPool E e1 (Z0.2.2 1), bPool E e2 (Z0.2.2 2)]) (bc := [bText E (G 1) S_2, bPlan E dr S_3]) (br := [bGC G (pl 99) (dr 99) Z0.1, bNow E (G 2) (G 3) e0 (Z0.2.1 2), bScene E (G 3) (Z0.2.1 3), bPlan E pl (Z0.2.1 4), bRumour E (G 6) (Z0.2.1 6), bIm E G (Z0.2.1 7), bNow E (G 8) (G 10) e1 (Z0.2.1 8), bNow E (G 9) (G 11) e2 (Z0.2.1 9), bScene E (G 10) (Z0.2.1 10), bScene E (G 11) (Z0.2.1 11), bPool E e0 (Z0.2.2 0), bPool E e1 (Z0.2.2 1), bPool E e2 (Z0.2.2 2)]) [1, 5, 0, 2, 3, 4, 6, 7, 8, 9, 10, 11, 12, 13, 14] rfl rfl (by decide)
  have hP := gP_perm p2.symm hP
  have hD := gD_perm p2.symm hD
  clear p2
  obtain ⟨Z_4, eZ_4⟩ : ∃ z : GC, z = (gx (gx Z0 1 S_2) 5 S_3) := ⟨_, rfl⟩
  have h := h Z_4 eZ_4
  have hP : gP E (gcW E G pl dr e0 e1 e2 Z_4) H := by rw [eZ_4]; exact hP
  have hD : va_D A (gcW E G pl dr e0 e1 e2 Z_4) := by rw [eZ_4]; exact hD
  refine lv_istore_n (lv' := [(1, .int r_1), (0, .ref (G 0 99))]) hx hb dX5_gate_11 rfl hl (by decide) rfl (fun ls hl => ?_)
  refine lv_iload_n hx hb dX5_gate_12 rfl (lv_at hl 0 rfl) ?_
  refine lv_if_ge (tgt := 18) hx hb dX5_gate_13 (by decide) (fun c_5 => ?_) (fun c_5 => ?_)
  · have h := h.1 c_5
    refine lv_aload_n hx hb dX5_gate_18 rfl (lv_at hl 1 rfl) ?_
    refine va_get (D := (E.1, E.2.1)) (ci := 5) (v := .ref (pl 99)) (C := RX5) (T := TX5) (N := 8) hx hb ht wu_X5 hown hK hP 0 rfl rfl 5 (by decide) (ht _ wk_X5_41) (fun _ h9 => h9) rfl dX5_gate_19 ?_
    refine lv_astore_n (lv' := [(2, .ref (pl 99)), (1, .int r_1), (0, .ref (G 0 99))]) hx hb dX5_gate_22 rfl hl (by decide) rfl (fun ls hl => ?_)
    refine lv_aload_n hx hb dX5_gate_23 rfl (lv_at hl 2 rfl) ?_
    refine lv_aload_n hx hb dX5_gate_24 rfl (lv_at hl 2 rfl) ?_
    refine va_get (D := (E.1, E.2.1)) (ci := 5) (v := .ref (dr 99)) (C := RX5) (T := TX5) (N := 8) hx hb ht wu_X5 hown hK hP 0 rfl rfl 6 (by decide) (ht _ wk_X5_45) (fun _ h9 => h9) rfl dX5_gate_25 ?_
    refine va_put (D := (E.1, E.2.1)) (ci := 5) (v := .ref (dr 99)) (ty := .object "GateChain$Plan") (C := RX5) (T := TX5) (N := 8) hx hb ht wu_X5 tyX5 tyX5_ok nmX5 hown hK hP hD hS 0 rfl rfl 5 (by decide) (ht _ wk_X5_41) (fun _ h9 => h9) rfl (by decide +kernel) rfl rfl (Nat.le_of_ble_eq_true rfl) dX5_gate_28 (fun H locs hP hD hS => ?_)
    have hP : gP E (gW [bGC G (dr 99) (dr 99) Z_4.1, bText E (G 1) (Z_4.2.1 1), bNow E (G 2) (G 3) e0 (Z_4.2.1 2), bScene E (G 3) (Z_4.2.1 3), bPlan E pl (Z_4.2.1 4), bPlan E dr (Z_4.2.1 5), bRumour E (G 6) (Z_4.2.1 6), bIm E G (Z_4.2.1 7), bNow E (G 8) (G 10) e1 (Z_4.2.1 8), bNow E (G 9) (G 11) e2 (Z_4.2.1 9), bScene E (G 10) (Z_4.2.1 10), bScene E (G 11) (Z_4.2.1 11), bPool E e0 (Z_4.2.2 0), bPool E e1 (Z_4.2.2 1), bPool E e2 (Z_4.2.2 2)]) H := hP
    have hD : va_D A (gW [bGC G (dr 99) (dr 99) Z_4.1, bText E (G 1) (Z_4.2.1 1), bNow E (G 2) (G 3) e0 (Z_4.2.1 2), bScene E (G 3) (Z_4.2.1 3), bPlan E pl (Z_4.2.1 4), bPlan E dr (Z_4.2.1 5), bRumour E (G 6) (Z_4.2.1 6), bIm E G (Z_4.2.1 7), bNow E (G 8) (G 10) e1 (Z_4.2.1 8), bNow E (G 9) (G 11) e2 (Z_4.2.1 9), bScene E (G 10) (Z_4.2.1 10), bScene E (G 11) (Z_4.2.1 11), bPool E e0 (Z_4.2.2 0), bPool E e1 (Z_4.2.2 1), bPool E e2 (Z_4.2.2 2)]) := hD
    refine lv_aload_n hx hb dX5_gate_31 rfl (lv_at hl 2 rfl) ?_
    refine lv_aload_n hx hb dX5_gate_32 rfl (lv_at hl 0 rfl) ?_
    refine va_put (D := (E.1, E.2.1)) (ci := 5) (v := .ref (pl 99)) (ty := .object "GateChain$Plan") (C := RX5) (T := TX5) (N := 8) hx hb ht wu_X5 tyX5 tyX5_ok nmX5 hown hK hP hD hS 0 rfl rfl 6 (by decide) (ht _ wk_X5_45) (fun _ h9 => h9) rfl (by decide +kernel) rfl rfl (Nat.le_of_ble_eq_true rfl) dX5_gate_33 (fun H locs hP hD hS => ?_)
    have hP : gP E (gW [bGC G (dr 99) (pl 99) Z_4.1, bText E (G 1) (Z_4.2.1 1), bNow E (G 2) (G 3) e0 (Z_4.2.1 2), bScene E (G 3) (Z_4.2.1 3), bPlan E pl (Z_4.2.1 4), bPlan E dr (Z_4.2.1 5), bRumour E (G 6) (Z_4.2.1 6), bIm E G (Z_4.2.1 7), bNow E (G 8) (G 10) e1 (Z_4.2.1 8), bNow E (G 9) (G 11) e2 (Z_4.2.1 9), bScene E (G 10) (Z_4.2.1 10), bScene E (G 11) (Z_4.2.1 11), bPool E e0 (Z_4.2.2 0), bPool E e1 (Z_4.2.2 1), bPool E e2 (Z_4.2.2 2)]) H := hP
    have hD : va_D A (gW [bGC G (dr 99) (pl 99) Z_4.1, bText E (G 1) (Z_4.2.1 1), bNow E (G 2) (G 3) e0 (Z_4.2.1 2), bScene E (G 3) (Z_4.2.1 3), bPlan E pl (Z_4.2.1 4), bPlan E dr (Z_4.2.1 5), bRumour E (G 6) (Z_4.2.1 6), bIm E G (Z_4.2.1 7), bNow E (G 8) (G 10) e1 (Z_4.2.1 8), bNow E (G 9) (G 11) e2 (Z_4.2.1 9), bScene E (G 10) (Z_4.2.1 10), bScene E (G 11) (Z_4.2.1 11), bPool E e0 (Z_4.2.2 0), bPool E e1 (Z_4.2.2 1), bPool E e2 (Z_4.2.2 2)]) := hD
    obtain ⟨Z_6, eZ_6⟩ : ∃ z : GC, z = (gx (gx Z_4 4 (Z_4.2.1 5)) 5 (Z_4.2.1 4)) := ⟨_, rfl⟩
    have h := h Z_6 eZ_6
    have p2 := gB (n := 15) (bs := [bGC G (dr 99) (pl 99) Z_4.1, bText E (G 1) (Z_4.2.1 1), bNow E (G 2) (G 3) e0 (Z_4.2.1 2), bScene E (G 3) (Z_4.2.1 3), bPlan E pl (Z_4.2.1 4), bPlan E dr (Z_4.2.1 5), bRumour E (G 6) (Z_4.2.1 6), bIm E G (Z_4.2.1 7), bNow E (G 8) (G 10) e1 (Z_4.2.1 8), bNow E (G 9) (G 11) e2 (Z_4.2.1 9), bScene E (G 10) (Z_4.2.1 10), bScene E (G 11) (Z_4.2.1 11), bPool E e0 (Z_4.2.2 0), bPool E e1 (Z_4.2.2 1), bPool E e2 (Z_4.2.2 2)]) (bc := [bGC G (dr 99) (pl 99) Z_4.1, bText E (G 1) (Z_4.2.1 1), bNow E (G 2) (G 3) e0 (Z_4.2.1 2), bScene E (G 3) (Z_4.2.1 3), bPlan E dr (Z_4.2.1 5), bPlan E pl (Z_4.2.1 4), bRumour E (G 6) (Z_4.2.1 6), bIm E G (Z_4.2.1 7), bNow E (G 8) (G 10) e1 (Z_4.2.1 8), bNow E (G 9) (G 11) e2 (Z_4.2.1 9), bScene E (G 10) (Z_4.2.1 10), bScene E (G 11) (Z_4.2.1 11), bPool E e0 (Z_4.2.2 0), bPool E e1 (Z_4.2.2 1), bPool E e2 (Z_4.2.2 2)]) (br := []) [0, 1, 2, 3, 5, 4, 6, 7, 8, 9, 10, 11, 12, 13, 14] rfl rfl (by decide)
    have hP : gP E (gcW E G dr pl e0 e1 e2 Z_6) H := by rw [eZ_6]; exact gP_left (gP_perm p2 hP)
    have hD : va_D A (gcW E G dr pl e0 e1 e2 Z_6) := by rw [eZ_6]; exact gD_left (gD_perm p2 hD)
    clear p2
    refine lv_aload_n hx hb dX5_gate_36 rfl (lv_at hl 2 rfl) ?_
    refine va_get (D := (E.1, E.2.1)) (ci := 5) (v := .ref (G 1 99)) (C := RX5) (T := TX5) (N := 8) hx hb ht wu_X5 hown hK hP 0 rfl rfl 0 (by decide) (ht _ wk_X5_10) (fun _ h9 => h9) rfl dX5_gate_37 ?_
    have p1 := gB (n := 15) (bs := [bGC G (dr 99) (pl 99) Z_6.1, bText E (G 1) (Z_6.2.1 1), bNow E (G 2) (G 3) e0 (Z_6.2.1 2), bScene E (G 3) (Z_6.2.1 3), bPlan E dr (Z_6.2.1 4), bPlan E pl (Z_6.2.1 5), bRumour E (G 6) (Z_6.2.1 6), bIm E G (Z_6.2.1 7), bNow E (G 8) (G 10) e1 (Z_6.2.1 8), bNow E (G 9) (G 11) e2 (Z_6.2.1 9), bScene E (G 10) (Z_6.2.1 10), bScene E (G 11) (Z_6.2.1 11), bPool E e0 (Z_6.2.2 0), bPool E e1 (Z_6.2.2 1), bPool E e2 (Z_6.2.2 2)]) (bc := [bText E (G 1) (Z_6.2.1 1)]) (br := [bGC G (dr 99) (pl 99) Z_6.1, bNow E (G 2) (G 3) e0 (Z_6.2.1 2), bScene E (G 3) (Z_6.2.1 3), bPlan E dr (Z_6.2.1 4), bPlan E pl (Z_6.2.1 5), bRumour E (G 6) (Z_6.2.1 6), bIm E G (Z_6.2.1 7), bNow E (G 8) (G 10) e1 (Z_6.2.1 8), bNow E (G 9) (G 11) e2 (Z_6.2.1 9), bScene E (G 10) (Z_6.2.1 10), bScene E (G 11) (Z_6.2.1 11), bPool E e0 (Z_6.2.2 0), bPool E e1 (Z_6.2.2 1), bPool E e2 (Z_6.2.2 2)]) [1, 0, 2, 3, 4, 5, 6, 7, 8, 9, 10, 11, 12, 13, 14] rfl rfl (by decide)
    refine g_i (g_runV (As := []) (rest := []) ⟨hx, hb, hml, hown, ht⟩ hE (c_X4_empty E l (G 1) (Z_6.2.1 1) _ h) ⟨rfl, rfl⟩ wk_X5_56 wi_X4_empty ws_X4_empty wn_X4 wc_X4_empty yd_X4_empty ⟨Nat.le_of_ble_eq_true rfl, Nat.le_of_ble_eq_true rfl⟩ hP hD p1 (ci := 4) rfl rfl rfl rfl rfl hl.1 rfl (lv_room (Nat.le_of_ble_eq_true rfl)) dX5_gate_40 ⟨Nat.zero_le _, Nat.zero_le _⟩) hP hD hS p1 (fun r_7 S_8 w H locs h hw hP hD hS => ?_)
    subst hw
    clear p1
    have p2 := gB (n := 15) (bs := [bGC G (dr 99) (pl 99) Z_6.1, bText E (G 1) S_8, bNow E (G 2) (G 3) e0 (Z_6.2.1 2), bScene E (G 3) (Z_6.2.1 3), bPlan E dr (Z_6.2.1 4), bPlan E pl (Z_6.2.1 5), bRumour E (G 6) (Z_6.2.1 6), bIm E G (Z_6.2.1 7), bNow E (G 8) (G 10) e1 (Z_6.2.1 8), bNow E (G 9) (G 11) e2 (Z_6.2.1 9), bScene E (G 10) (Z_6.2.1 10), bScene E (G 11) (Z_6.2.1 11), bPool E e0 (Z_6.2.2 0), bPool E e1 (Z_6.2.2 1), bPool E e2 (Z_6.2.2 2)]) (bc := [bText E (G 1) S_8]) (br := [bGC G (dr 99) (pl 99) Z_6.1, bNow E (G 2) (G 3) e0 (Z_6.2.1 2), bScene E (G 3) (Z_6.2.1 3), bPlan E dr (Z_6.2.1 4), bPlan E pl (Z_6.2.1 5), bRumour E (G 6) (Z_6.2.1 6), bIm E G (Z_6.2.1 7), bNow E (G 8) (G 10) e1 (Z_6.2.1 8), bNow E (G 9) (G 11) e2 (Z_6.2.1 9), bScene E (G 10) (Z_6.2.1 10), bScene E (G 11) (Z_6.2.1 11), bPool E e0 (Z_6.2.2 0), bPool E e1 (Z_6.2.2 1), bPool E e2 (Z_6.2.2 2)]) [1, 0, 2, 3, 4, 5, 6, 7, 8, 9, 10, 11, 12, 13, 14] rfl rfl (by decide)
    have hP := gP_perm p2.symm hP
    have hD := gD_perm p2.symm hD
    clear p2
    obtain ⟨Z_9, eZ_9⟩ : ∃ z : GC, z = (gx Z_6 1 S_8) := ⟨_, rfl⟩
    have h := h Z_9 eZ_9
    have hP : gP E (gcW E G dr pl e0 e1 e2 Z_9) H := by rw [eZ_9]; exact hP
    have hD : va_D A (gcW E G dr pl e0 e1 e2 Z_9) := by rw [eZ_9]; exact hD
    refine lv_pop hx hb dX5_gate_43 rfl ?_
    refine lv_aload_n hx hb dX5_gate_44 rfl (lv_at hl 2 rfl) ?_
    refine va_get (D := (E.1, E.2.1)) (ci := 5) (v := .ref (G 2 99)) (C := RX5) (T := TX5) (N := 8) hx hb ht wu_X5 hown hK hP 0 rfl rfl 1 (by decide) (ht _ wk_X5_19) (fun _ h9 => h9) rfl dX5_gate_45 ?_
    refine lv_aload_n hx hb dX5_gate_48 rfl (lv_at hl 2 rfl) ?_
    refine va_get (D := (E.1, E.2.1)) (ci := 5) (v := .ref (dr 99)) (C := RX5) (T := TX5) (N := 8) hx hb ht wu_X5 hown hK hP 0 rfl rfl 5 (by decide) (ht _ wk_X5_41) (fun _ h9 => h9) rfl dX5_gate_49 ?_
    have p1 := gB (n := 15) (bs := [bGC G (dr 99) (pl 99) Z_9.1, bText E (G 1) (Z_9.2.1 1), bNow E (G 2) (G 3) e0 (Z_9.2.1 2), bScene E (G 3) (Z_9.2.1 3), bPlan E dr (Z_9.2.1 4), bPlan E pl (Z_9.2.1 5), bRumour E (G 6) (Z_9.2.1 6), bIm E G (Z_9.2.1 7), bNow E (G 8) (G 10) e1 (Z_9.2.1 8), bNow E (G 9) (G 11) e2 (Z_9.2.1 9), bScene E (G 10) (Z_9.2.1 10), bScene E (G 11) (Z_9.2.1 11), bPool E e0 (Z_9.2.2 0), bPool E e1 (Z_9.2.2 1), bPool E e2 (Z_9.2.2 2)]) (bc := [bNow E (G 2) (G 3) e0 (Z_9.2.1 2), bScene E (G 3) (Z_9.2.1 3), bPlan E dr (Z_9.2.1 4), bPool E e0 (Z_9.2.2 0)]) (br := [bGC G (dr 99) (pl 99) Z_9.1, bText E (G 1) (Z_9.2.1 1), bPlan E pl (Z_9.2.1 5), bRumour E (G 6) (Z_9.2.1 6), bIm E G (Z_9.2.1 7), bNow E (G 8) (G 10) e1 (Z_9.2.1 8), bNow E (G 9) (G 11) e2 (Z_9.2.1 9), bScene E (G 10) (Z_9.2.1 10), bScene E (G 11) (Z_9.2.1 11), bPool E e1 (Z_9.2.2 1), bPool E e2 (Z_9.2.2 2)]) [2, 3, 4, 12, 0, 1, 5, 6, 7, 8, 9, 10, 11, 13, 14] rfl rfl (by decide)
    refine g_v (g_runV (As := [.ref (dr 99)]) (rest := []) ⟨hx, hb, hml, hown, ht⟩ hE (c_X0_begin E l (G 2) (G 3) dr e0 (Z_9.2.1 2) (Z_9.2.1 3) (Z_9.2.1 4) (Z_9.2.2 0) _ h) ⟨rfl, rfl⟩ wk_X5_64 wi_X0_begin ws_X0_begin wn_X0 wc_X0_begin yd_X0_begin ⟨Nat.le_of_ble_eq_true rfl, Nat.le_of_ble_eq_true rfl⟩ hP hD p1 (ci := 0) rfl rfl rfl rfl rfl hl.1 rfl (lv_room (Nat.le_of_ble_eq_true rfl)) dX5_gate_52 ⟨Nat.zero_le _, Nat.zero_le _⟩) hP hD hS p1 (fun u w H locs h hw hP hD hS => ?_)
    obtain ⟨S_10, S_11, S_12, O_13⟩ := u
    subst hw
    clear p1
    have p2 := gB (n := 15) (bs := [bGC G (dr 99) (pl 99) Z_9.1, bText E (G 1) (Z_9.2.1 1), bNow E (G 2) (G 3) e0 S_10, bScene E (G 3) S_11, bPlan E dr S_12, bPlan E pl (Z_9.2.1 5), bRumour E (G 6) (Z_9.2.1 6), bIm E G (Z_9.2.1 7), bNow E (G 8) (G 10) e1 (Z_9.2.1 8), bNow E (G 9) (G 11) e2 (Z_9.2.1 9), bScene E (G 10) (Z_9.2.1 10), bScene E (G 11) (Z_9.2.1 11), bPool E e0 O_13, bPool E e1 (Z_9.2.2 1), bPool E e2 (Z_9.2.2 2)]) (bc := [bNow E (G 2) (G 3) e0 S_10, bScene E (G 3) S_11, bPlan E dr S_12, bPool E e0 O_13]) (br := [bGC G (dr 99) (pl 99) Z_9.1, bText E (G 1) (Z_9.2.1 1), bPlan E pl (Z_9.2.1 5), bRumour E (G 6) (Z_9.2.1 6), bIm E G (Z_9.2.1 7), bNow E (G 8) (G 10) e1 (Z_9.2.1 8), bNow E (G 9) (G 11) e2 (Z_9.2.1 9), bScene E (G 10) (Z_9.2.1 10), bScene E (G 11) (Z_9.2.1 11), bPool E e1 (Z_9.2.2 1), bPool E e2 (Z_9.2.2 2)]) [2, 3, 4, 12, 0, 1, 5, 6, 7, 8, 9, 10, 11, 13, 14] rfl rfl (by decide)
    have hP := gP_perm p2.symm hP
    have hD := gD_perm p2.symm hD
    clear p2
    obtain ⟨Z_14, eZ_14⟩ : ∃ z : GC, z = (gpo (gx (gx (gx Z_9 2 S_10) 3 S_11) 4 S_12) 0 O_13) := ⟨_, rfl⟩
    have h := h Z_14 eZ_14
    have hP : gP E (gcW E G dr pl e0 e1 e2 Z_14) H := by rw [eZ_14]; exact hP
    have hD : va_D A (gcW E G dr pl e0 e1 e2 Z_14) := by rw [eZ_14]; exact hD
    refine lv_aload_n hx hb dX5_gate_55 rfl (lv_at hl 2 rfl) ?_
    refine va_get (D := (E.1, E.2.1)) (ci := 5) (v := .ref (G 6 99)) (C := RX5) (T := TX5) (N := 8) hx hb ht wu_X5 hown hK hP 0 rfl rfl 4 (by decide) (ht _ wk_X5_34) (fun _ h9 => h9) rfl dX5_gate_56 ?_
    have p1 := gB (n := 15) (bs := [bGC G (dr 99) (pl 99) Z_14.1, bText E (G 1) (Z_14.2.1 1), bNow E (G 2) (G 3) e0 (Z_14.2.1 2), bScene E (G 3) (Z_14.2.1 3), bPlan E dr (Z_14.2.1 4), bPlan E pl (Z_14.2.1 5), bRumour E (G 6) (Z_14.2.1 6), bIm E G (Z_14.2.1 7), bNow E (G 8) (G 10) e1 (Z_14.2.1 8), bNow E (G 9) (G 11) e2 (Z_14.2.1 9), bScene E (G 10) (Z_14.2.1 10), bScene E (G 11) (Z_14.2.1 11), bPool E e0 (Z_14.2.2 0), bPool E e1 (Z_14.2.2 1), bPool E e2 (Z_14.2.2 2)]) (bc := [bRumour E (G 6) (Z_14.2.1 6)]) (br := [bGC G (dr 99) (pl 99) Z_14.1, bText E (G 1) (Z_14.2.1 1), bNow E (G 2) (G 3) e0 (Z_14.2.1 2), bScene E (G 3) (Z_14.2.1 3), bPlan E dr (Z_14.2.1 4), bPlan E pl (Z_14.2.1 5), bIm E G (Z_14.2.1 7), bNow E (G 8) (G 10) e1 (Z_14.2.1 8), bNow E (G 9) (G 11) e2 (Z_14.2.1 9), bScene E (G 10) (Z_14.2.1 10), bScene E (G 11) (Z_14.2.1 11), bPool E e0 (Z_14.2.2 0), bPool E e1 (Z_14.2.2 1), bPool E e2 (Z_14.2.2 2)]) [6, 0, 1, 2, 3, 4, 5, 7, 8, 9, 10, 11, 12, 13, 14] rfl rfl (by decide)
    refine g_v (g_runV (As := []) (rest := []) ⟨hx, hb, hml, hown, ht⟩ hE (c_X2_forgetAll E l (G 6) (Z_14.2.1 6) _ h) ⟨rfl, rfl⟩ wk_X5_68 wi_X2_forgetAll ws_X2_forgetAll wn_X2 wc_X2_forgetAll yd_X2_forgetAll ⟨Nat.le_of_ble_eq_true rfl, Nat.le_of_ble_eq_true rfl⟩ hP hD p1 (ci := 2) rfl rfl rfl rfl rfl hl.1 rfl (lv_room (Nat.le_of_ble_eq_true rfl)) dX5_gate_59 ⟨Nat.zero_le _, Nat.zero_le _⟩) hP hD hS p1 (fun S_15 w H locs h hw hP hD hS => ?_)
    subst hw
    clear p1
    have p2 := gB (n := 15) (bs := [bGC G (dr 99) (pl 99) Z_14.1, bText E (G 1) (Z_14.2.1 1), bNow E (G 2) (G 3) e0 (Z_14.2.1 2), bScene E (G 3) (Z_14.2.1 3), bPlan E dr (Z_14.2.1 4), bPlan E pl (Z_14.2.1 5), bRumour E (G 6) S_15, bIm E G (Z_14.2.1 7), bNow E (G 8) (G 10) e1 (Z_14.2.1 8), bNow E (G 9) (G 11) e2 (Z_14.2.1 9), bScene E (G 10) (Z_14.2.1 10), bScene E (G 11) (Z_14.2.1 11), bPool E e0 (Z_14.2.2 0), bPool E e1 (Z_14.2.2 1), bPool E e2 (Z_14.2.2 2)]) (bc := [bRumour E (G 6) S_15]) (br := [bGC G (dr 99) (pl 99) Z_14.1, bText E (G 1) (Z_14.2.1 1), bNow E (G 2) (G 3) e0 (Z_14.2.1 2), bScene E (G 3) (Z_14.2.1 3), bPlan E dr (Z_14.2.1 4), bPlan E pl (Z_14.2.1 5), bIm E G (Z_14.2.1 7), bNow E (G 8) (G 10) e1 (Z_14.2.1 8), bNow E (G 9) (G 11) e2 (Z_14.2.1 9), bScene E (G 10) (Z_14.2.1 10), bScene E (G 11) (Z_14.2.1 11), bPool E e0 (Z_14.2.2 0), bPool E e1 (Z_14.2.2 1), bPool E e2 (Z_14.2.2 2)]) [6, 0, 1, 2, 3, 4, 5, 7, 8, 9, 10, 11, 12, 13, 14] rfl rfl (by decide)
    have hP := gP_perm p2.symm hP
    have hD := gD_perm p2.symm hD
    clear p2
    obtain ⟨Z_16, eZ_16⟩ : ∃ z : GC, z = (gx Z_14 6 S_15) := ⟨_, rfl⟩
    have h := h Z_16 eZ_16
    have hP : gP E (gcW E G dr pl e0 e1 e2 Z_16) H := by rw [eZ_16]; exact hP
    have hD : va_D A (gcW E G dr pl e0 e1 e2 Z_16) := by rw [eZ_16]; exact hD
    refine lv_iconst (v := 0) hx hb dX5_gate_62 (by decide) ?_
    refine lv_istore_n (lv' := [(3, .int 0), (2, .ref (pl 99)), (1, .int r_1), (0, .ref (G 0 99))]) hx hb dX5_gate_63 rfl hl (by decide) rfl (fun ls hl => ?_)
    have L64 : ∀ (n64 : Nat) (x3_64 : Int32) (Z0_64 : GC) (H : Heap) (locs : List Loc) (ls : Array Slot), wp_X5_gate_L64 post r_1 n64 x3_64 Z0_64 → gP E (gcW E G dr pl e0 e1 e2 Z0_64) H → va_D A (gcW E G dr pl e0 e1 e2 Z0_64) → va_S A s.heap H locs → lv_has ls 4 [(0, .ref (G 0 99)), (1, .int r_1), (2, .ref (pl 99)), (3, .int x3_64)] → W p l e { frames := 7, cells := 0, slots := 0, locals := 151 } s m ([.ref (G 0 99)] : List Value).toArray below meth c H locs 0 0 Q (F0 m 64 ls []) := by
      intro n64
      induction n64 with
      | zero => intro x3_64 Z0_64 H locs ls h; exact h.elim
      | succ n64 ih64 =>
        intro x3_64 Z0_64 H locs ls h hP hD hS hl
        rw [wp_X5_gate_L64] at h
        refine lv_iload_n hx hb dX5_gate_64 rfl (lv_at hl 3 rfl) ?_
        refine lv_iconst (v := 2) hx hb dX5_gate_65 (by decide) ?_
        refine lv_icmp_ge (tgt := 82) hx hb dX5_gate_66 (by decide) (fun c_19 => ?_) (fun c_19 => ?_)
        · have h := h.1 c_19
          refine lv_iload_n hx hb dX5_gate_82 rfl (lv_at hl 1 rfl) ?_
          exact hret r_1 Z0_64 _ _ _ _ _ h ⟨_, _, _, rfl⟩ hP hD hS dX5_gate_83
        · have h := h.2 c_19
          refine lv_aload_n hx hb dX5_gate_69 rfl (lv_at hl 0 rfl) ?_
          refine va_get (D := (E.1, E.2.1)) (ci := 5) (v := .ref (G 7 3)) (C := RX5) (T := TX5) (N := 8) hx hb ht wu_X5 hown hK hP 0 rfl rfl 3 (by decide) (ht _ wk_X5_27) (fun _ h9 => h9) rfl dX5_gate_70 ?_
          refine lv_iload_n hx hb dX5_gate_73 rfl (lv_at hl 3 rfl) ?_
          refine lv_iconst (v := 0) hx hb dX5_gate_74 (by decide) ?_
          refine va_zast hx hb hK hP hD hS 27 1 rfl rfl h.1 dX5_gate_75 (fun H locs hP hD hS => ?_)
          have h := h.2
          have hP : gP E (gcW E G dr pl e0 e1 e2 (gx Z0_64 7 (pa (Z0_64.2.1 7) 3 (x3_64.toNatClampNeg) 0))) H := hP
          have hD : va_D A (gcW E G dr pl e0 e1 e2 (gx Z0_64 7 (pa (Z0_64.2.1 7) 3 (x3_64.toNatClampNeg) 0))) := hD
          obtain ⟨Z_20, eZ_20⟩ : ∃ z : GC, z = (gx Z0_64 7 (pa (Z0_64.2.1 7) 3 (x3_64.toNatClampNeg) 0)) := ⟨_, rfl⟩
          have h := h Z_20 eZ_20
          have hP : gP E (gcW E G dr pl e0 e1 e2 Z_20) H := by rw [eZ_20]; exact hP
          have hD : va_D A (gcW E G dr pl e0 e1 e2 Z_20) := by rw [eZ_20]; exact hD
          refine lv_iinc (v := (x3_64 + 1)) (lv' := [(3, .int (x3_64 + 1)), (0, .ref (G 0 99)), (1, .int r_1), (2, .ref (pl 99))]) hx hb dX5_gate_76 hl (k := 3) rfl rfl (by decide) rfl (fun ls hl => ?_)
          refine lv_goto (tgt := 64) hx hb dX5_gate_79 (by decide) ?_
          exact ih64 (x3_64 + 1) Z_20 _ _ _ h hP hD hS (lv_sub hl [1, 2, 3, 0] rfl)
    obtain ⟨n64, h⟩ := h
    exact L64 n64 0 Z_16 _ _ _ h hP hD hS (lv_sub hl [3, 2, 1, 0] rfl)
  · have h := h.2 c_5
    refine lv_iload_n hx hb dX5_gate_16 rfl (lv_at hl 0 rfl) ?_
    exact hret r_1 Z_4 _ _ _ _ _ h ⟨_, _, _, rfl⟩ hP hD hS dX5_gate_17
theorem dX5_isLock_0 : decode cX5_isLock 0 = .ok (.iload_n 1, 1) := by decide +kernel
theorem dX5_isLock_1 : decode cX5_isLock 1 = .ok (.ifCond .lt 18, 3) := by decide +kernel
theorem dX5_isLock_4 : decode cX5_isLock 4 = .ok (.iload_n 1, 1) := by decide +kernel
theorem dX5_isLock_5 : decode cX5_isLock 5 = .ok (.aload_n 0, 1) := by decide +kernel
theorem dX5_isLock_6 : decode cX5_isLock 6 = .ok (.getfield 41, 3) := by decide +kernel
theorem dX5_isLock_9 : decode cX5_isLock 9 = .ok (.getfield 236, 3) := by decide +kernel
theorem dX5_isLock_12 : decode cX5_isLock 12 = .ok (.if_icmp .ge 7, 3) := by decide +kernel
theorem dX5_isLock_15 : decode cX5_isLock 15 = .ok (.iconst 1, 1) := by decide +kernel
theorem dX5_isLock_16 : decode cX5_isLock 16 = .ok (.goto 4, 3) := by decide +kernel
theorem dX5_isLock_19 : decode cX5_isLock 19 = .ok (.iconst 0, 1) := by decide +kernel
theorem dX5_isLock_20 : decode cX5_isLock 20 = .ok (.ireturn, 1) := by decide +kernel
set_option maxHeartbeats 4000000 in
set_option maxRecDepth 100000 in
theorem c_X5_isLock (E : GE) (l : Launch) (G : Nat → Nat → Nat) (pl dr : Nat → Nat) (e0 e1 e2 : Nat → Nat → Nat) (Z0 : GC) (x1 : Int32) (post : Int32 → Prop) (h : wp_X5_isLock Z0 x1 post) : Met l yX5_isLock (wz yX5_isLock cX5_isLock 2 (some .boolean)) { frames := 0, cells := 0, slots := 0, locals := 0 } (gPc E [.ref (G 0 99), .int x1] (gcW E G pl dr e0 e1 e2 Z0)) (gQi E (gcW E G pl dr e0 e1 e2 Z0) (fun r (_ : Unit) => post r) (fun (_ : Unit) w => w = gcW E G pl dr e0 e1 e2 Z0)) 0 0 (gIn (gcW E G pl dr e0 e1 e2 Z0)) := by
  unfold wp_X5_isLock at h
  refine g_of_z (by decide) (Nat.le_of_ble_eq_true rfl) ?_
  intro p e s m below meth c A Q hx hb hml hown ht hE hP hD hret ls hl
  have hK := hE.1
  have hS : va_S A s.heap s.heap [] := va_S.rf
  have hl : lv_has ls 2 [(0, .ref (G 0 99)), (1, .int x1)] := hl
  refine lv_iload_n hx hb dX5_isLock_0 rfl (lv_at hl 1 rfl) ?_
  refine lv_if_lt (tgt := 19) hx hb dX5_isLock_1 (by decide) (fun c_1 => ?_) (fun c_1 => ?_)
  · have h := h.1 c_1
    refine lv_iconst (v := 0) hx hb dX5_isLock_19 (by decide) ?_
    exact hret 0 () _ _ _ _ _ rfl h rfl hP hD hS dX5_isLock_20
  · have h := h.2 c_1
    refine lv_iload_n hx hb dX5_isLock_4 rfl (lv_at hl 1 rfl) ?_
    refine lv_aload_n hx hb dX5_isLock_5 rfl (lv_at hl 0 rfl) ?_
    refine va_get (D := (E.1, E.2.1)) (ci := 5) (v := .ref (pl 99)) (C := RX5) (T := TX5) (N := 8) hx hb ht wu_X5 hown hK hP 0 rfl rfl 5 (by decide) (ht _ wk_X5_41) (fun _ h9 => h9) rfl dX5_isLock_6 ?_
    refine va_get (D := (E.1, E.2.1)) (ci := 1) (v := .int ((Z0.2.1 4).1 4)) (C := RX1) (T := TX1) (N := 5) hx hb ht wu_X1 hown hK hP 10 rfl rfl 4 (by decide) (ht _ wk_X5_236) (fun _ h9 => h9) rfl dX5_isLock_9 ?_
    refine lv_icmp_ge (tgt := 19) hx hb dX5_isLock_12 (by decide) (fun c_2 => ?_) (fun c_2 => ?_)
    · have h := h.1 c_2
      refine lv_iconst (v := 0) hx hb dX5_isLock_19 (by decide) ?_
      exact hret 0 () _ _ _ _ _ rfl h rfl hP hD hS dX5_isLock_20
    · have h := h.2 c_2
      refine lv_iconst (v := 1) hx hb dX5_isLock_15 (by decide) ?_
      refine lv_goto (tgt := 20) hx hb dX5_isLock_16 (by decide) ?_
      exact hret 1 () _ _ _ _ _ rfl h rfl hP hD hS dX5_isLock_20
theorem dX5_lock_0 : decode cX5_lock 0 = .ok (.aload_n 0, 1) := by decide +kernel
theorem dX5_lock_1 : decode cX5_lock 1 = .ok (.iload_n 1, 1) := by decide +kernel
theorem dX5_lock_2 : decode cX5_lock 2 = .ok (.invokevirtual 71, 3) := by decide +kernel
theorem dX5_lock_5 : decode cX5_lock 5 = .ok (.ifCond .ne 5, 3) := by decide +kernel
theorem dX5_lock_8 : decode cX5_lock 8 = .ok (.iconst (-1), 1) := by decide +kernel
theorem dX5_lock_9 : decode cX5_lock 9 = .ok (.ireturn, 1) := by decide +kernel
theorem dX5_lock_10 : decode cX5_lock 10 = .ok (.aload_n 0, 1) := by decide +kernel
theorem dX5_lock_11 : decode cX5_lock 11 = .ok (.getfield 19, 3) := by decide +kernel
theorem dX5_lock_14 : decode cX5_lock 14 = .ok (.getfield 75, 3) := by decide +kernel
theorem dX5_lock_17 : decode cX5_lock 17 = .ok (.astore_n 3, 1) := by decide +kernel
theorem dX5_lock_18 : decode cX5_lock 18 = .ok (.iload_n 2, 1) := by decide +kernel
theorem dX5_lock_19 : decode cX5_lock 19 = .ok (.tableswitch 84 0 5 #[37, 44, 51, 58, 72, 78], 37) := by decide +kernel
theorem dX5_lock_56 : decode cX5_lock 56 = .ok (.aload_n 3, 1) := by decide +kernel
theorem dX5_lock_57 : decode cX5_lock 57 = .ok (.getfield 79, 3) := by decide +kernel
theorem dX5_lock_60 : decode cX5_lock 60 = .ok (.iload_n 1, 1) := by decide +kernel
theorem dX5_lock_61 : decode cX5_lock 61 = .ok (.iaload, 1) := by decide +kernel
theorem dX5_lock_62 : decode cX5_lock 62 = .ok (.ireturn, 1) := by decide +kernel
theorem dX5_lock_63 : decode cX5_lock 63 = .ok (.aload_n 3, 1) := by decide +kernel
theorem dX5_lock_64 : decode cX5_lock 64 = .ok (.getfield 85, 3) := by decide +kernel
theorem dX5_lock_67 : decode cX5_lock 67 = .ok (.iload_n 1, 1) := by decide +kernel
theorem dX5_lock_68 : decode cX5_lock 68 = .ok (.iaload, 1) := by decide +kernel
theorem dX5_lock_69 : decode cX5_lock 69 = .ok (.ireturn, 1) := by decide +kernel
theorem dX5_lock_70 : decode cX5_lock 70 = .ok (.aload_n 3, 1) := by decide +kernel
theorem dX5_lock_71 : decode cX5_lock 71 = .ok (.getfield 88, 3) := by decide +kernel
theorem dX5_lock_74 : decode cX5_lock 74 = .ok (.iload_n 1, 1) := by decide +kernel
theorem dX5_lock_75 : decode cX5_lock 75 = .ok (.iaload, 1) := by decide +kernel
theorem dX5_lock_76 : decode cX5_lock 76 = .ok (.ireturn, 1) := by decide +kernel
theorem dX5_lock_77 : decode cX5_lock 77 = .ok (.aload_n 3, 1) := by decide +kernel
theorem dX5_lock_78 : decode cX5_lock 78 = .ok (.iload_n 1, 1) := by decide +kernel
theorem dX5_lock_79 : decode cX5_lock 79 = .ok (.invokevirtual 91, 3) := by decide +kernel
theorem dX5_lock_82 : decode cX5_lock 82 = .ok (.ifCond .eq 7, 3) := by decide +kernel
theorem dX5_lock_85 : decode cX5_lock 85 = .ok (.iconst 1, 1) := by decide +kernel
theorem dX5_lock_86 : decode cX5_lock 86 = .ok (.goto 4, 3) := by decide +kernel
theorem dX5_lock_89 : decode cX5_lock 89 = .ok (.iconst 0, 1) := by decide +kernel
theorem dX5_lock_90 : decode cX5_lock 90 = .ok (.ireturn, 1) := by decide +kernel
theorem dX5_lock_91 : decode cX5_lock 91 = .ok (.aload_n 3, 1) := by decide +kernel
theorem dX5_lock_92 : decode cX5_lock 92 = .ok (.iload_n 1, 1) := by decide +kernel
theorem dX5_lock_93 : decode cX5_lock 93 = .ok (.invokevirtual 94, 3) := by decide +kernel
theorem dX5_lock_96 : decode cX5_lock 96 = .ok (.ireturn, 1) := by decide +kernel
theorem dX5_lock_97 : decode cX5_lock 97 = .ok (.aload_n 3, 1) := by decide +kernel
theorem dX5_lock_98 : decode cX5_lock 98 = .ok (.iload_n 1, 1) := by decide +kernel
theorem dX5_lock_99 : decode cX5_lock 99 = .ok (.invokevirtual 97, 3) := by decide +kernel
theorem dX5_lock_102 : decode cX5_lock 102 = .ok (.ireturn, 1) := by decide +kernel
theorem dX5_lock_103 : decode cX5_lock 103 = .ok (.iconst (-1), 1) := by decide +kernel
theorem dX5_lock_104 : decode cX5_lock 104 = .ok (.ireturn, 1) := by decide +kernel
set_option maxHeartbeats 4000000 in
set_option maxRecDepth 100000 in
theorem c_X5_lock (E : GE) (l : Launch) (G : Nat → Nat → Nat) (pl dr : Nat → Nat) (e0 e1 e2 : Nat → Nat → Nat) (Z0 : GC) (x1 : Int32) (x2 : Int32) (post : Int32 → Prop) (h : wp_X5_lock Z0 x1 x2 post) : Met l yX5_lock (wz yX5_lock cX5_lock 4 (some .int)) { frames := 4, cells := 0, slots := 0, locals := 85 } (gPc E [.ref (G 0 99), .int x1, .int x2] (gcW E G pl dr e0 e1 e2 Z0)) (gQi E (gcW E G pl dr e0 e1 e2 Z0) (fun r (_ : Unit) => post r) (fun (_ : Unit) w => w = gcW E G pl dr e0 e1 e2 Z0)) 0 0 (gIn (gcW E G pl dr e0 e1 e2 Z0)) := by
  unfold wp_X5_lock at h
  refine g_of_i (by decide) (Nat.le_of_ble_eq_true rfl) ?_
  intro p e s m below meth c A Q hx hb hml hown ht hE hP hD hret ls hl
  have hK := hE.1
  have hS : va_S A s.heap s.heap [] := va_S.rf
  have hl : lv_has ls 4 [(0, .ref (G 0 99)), (1, .int x1), (2, .int x2)] := hl
  refine lv_aload_n hx hb dX5_lock_0 rfl (lv_at hl 0 rfl) ?_
  refine lv_iload_n hx hb dX5_lock_1 rfl (lv_at hl 1 rfl) ?_
  have p1 := gB (n := 15) (bs := [bGC G (pl 99) (dr 99) Z0.1, bText E (G 1) (Z0.2.1 1), bNow E (G 2) (G 3) e0 (Z0.2.1 2), bScene E (G 3) (Z0.2.1 3), bPlan E pl (Z0.2.1 4), bPlan E dr (Z0.2.1 5), bRumour E (G 6) (Z0.2.1 6), bIm E G (Z0.2.1 7), bNow E (G 8) (G 10) e1 (Z0.2.1 8), bNow E (G 9) (G 11) e2 (Z0.2.1 9), bScene E (G 10) (Z0.2.1 10), bScene E (G 11) (Z0.2.1 11), bPool E e0 (Z0.2.2 0), bPool E e1 (Z0.2.2 1), bPool E e2 (Z0.2.2 2)]) (bc := [bGC G (pl 99) (dr 99) Z0.1, bText E (G 1) (Z0.2.1 1), bNow E (G 2) (G 3) e0 (Z0.2.1 2), bScene E (G 3) (Z0.2.1 3), bPlan E pl (Z0.2.1 4), bPlan E dr (Z0.2.1 5), bRumour E (G 6) (Z0.2.1 6), bIm E G (Z0.2.1 7), bNow E (G 8) (G 10) e1 (Z0.2.1 8), bNow E (G 9) (G 11) e2 (Z0.2.1 9), bScene E (G 10) (Z0.2.1 10), bScene E (G 11) (Z0.2.1 11), bPool E e0 (Z0.2.2 0), bPool E e1 (Z0.2.2 1), bPool E e2 (Z0.2.2 2)]) (br := []) [0, 1, 2, 3, 4, 5, 6, 7, 8, 9, 10, 11, 12, 13, 14] rfl rfl (by decide)
  refine g_i (g_runV (As := [.int x1]) (rest := []) ⟨hx, hb, hml, hown, ht⟩ hE (c_X5_isLock E l G pl dr e0 e1 e2 Z0 x1 _ h) ⟨rfl, rfl⟩ wk_X5_71 wi_X5_isLock ws_X5_isLock wn_X5 wc_X5_isLock yd_X5_isLock ⟨Nat.le_of_ble_eq_true rfl, Nat.le_of_ble_eq_true rfl⟩ hP hD p1 (ci := 5) rfl rfl rfl rfl rfl hl.1 rfl (lv_room (Nat.le_of_ble_eq_true rfl)) dX5_lock_2 ⟨Nat.zero_le _, Nat.zero_le _⟩) hP hD hS p1 (fun r_1 _ w H locs h hw hP hD hS => ?_)
  subst hw
  clear p1
  have p2 := gB (n := 15) (bs := [bGC G (pl 99) (dr 99) Z0.1, bText E (G 1) (Z0.2.1 1), bNow E (G 2) (G 3) e0 (Z0.2.1 2), bScene E (G 3) (Z0.2.1 3), bPlan E pl (Z0.2.1 4), bPlan E dr (Z0.2.1 5), bRumour E (G 6) (Z0.2.1 6), bIm E G (Z0.2.1 7), bNow E (G 8) (G 10) e1 (Z0.2.1 8), bNow E (G 9) (G 11) e2 (Z0.2.1 9), bScene E (G 10) (Z0.2.1 10), bScene E (G 11) (Z0.2.1 11), bPool E e0 (Z0.2.2 0), bPool E e1 (Z0.2.2 1), bPool E e2 (Z0.2.2 2)]) (bc := [bGC G (pl 99) (dr 99) Z0.1, bText E (G 1) (Z0.2.1 1), bNow E (G 2) (G 3) e0 (Z0.2.1 2), bScene E (G 3) (Z0.2.1 3), bPlan E pl (Z0.2.1 4), bPlan E dr (Z0.2.1 5), bRumour E (G 6) (Z0.2.1 6), bIm E G (Z0.2.1 7), bNow E (G 8) (G 10) e1 (Z0.2.1 8), bNow E (G 9) (G 11) e2 (Z0.2.1 9), bScene E (G 10) (Z0.2.1 10), bScene E (G 11) (Z0.2.1 11), bPool E e0 (Z0.2.2 0), bPool E e1 (Z0.2.2 1), bPool E e2 (Z0.2.2 2)]) (br := []) [0, 1, 2, 3, 4, 5, 6, 7, 8, 9, 10, 11, 12, 13, 14] rfl rfl (by decide)
  have hP := gP_perm p2.symm hP
  have hD := gD_perm p2.symm hD
  clear p2
  have hP : gP E (gcW E G pl dr e0 e1 e2 Z0) H := hP
  have hD : va_D A (gcW E G pl dr e0 e1 e2 Z0) := hD
  refine lv_if_ne (tgt := 10) hx hb dX5_lock_5 (by decide) (fun c_2 => ?_) (fun c_2 => ?_)
  · have h := h.1 c_2
    refine lv_aload_n hx hb dX5_lock_10 rfl (lv_at hl 0 rfl) ?_
    refine va_get (D := (E.1, E.2.1)) (ci := 5) (v := .ref (G 2 99)) (C := RX5) (T := TX5) (N := 8) hx hb ht wu_X5 hown hK hP 0 rfl rfl 1 (by decide) (ht _ wk_X5_19) (fun _ h9 => h9) rfl dX5_lock_11 ?_
    refine va_get (D := (E.1, E.2.1)) (ci := 0) (v := .ref ((G 3) 99)) (C := RX0) (T := TX0) (N := 3) hx hb ht wu_X0 hown hK hP 3 rfl rfl 0 (by decide) (ht _ wk_X5_75) (fun _ h9 => h9) rfl dX5_lock_14 ?_
    refine lv_astore_n (lv' := [(3, .ref ((G 3) 99)), (0, .ref (G 0 99)), (1, .int x1), (2, .int x2)]) hx hb dX5_lock_17 rfl hl (by decide) rfl (fun ls hl => ?_)
    refine lv_iload_n hx hb dX5_lock_18 rfl (lv_at hl 3 rfl) ?_
    rcases sw_0_5 x2 with c | c | c | c | c | c | c
    · have h := h.1 c
      refine lv_asi c ?_
      refine lv_tableIn (off := 37) (tgt := 56) hx hb dX5_lock_19 (by decide) (by decide) rfl (by decide) ?_
      refine lv_aload_n hx hb dX5_lock_56 rfl (lv_at hl 0 rfl) ?_
      refine va_get (D := (E.1, E.2.1)) (ci := 3) (v := .ref ((G 3) 0)) (C := RX3) (T := TX3) (N := 5) hx hb ht wu_X3 hown hK hP 5 rfl rfl 0 (by decide) (ht _ wk_X5_79) (fun _ h9 => h9) rfl dX5_lock_57 ?_
      refine lv_iload_n hx hb dX5_lock_60 rfl (lv_at hl 2 rfl) ?_
      refine va_iald hx hb hK hP 6 0 rfl rfl h.1 dX5_lock_61 ?_
      have h := h.2
      exact hret ((Z0.2.1 3).2 0 x1.toNatClampNeg) () _ _ _ _ _ h rfl hP hD hS dX5_lock_62
    · have h := h.2.1 c
      refine lv_asi c ?_
      refine lv_tableIn (off := 44) (tgt := 63) hx hb dX5_lock_19 (by decide) (by decide) rfl (by decide) ?_
      refine lv_aload_n hx hb dX5_lock_63 rfl (lv_at hl 0 rfl) ?_
      refine va_get (D := (E.1, E.2.1)) (ci := 3) (v := .ref ((G 3) 1)) (C := RX3) (T := TX3) (N := 5) hx hb ht wu_X3 hown hK hP 5 rfl rfl 1 (by decide) (ht _ wk_X5_85) (fun _ h9 => h9) rfl dX5_lock_64 ?_
      refine lv_iload_n hx hb dX5_lock_67 rfl (lv_at hl 2 rfl) ?_
      refine va_iald hx hb hK hP 7 0 rfl rfl h.1 dX5_lock_68 ?_
      have h := h.2
      exact hret ((Z0.2.1 3).2 1 x1.toNatClampNeg) () _ _ _ _ _ h rfl hP hD hS dX5_lock_69
    · have h := h.2.2.1 c
      refine lv_asi c ?_
      refine lv_tableIn (off := 51) (tgt := 70) hx hb dX5_lock_19 (by decide) (by decide) rfl (by decide) ?_
      refine lv_aload_n hx hb dX5_lock_70 rfl (lv_at hl 0 rfl) ?_
      refine va_get (D := (E.1, E.2.1)) (ci := 3) (v := .ref ((G 3) 2)) (C := RX3) (T := TX3) (N := 5) hx hb ht wu_X3 hown hK hP 5 rfl rfl 2 (by decide) (ht _ wk_X5_88) (fun _ h9 => h9) rfl dX5_lock_71 ?_
      refine lv_iload_n hx hb dX5_lock_74 rfl (lv_at hl 2 rfl) ?_
      refine va_iald hx hb hK hP 8 0 rfl rfl h.1 dX5_lock_75 ?_
      have h := h.2
      exact hret ((Z0.2.1 3).2 2 x1.toNatClampNeg) () _ _ _ _ _ h rfl hP hD hS dX5_lock_76
    · have h := h.2.2.2.1 c
      refine lv_asi c ?_
      refine lv_tableIn (off := 58) (tgt := 77) hx hb dX5_lock_19 (by decide) (by decide) rfl (by decide) ?_
      refine lv_aload_n hx hb dX5_lock_77 rfl (lv_at hl 0 rfl) ?_
      refine lv_iload_n hx hb dX5_lock_78 rfl (lv_at hl 2 rfl) ?_
      have p1 := gB (n := 15) (bs := [bGC G (pl 99) (dr 99) Z0.1, bText E (G 1) (Z0.2.1 1), bNow E (G 2) (G 3) e0 (Z0.2.1 2), bScene E (G 3) (Z0.2.1 3), bPlan E pl (Z0.2.1 4), bPlan E dr (Z0.2.1 5), bRumour E (G 6) (Z0.2.1 6), bIm E G (Z0.2.1 7), bNow E (G 8) (G 10) e1 (Z0.2.1 8), bNow E (G 9) (G 11) e2 (Z0.2.1 9), bScene E (G 10) (Z0.2.1 10), bScene E (G 11) (Z0.2.1 11), bPool E e0 (Z0.2.2 0), bPool E e1 (Z0.2.2 1), bPool E e2 (Z0.2.2 2)]) (bc := [bScene E (G 3) (Z0.2.1 3)]) (br := [bGC G (pl 99) (dr 99) Z0.1, bText E (G 1) (Z0.2.1 1), bNow E (G 2) (G 3) e0 (Z0.2.1 2), bPlan E pl (Z0.2.1 4), bPlan E dr (Z0.2.1 5), bRumour E (G 6) (Z0.2.1 6), bIm E G (Z0.2.1 7), bNow E (G 8) (G 10) e1 (Z0.2.1 8), bNow E (G 9) (G 11) e2 (Z0.2.1 9), bScene E (G 10) (Z0.2.1 10), bScene E (G 11) (Z0.2.1 11), bPool E e0 (Z0.2.2 0), bPool E e1 (Z0.2.2 1), bPool E e2 (Z0.2.2 2)]) [3, 0, 1, 2, 4, 5, 6, 7, 8, 9, 10, 11, 12, 13, 14] rfl rfl (by decide)
      refine g_i (g_runV (As := [.int x1]) (rest := []) ⟨hx, hb, hml, hown, ht⟩ hE (c_X3_inRing E l (G 3) (Z0.2.1 3) x1 _ h) ⟨rfl, rfl⟩ wk_X5_91 wi_X3_inRing ws_X3_inRing wn_X3 wc_X3_inRing yd_X3_inRing ⟨Nat.le_of_ble_eq_true rfl, Nat.le_of_ble_eq_true rfl⟩ hP hD p1 (ci := 3) rfl rfl rfl rfl rfl hl.1 rfl (lv_room (Nat.le_of_ble_eq_true rfl)) dX5_lock_79 ⟨Nat.zero_le _, Nat.zero_le _⟩) hP hD hS p1 (fun r_3 _ w H locs h hw hP hD hS => ?_)
      subst hw
      clear p1
      have p2 := gB (n := 15) (bs := [bGC G (pl 99) (dr 99) Z0.1, bText E (G 1) (Z0.2.1 1), bNow E (G 2) (G 3) e0 (Z0.2.1 2), bScene E (G 3) (Z0.2.1 3), bPlan E pl (Z0.2.1 4), bPlan E dr (Z0.2.1 5), bRumour E (G 6) (Z0.2.1 6), bIm E G (Z0.2.1 7), bNow E (G 8) (G 10) e1 (Z0.2.1 8), bNow E (G 9) (G 11) e2 (Z0.2.1 9), bScene E (G 10) (Z0.2.1 10), bScene E (G 11) (Z0.2.1 11), bPool E e0 (Z0.2.2 0), bPool E e1 (Z0.2.2 1), bPool E e2 (Z0.2.2 2)]) (bc := [bScene E (G 3) (Z0.2.1 3)]) (br := [bGC G (pl 99) (dr 99) Z0.1, bText E (G 1) (Z0.2.1 1), bNow E (G 2) (G 3) e0 (Z0.2.1 2), bPlan E pl (Z0.2.1 4), bPlan E dr (Z0.2.1 5), bRumour E (G 6) (Z0.2.1 6), bIm E G (Z0.2.1 7), bNow E (G 8) (G 10) e1 (Z0.2.1 8), bNow E (G 9) (G 11) e2 (Z0.2.1 9), bScene E (G 10) (Z0.2.1 10), bScene E (G 11) (Z0.2.1 11), bPool E e0 (Z0.2.2 0), bPool E e1 (Z0.2.2 1), bPool E e2 (Z0.2.2 2)]) [3, 0, 1, 2, 4, 5, 6, 7, 8, 9, 10, 11, 12, 13, 14] rfl rfl (by decide)
      have hP := gP_perm p2.symm hP
      have hD := gD_perm p2.symm hD
      clear p2
      have hP : gP E (gcW E G pl dr e0 e1 e2 Z0) H := hP
      have hD : va_D A (gcW E G pl dr e0 e1 e2 Z0) := hD
      refine lv_if_eq (tgt := 89) hx hb dX5_lock_82 (by decide) (fun c_4 => ?_) (fun c_4 => ?_)
      · have h := h.1 c_4
        refine lv_iconst (v := 0) hx hb dX5_lock_89 (by decide) ?_
        exact hret 0 () _ _ _ _ _ h rfl hP hD hS dX5_lock_90
      · have h := h.2 c_4
        refine lv_iconst (v := 1) hx hb dX5_lock_85 (by decide) ?_
        refine lv_goto (tgt := 90) hx hb dX5_lock_86 (by decide) ?_
        exact hret 1 () _ _ _ _ _ h rfl hP hD hS dX5_lock_90
    · have h := h.2.2.2.2.1 c
      refine lv_asi c ?_
      refine lv_tableIn (off := 72) (tgt := 91) hx hb dX5_lock_19 (by decide) (by decide) rfl (by decide) ?_
      refine lv_aload_n hx hb dX5_lock_91 rfl (lv_at hl 0 rfl) ?_
      refine lv_iload_n hx hb dX5_lock_92 rfl (lv_at hl 2 rfl) ?_
      have p1 := gB (n := 15) (bs := [bGC G (pl 99) (dr 99) Z0.1, bText E (G 1) (Z0.2.1 1), bNow E (G 2) (G 3) e0 (Z0.2.1 2), bScene E (G 3) (Z0.2.1 3), bPlan E pl (Z0.2.1 4), bPlan E dr (Z0.2.1 5), bRumour E (G 6) (Z0.2.1 6), bIm E G (Z0.2.1 7), bNow E (G 8) (G 10) e1 (Z0.2.1 8), bNow E (G 9) (G 11) e2 (Z0.2.1 9), bScene E (G 10) (Z0.2.1 10), bScene E (G 11) (Z0.2.1 11), bPool E e0 (Z0.2.2 0), bPool E e1 (Z0.2.2 1), bPool E e2 (Z0.2.2 2)]) (bc := [bScene E (G 3) (Z0.2.1 3)]) (br := [bGC G (pl 99) (dr 99) Z0.1, bText E (G 1) (Z0.2.1 1), bNow E (G 2) (G 3) e0 (Z0.2.1 2), bPlan E pl (Z0.2.1 4), bPlan E dr (Z0.2.1 5), bRumour E (G 6) (Z0.2.1 6), bIm E G (Z0.2.1 7), bNow E (G 8) (G 10) e1 (Z0.2.1 8), bNow E (G 9) (G 11) e2 (Z0.2.1 9), bScene E (G 10) (Z0.2.1 10), bScene E (G 11) (Z0.2.1 11), bPool E e0 (Z0.2.2 0), bPool E e1 (Z0.2.2 1), bPool E e2 (Z0.2.2 2)]) [3, 0, 1, 2, 4, 5, 6, 7, 8, 9, 10, 11, 12, 13, 14] rfl rfl (by decide)
      refine g_i (g_runV (As := [.int x1]) (rest := []) ⟨hx, hb, hml, hown, ht⟩ hE (c_X3_behindOf E l (G 3) (Z0.2.1 3) x1 _ h) ⟨rfl, rfl⟩ wk_X5_94 wi_X3_behindOf ws_X3_behindOf wn_X3 wc_X3_behindOf yd_X3_behindOf ⟨Nat.le_of_ble_eq_true rfl, Nat.le_of_ble_eq_true rfl⟩ hP hD p1 (ci := 3) rfl rfl rfl rfl rfl hl.1 rfl (lv_room (Nat.le_of_ble_eq_true rfl)) dX5_lock_93 ⟨Nat.zero_le _, Nat.zero_le _⟩) hP hD hS p1 (fun r_5 _ w H locs h hw hP hD hS => ?_)
      subst hw
      clear p1
      have p2 := gB (n := 15) (bs := [bGC G (pl 99) (dr 99) Z0.1, bText E (G 1) (Z0.2.1 1), bNow E (G 2) (G 3) e0 (Z0.2.1 2), bScene E (G 3) (Z0.2.1 3), bPlan E pl (Z0.2.1 4), bPlan E dr (Z0.2.1 5), bRumour E (G 6) (Z0.2.1 6), bIm E G (Z0.2.1 7), bNow E (G 8) (G 10) e1 (Z0.2.1 8), bNow E (G 9) (G 11) e2 (Z0.2.1 9), bScene E (G 10) (Z0.2.1 10), bScene E (G 11) (Z0.2.1 11), bPool E e0 (Z0.2.2 0), bPool E e1 (Z0.2.2 1), bPool E e2 (Z0.2.2 2)]) (bc := [bScene E (G 3) (Z0.2.1 3)]) (br := [bGC G (pl 99) (dr 99) Z0.1, bText E (G 1) (Z0.2.1 1), bNow E (G 2) (G 3) e0 (Z0.2.1 2), bPlan E pl (Z0.2.1 4), bPlan E dr (Z0.2.1 5), bRumour E (G 6) (Z0.2.1 6), bIm E G (Z0.2.1 7), bNow E (G 8) (G 10) e1 (Z0.2.1 8), bNow E (G 9) (G 11) e2 (Z0.2.1 9), bScene E (G 10) (Z0.2.1 10), bScene E (G 11) (Z0.2.1 11), bPool E e0 (Z0.2.2 0), bPool E e1 (Z0.2.2 1), bPool E e2 (Z0.2.2 2)]) [3, 0, 1, 2, 4, 5, 6, 7, 8, 9, 10, 11, 12, 13, 14] rfl rfl (by decide)
      have hP := gP_perm p2.symm hP
      have hD := gD_perm p2.symm hD
      clear p2
      have hP : gP E (gcW E G pl dr e0 e1 e2 Z0) H := hP
      have hD : va_D A (gcW E G pl dr e0 e1 e2 Z0) := hD
      exact hret r_5 () _ _ _ _ _ h rfl hP hD hS dX5_lock_96
    · have h := h.2.2.2.2.2.1 c
      refine lv_asi c ?_
      refine lv_tableIn (off := 78) (tgt := 97) hx hb dX5_lock_19 (by decide) (by decide) rfl (by decide) ?_
      refine lv_aload_n hx hb dX5_lock_97 rfl (lv_at hl 0 rfl) ?_
      refine lv_iload_n hx hb dX5_lock_98 rfl (lv_at hl 2 rfl) ?_
      have p1 := gB (n := 15) (bs := [bGC G (pl 99) (dr 99) Z0.1, bText E (G 1) (Z0.2.1 1), bNow E (G 2) (G 3) e0 (Z0.2.1 2), bScene E (G 3) (Z0.2.1 3), bPlan E pl (Z0.2.1 4), bPlan E dr (Z0.2.1 5), bRumour E (G 6) (Z0.2.1 6), bIm E G (Z0.2.1 7), bNow E (G 8) (G 10) e1 (Z0.2.1 8), bNow E (G 9) (G 11) e2 (Z0.2.1 9), bScene E (G 10) (Z0.2.1 10), bScene E (G 11) (Z0.2.1 11), bPool E e0 (Z0.2.2 0), bPool E e1 (Z0.2.2 1), bPool E e2 (Z0.2.2 2)]) (bc := [bScene E (G 3) (Z0.2.1 3)]) (br := [bGC G (pl 99) (dr 99) Z0.1, bText E (G 1) (Z0.2.1 1), bNow E (G 2) (G 3) e0 (Z0.2.1 2), bPlan E pl (Z0.2.1 4), bPlan E dr (Z0.2.1 5), bRumour E (G 6) (Z0.2.1 6), bIm E G (Z0.2.1 7), bNow E (G 8) (G 10) e1 (Z0.2.1 8), bNow E (G 9) (G 11) e2 (Z0.2.1 9), bScene E (G 10) (Z0.2.1 10), bScene E (G 11) (Z0.2.1 11), bPool E e0 (Z0.2.2 0), bPool E e1 (Z0.2.2 1), bPool E e2 (Z0.2.2 2)]) [3, 0, 1, 2, 4, 5, 6, 7, 8, 9, 10, 11, 12, 13, 14] rfl rfl (by decide)
      refine g_i (g_runV (As := [.int x1]) (rest := []) ⟨hx, hb, hml, hown, ht⟩ hE (c_X3_stepsOf E l (G 3) (Z0.2.1 3) x1 _ h) ⟨rfl, rfl⟩ wk_X5_97 wi_X3_stepsOf ws_X3_stepsOf wn_X3 wc_X3_stepsOf yd_X3_stepsOf ⟨Nat.le_of_ble_eq_true rfl, Nat.le_of_ble_eq_true rfl⟩ hP hD p1 (ci := 3) rfl rfl rfl rfl rfl hl.1 rfl (lv_room (Nat.le_of_ble_eq_true rfl)) dX5_lock_99 ⟨Nat.zero_le _, Nat.zero_le _⟩) hP hD hS p1 (fun r_6 _ w H locs h hw hP hD hS => ?_)
      subst hw
      clear p1
      have p2 := gB (n := 15) (bs := [bGC G (pl 99) (dr 99) Z0.1, bText E (G 1) (Z0.2.1 1), bNow E (G 2) (G 3) e0 (Z0.2.1 2), bScene E (G 3) (Z0.2.1 3), bPlan E pl (Z0.2.1 4), bPlan E dr (Z0.2.1 5), bRumour E (G 6) (Z0.2.1 6), bIm E G (Z0.2.1 7), bNow E (G 8) (G 10) e1 (Z0.2.1 8), bNow E (G 9) (G 11) e2 (Z0.2.1 9), bScene E (G 10) (Z0.2.1 10), bScene E (G 11) (Z0.2.1 11), bPool E e0 (Z0.2.2 0), bPool E e1 (Z0.2.2 1), bPool E e2 (Z0.2.2 2)]) (bc := [bScene E (G 3) (Z0.2.1 3)]) (br := [bGC G (pl 99) (dr 99) Z0.1, bText E (G 1) (Z0.2.1 1), bNow E (G 2) (G 3) e0 (Z0.2.1 2), bPlan E pl (Z0.2.1 4), bPlan E dr (Z0.2.1 5), bRumour E (G 6) (Z0.2.1 6), bIm E G (Z0.2.1 7), bNow E (G 8) (G 10) e1 (Z0.2.1 8), bNow E (G 9) (G 11) e2 (Z0.2.1 9), bScene E (G 10) (Z0.2.1 10), bScene E (G 11) (Z0.2.1 11), bPool E e0 (Z0.2.2 0), bPool E e1 (Z0.2.2 1), bPool E e2 (Z0.2.2 2)]) [3, 0, 1, 2, 4, 5, 6, 7, 8, 9, 10, 11, 12, 13, 14] rfl rfl (by decide)
      have hP := gP_perm p2.symm hP
      have hD := gD_perm p2.symm hD
      clear p2
      have hP : gP E (gcW E G pl dr e0 e1 e2 Z0) H := hP
      have hD : va_D A (gcW E G pl dr e0 e1 e2 Z0) := hD
      exact hret r_6 () _ _ _ _ _ h rfl hP hD hS dX5_lock_102
    · have h := h.2.2.2.2.2.2 c
      refine lv_tableOut (tgt := 103) hx hb dX5_lock_19 c (by decide) ?_
      refine lv_iconst (v := (-1)) hx hb dX5_lock_103 (by decide) ?_
      exact hret (-1) () _ _ _ _ _ h rfl hP hD hS dX5_lock_104
  · have h := h.2 c_2
    refine lv_iconst (v := (-1)) hx hb dX5_lock_8 (by decide) ?_
    exact hret (-1) () _ _ _ _ _ h rfl hP hD hS dX5_lock_9
theorem dX5_isPerson_0 : decode cX5_isPerson 0 = .ok (.iload_n 1, 1) := by decide +kernel
theorem dX5_isPerson_1 : decode cX5_isPerson 1 = .ok (.ifCond .lt 18, 3) := by decide +kernel
theorem dX5_isPerson_4 : decode cX5_isPerson 4 = .ok (.iload_n 1, 1) := by decide +kernel
theorem dX5_isPerson_5 : decode cX5_isPerson 5 = .ok (.aload_n 0, 1) := by decide +kernel
theorem dX5_isPerson_6 : decode cX5_isPerson 6 = .ok (.getfield 41, 3) := by decide +kernel
theorem dX5_isPerson_9 : decode cX5_isPerson 9 = .ok (.getfield 233, 3) := by decide +kernel
theorem dX5_isPerson_12 : decode cX5_isPerson 12 = .ok (.if_icmp .ge 7, 3) := by decide +kernel
theorem dX5_isPerson_15 : decode cX5_isPerson 15 = .ok (.iconst 1, 1) := by decide +kernel
theorem dX5_isPerson_16 : decode cX5_isPerson 16 = .ok (.goto 4, 3) := by decide +kernel
theorem dX5_isPerson_19 : decode cX5_isPerson 19 = .ok (.iconst 0, 1) := by decide +kernel
theorem dX5_isPerson_20 : decode cX5_isPerson 20 = .ok (.ireturn, 1) := by decide +kernel
set_option maxHeartbeats 4000000 in
set_option maxRecDepth 100000 in
theorem c_X5_isPerson (E : GE) (l : Launch) (G : Nat → Nat → Nat) (pl dr : Nat → Nat) (e0 e1 e2 : Nat → Nat → Nat) (Z0 : GC) (x1 : Int32) (post : Int32 → Prop) (h : wp_X5_isPerson Z0 x1 post) : Met l yX5_isPerson (wz yX5_isPerson cX5_isPerson 2 (some .boolean)) { frames := 0, cells := 0, slots := 0, locals := 0 } (gPc E [.ref (G 0 99), .int x1] (gcW E G pl dr e0 e1 e2 Z0)) (gQi E (gcW E G pl dr e0 e1 e2 Z0) (fun r (_ : Unit) => post r) (fun (_ : Unit) w => w = gcW E G pl dr e0 e1 e2 Z0)) 0 0 (gIn (gcW E G pl dr e0 e1 e2 Z0)) := by
  unfold wp_X5_isPerson at h
  refine g_of_z (by decide) (Nat.le_of_ble_eq_true rfl) ?_
  intro p e s m below meth c A Q hx hb hml hown ht hE hP hD hret ls hl
  have hK := hE.1
  have hS : va_S A s.heap s.heap [] := va_S.rf
  have hl : lv_has ls 2 [(0, .ref (G 0 99)), (1, .int x1)] := hl
  refine lv_iload_n hx hb dX5_isPerson_0 rfl (lv_at hl 1 rfl) ?_
  refine lv_if_lt (tgt := 19) hx hb dX5_isPerson_1 (by decide) (fun c_1 => ?_) (fun c_1 => ?_)
  · have h := h.1 c_1
    refine lv_iconst (v := 0) hx hb dX5_isPerson_19 (by decide) ?_
    exact hret 0 () _ _ _ _ _ rfl h rfl hP hD hS dX5_isPerson_20
  · have h := h.2 c_1
    refine lv_iload_n hx hb dX5_isPerson_4 rfl (lv_at hl 1 rfl) ?_
    refine lv_aload_n hx hb dX5_isPerson_5 rfl (lv_at hl 0 rfl) ?_
    refine va_get (D := (E.1, E.2.1)) (ci := 5) (v := .ref (pl 99)) (C := RX5) (T := TX5) (N := 8) hx hb ht wu_X5 hown hK hP 0 rfl rfl 5 (by decide) (ht _ wk_X5_41) (fun _ h9 => h9) rfl dX5_isPerson_6 ?_
    refine va_get (D := (E.1, E.2.1)) (ci := 1) (v := .int ((Z0.2.1 4).1 3)) (C := RX1) (T := TX1) (N := 5) hx hb ht wu_X1 hown hK hP 10 rfl rfl 3 (by decide) (ht _ wk_X5_233) (fun _ h9 => h9) rfl dX5_isPerson_9 ?_
    refine lv_icmp_ge (tgt := 19) hx hb dX5_isPerson_12 (by decide) (fun c_2 => ?_) (fun c_2 => ?_)
    · have h := h.1 c_2
      refine lv_iconst (v := 0) hx hb dX5_isPerson_19 (by decide) ?_
      exact hret 0 () _ _ _ _ _ rfl h rfl hP hD hS dX5_isPerson_20
    · have h := h.2 c_2
      refine lv_iconst (v := 1) hx hb dX5_isPerson_15 (by decide) ?_
      refine lv_goto (tgt := 20) hx hb dX5_isPerson_16 (by decide) ?_
      exact hret 1 () _ _ _ _ _ rfl h rfl hP hD hS dX5_isPerson_20
theorem dX5_friendsOfAny_0 : decode cX5_friendsOfAny 0 = .ok (.iconst 0, 1) := by decide +kernel
theorem dX5_friendsOfAny_1 : decode cX5_friendsOfAny 1 = .ok (.istore_n 2, 1) := by decide +kernel
theorem dX5_friendsOfAny_2 : decode cX5_friendsOfAny 2 = .ok (.iconst 0, 1) := by decide +kernel
theorem dX5_friendsOfAny_3 : decode cX5_friendsOfAny 3 = .ok (.istore_n 3, 1) := by decide +kernel
theorem dX5_friendsOfAny_4 : decode cX5_friendsOfAny 4 = .ok (.iload_n 3, 1) := by decide +kernel
theorem dX5_friendsOfAny_5 : decode cX5_friendsOfAny 5 = .ok (.aload_n 0, 1) := by decide +kernel
theorem dX5_friendsOfAny_6 : decode cX5_friendsOfAny 6 = .ok (.getfield 41, 3) := by decide +kernel
theorem dX5_friendsOfAny_9 : decode cX5_friendsOfAny 9 = .ok (.getfield 233, 3) := by decide +kernel
theorem dX5_friendsOfAny_12 : decode cX5_friendsOfAny 12 = .ok (.if_icmp .ge 29, 3) := by decide +kernel
theorem dX5_friendsOfAny_15 : decode cX5_friendsOfAny 15 = .ok (.iload_n 1, 1) := by decide +kernel
theorem dX5_friendsOfAny_16 : decode cX5_friendsOfAny 16 = .ok (.iload_n 3, 1) := by decide +kernel
theorem dX5_friendsOfAny_17 : decode cX5_friendsOfAny 17 = .ok (.invokestatic 112, 3) := by decide +kernel
theorem dX5_friendsOfAny_20 : decode cX5_friendsOfAny 20 = .ok (.ifCond .eq 15, 3) := by decide +kernel
theorem dX5_friendsOfAny_23 : decode cX5_friendsOfAny 23 = .ok (.iload_n 2, 1) := by decide +kernel
theorem dX5_friendsOfAny_24 : decode cX5_friendsOfAny 24 = .ok (.aload_n 0, 1) := by decide +kernel
theorem dX5_friendsOfAny_25 : decode cX5_friendsOfAny 25 = .ok (.getfield 41, 3) := by decide +kernel
theorem dX5_friendsOfAny_28 : decode cX5_friendsOfAny 28 = .ok (.getfield 106, 3) := by decide +kernel
theorem dX5_friendsOfAny_31 : decode cX5_friendsOfAny 31 = .ok (.iload_n 3, 1) := by decide +kernel
theorem dX5_friendsOfAny_32 : decode cX5_friendsOfAny 32 = .ok (.iaload, 1) := by decide +kernel
theorem dX5_friendsOfAny_33 : decode cX5_friendsOfAny 33 = .ok (.ior, 1) := by decide +kernel
theorem dX5_friendsOfAny_34 : decode cX5_friendsOfAny 34 = .ok (.istore_n 2, 1) := by decide +kernel
theorem dX5_friendsOfAny_35 : decode cX5_friendsOfAny 35 = .ok (.iinc 3 1, 3) := by decide +kernel
theorem dX5_friendsOfAny_38 : decode cX5_friendsOfAny 38 = .ok (.goto (-34), 3) := by decide +kernel
theorem dX5_friendsOfAny_41 : decode cX5_friendsOfAny 41 = .ok (.iload_n 2, 1) := by decide +kernel
theorem dX5_friendsOfAny_42 : decode cX5_friendsOfAny 42 = .ok (.ireturn, 1) := by decide +kernel
set_option maxHeartbeats 4000000 in
set_option maxRecDepth 100000 in
theorem c_X5_friendsOfAny (E : GE) (l : Launch) (G : Nat → Nat → Nat) (pl dr : Nat → Nat) (e0 e1 e2 : Nat → Nat → Nat) (Z0 : GC) (x1 : Int32) (post : Int32 → Prop) (h : wp_X5_friendsOfAny Z0 x1 post) : Met l yX5_friendsOfAny (wz yX5_friendsOfAny cX5_friendsOfAny 4 (some .int)) { frames := 1, cells := 0, slots := 0, locals := 21 } (gPc E [.ref (G 0 99), .int x1] (gcW E G pl dr e0 e1 e2 Z0)) (gQi E (gcW E G pl dr e0 e1 e2 Z0) (fun r (_ : Unit) => post r) (fun (_ : Unit) w => w = gcW E G pl dr e0 e1 e2 Z0)) 0 0 (gIn (gcW E G pl dr e0 e1 e2 Z0)) := by
  unfold wp_X5_friendsOfAny at h
  refine g_of_i (by decide) (Nat.le_of_ble_eq_true rfl) ?_
  intro p e s m below meth c A Q hx hb hml hown ht hE hP hD hret ls hl
  have hK := hE.1
  have hS : va_S A s.heap s.heap [] := va_S.rf
  have hl : lv_has ls 4 [(0, .ref (G 0 99)), (1, .int x1)] := hl
  refine lv_iconst (v := 0) hx hb dX5_friendsOfAny_0 (by decide) ?_
  refine lv_istore_n (lv' := [(2, .int 0), (0, .ref (G 0 99)), (1, .int x1)]) hx hb dX5_friendsOfAny_1 rfl hl (by decide) rfl (fun ls hl => ?_)
  refine lv_iconst (v := 0) hx hb dX5_friendsOfAny_2 (by decide) ?_
  refine lv_istore_n (lv' := [(3, .int 0), (2, .int 0), (0, .ref (G 0 99)), (1, .int x1)]) hx hb dX5_friendsOfAny_3 rfl hl (by decide) rfl (fun ls hl => ?_)
  have L4 : ∀ (n4 : Nat) (x2_4 : Int32) (x3_4 : Int32) (H : Heap) (locs : List Loc) (ls : Array Slot), wp_X5_friendsOfAny_L4 post x1 Z0 n4 x2_4 x3_4 → gP E (gcW E G pl dr e0 e1 e2 Z0) H → va_D A (gcW E G pl dr e0 e1 e2 Z0) → va_S A s.heap H locs → lv_has ls 4 [(0, .ref (G 0 99)), (1, .int x1), (2, .int x2_4), (3, .int x3_4)] → W p l e { frames := 1, cells := 0, slots := 0, locals := 21 } s m ([.ref (G 0 99), .int x1] : List Value).toArray below meth c H locs 0 0 Q (F0 m 4 ls []) := by
    intro n4
    induction n4 with
    | zero => intro x2_4 x3_4 H locs ls h; exact h.elim
    | succ n4 ih4 =>
      intro x2_4 x3_4 H locs ls h hP hD hS hl
      rw [wp_X5_friendsOfAny_L4] at h
      refine lv_iload_n hx hb dX5_friendsOfAny_4 rfl (lv_at hl 3 rfl) ?_
      refine lv_aload_n hx hb dX5_friendsOfAny_5 rfl (lv_at hl 0 rfl) ?_
      refine va_get (D := (E.1, E.2.1)) (ci := 5) (v := .ref (pl 99)) (C := RX5) (T := TX5) (N := 8) hx hb ht wu_X5 hown hK hP 0 rfl rfl 5 (by decide) (ht _ wk_X5_41) (fun _ h9 => h9) rfl dX5_friendsOfAny_6 ?_
      refine va_get (D := (E.1, E.2.1)) (ci := 1) (v := .int ((Z0.2.1 4).1 3)) (C := RX1) (T := TX1) (N := 5) hx hb ht wu_X1 hown hK hP 10 rfl rfl 3 (by decide) (ht _ wk_X5_233) (fun _ h9 => h9) rfl dX5_friendsOfAny_9 ?_
      refine lv_icmp_ge (tgt := 41) hx hb dX5_friendsOfAny_12 (by decide) (fun c_4 => ?_) (fun c_4 => ?_)
      · have h := h.1 c_4
        refine lv_iload_n hx hb dX5_friendsOfAny_41 rfl (lv_at hl 2 rfl) ?_
        exact hret x2_4 () _ _ _ _ _ h rfl hP hD hS dX5_friendsOfAny_42
      · have h := h.2 c_4
        refine lv_iload_n hx hb dX5_friendsOfAny_15 rfl (lv_at hl 1 rfl) ?_
        refine lv_iload_n hx hb dX5_friendsOfAny_16 rfl (lv_at hl 3 rfl) ?_
        have p1 := gB (n := 15) (bs := [bGC G (pl 99) (dr 99) Z0.1, bText E (G 1) (Z0.2.1 1), bNow E (G 2) (G 3) e0 (Z0.2.1 2), bScene E (G 3) (Z0.2.1 3), bPlan E pl (Z0.2.1 4), bPlan E dr (Z0.2.1 5), bRumour E (G 6) (Z0.2.1 6), bIm E G (Z0.2.1 7), bNow E (G 8) (G 10) e1 (Z0.2.1 8), bNow E (G 9) (G 11) e2 (Z0.2.1 9), bScene E (G 10) (Z0.2.1 10), bScene E (G 11) (Z0.2.1 11), bPool E e0 (Z0.2.2 0), bPool E e1 (Z0.2.2 1), bPool E e2 (Z0.2.2 2)]) (bc := []) (br := [bGC G (pl 99) (dr 99) Z0.1, bText E (G 1) (Z0.2.1 1), bNow E (G 2) (G 3) e0 (Z0.2.1 2), bScene E (G 3) (Z0.2.1 3), bPlan E pl (Z0.2.1 4), bPlan E dr (Z0.2.1 5), bRumour E (G 6) (Z0.2.1 6), bIm E G (Z0.2.1 7), bNow E (G 8) (G 10) e1 (Z0.2.1 8), bNow E (G 9) (G 11) e2 (Z0.2.1 9), bScene E (G 10) (Z0.2.1 10), bScene E (G 11) (Z0.2.1 11), bPool E e0 (Z0.2.2 0), bPool E e1 (Z0.2.2 1), bPool E e2 (Z0.2.2 2)]) [0, 1, 2, 3, 4, 5, 6, 7, 8, 9, 10, 11, 12, 13, 14] rfl rfl (by decide)
        refine g_i (g_runS (As := [.int x1, .int x3_4]) (rest := []) ⟨hx, hb, hml, hown, ht⟩ hE (c_X5_hasBit E l x1 x3_4 _ h) ⟨rfl, rfl⟩ wk_X5_112 wt_X5_hasBit wn_X5 wc_X5_hasBit yd_X5_hasBit ⟨Nat.le_of_ble_eq_true rfl, Nat.le_of_ble_eq_true rfl⟩ hP hD p1 rfl rfl hl.1 rfl (lv_room (Nat.le_of_ble_eq_true rfl)) dX5_friendsOfAny_17 ⟨Nat.zero_le _, Nat.zero_le _⟩) hP hD hS p1 (fun r_5 _ w H locs h hw hP hD hS => ?_)
        subst hw
        clear p1
        have p2 := gB (n := 15) (bs := [bGC G (pl 99) (dr 99) Z0.1, bText E (G 1) (Z0.2.1 1), bNow E (G 2) (G 3) e0 (Z0.2.1 2), bScene E (G 3) (Z0.2.1 3), bPlan E pl (Z0.2.1 4), bPlan E dr (Z0.2.1 5), bRumour E (G 6) (Z0.2.1 6), bIm E G (Z0.2.1 7), bNow E (G 8) (G 10) e1 (Z0.2.1 8), bNow E (G 9) (G 11) e2 (Z0.2.1 9), bScene E (G 10) (Z0.2.1 10), bScene E (G 11) (Z0.2.1 11), bPool E e0 (Z0.2.2 0), bPool E e1 (Z0.2.2 1), bPool E e2 (Z0.2.2 2)]) (bc := []) (br := [bGC G (pl 99) (dr 99) Z0.1, bText E (G 1) (Z0.2.1 1), bNow E (G 2) (G 3) e0 (Z0.2.1 2), bScene E (G 3) (Z0.2.1 3), bPlan E pl (Z0.2.1 4), bPlan E dr (Z0.2.1 5), bRumour E (G 6) (Z0.2.1 6), bIm E G (Z0.2.1 7), bNow E (G 8) (G 10) e1 (Z0.2.1 8), bNow E (G 9) (G 11) e2 (Z0.2.1 9), bScene E (G 10) (Z0.2.1 10), bScene E (G 11) (Z0.2.1 11), bPool E e0 (Z0.2.2 0), bPool E e1 (Z0.2.2 1), bPool E e2 (Z0.2.2 2)]) [0, 1, 2, 3, 4, 5, 6, 7, 8, 9, 10, 11, 12, 13, 14] rfl rfl (by decide)
        have hP := gP_perm p2.symm hP
        have hD := gD_perm p2.symm hD
        clear p2
        have hP : gP E (gcW E G pl dr e0 e1 e2 Z0) H := hP
        have hD : va_D A (gcW E G pl dr e0 e1 e2 Z0) := hD
        refine lv_if_eq (tgt := 35) hx hb dX5_friendsOfAny_20 (by decide) (fun c_6 => ?_) (fun c_6 => ?_)
        · have h := h.1 c_6
          refine lv_iinc (v := (x3_4 + 1)) (lv' := [(3, .int (x3_4 + 1)), (0, .ref (G 0 99)), (1, .int x1), (2, .int x2_4)]) hx hb dX5_friendsOfAny_35 hl (k := 3) rfl rfl (by decide) rfl (fun ls hl => ?_)
          refine lv_goto (tgt := 4) hx hb dX5_friendsOfAny_38 (by decide) ?_
          exact ih4 x2_4 (x3_4 + 1) _ _ _ h hP hD hS (lv_sub hl [1, 2, 3, 0] rfl)
        · have h := h.2 c_6
          refine lv_iload_n hx hb dX5_friendsOfAny_23 rfl (lv_at hl 2 rfl) ?_
          refine lv_aload_n hx hb dX5_friendsOfAny_24 rfl (lv_at hl 0 rfl) ?_
          refine va_get (D := (E.1, E.2.1)) (ci := 5) (v := .ref (pl 99)) (C := RX5) (T := TX5) (N := 8) hx hb ht wu_X5 hown hK hP 0 rfl rfl 5 (by decide) (ht _ wk_X5_41) (fun _ h9 => h9) rfl dX5_friendsOfAny_25 ?_
          refine va_get (D := (E.1, E.2.1)) (ci := 1) (v := .ref (pl 2)) (C := RX1) (T := TX1) (N := 5) hx hb ht wu_X1 hown hK hP 10 rfl rfl 2 (by decide) (ht _ wk_X5_106) (fun _ h9 => h9) rfl dX5_friendsOfAny_28 ?_
          refine lv_iload_n hx hb dX5_friendsOfAny_31 rfl (lv_at hl 3 rfl) ?_
          refine va_iald hx hb hK hP 13 0 rfl rfl h.1 dX5_friendsOfAny_32 ?_
          have h := h.2
          refine lv_ior hx hb dX5_friendsOfAny_33 ?_
          refine lv_istore_n (lv' := [(2, .int (x2_4 ||| ((Z0.2.1 4).2 2 x3_4.toNatClampNeg))), (0, .ref (G 0 99)), (1, .int x1), (3, .int x3_4)]) hx hb dX5_friendsOfAny_34 rfl hl (by decide) rfl (fun ls hl => ?_)
          refine lv_iinc (v := (x3_4 + 1)) (lv' := [(3, .int (x3_4 + 1)), (2, .int (x2_4 ||| ((Z0.2.1 4).2 2 x3_4.toNatClampNeg))), (0, .ref (G 0 99)), (1, .int x1)]) hx hb dX5_friendsOfAny_35 hl (k := 3) rfl rfl (by decide) rfl (fun ls hl => ?_)
          refine lv_goto (tgt := 4) hx hb dX5_friendsOfAny_38 (by decide) ?_
          exact ih4 (x2_4 ||| ((Z0.2.1 4).2 2 x3_4.toNatClampNeg)) (x3_4 + 1) _ _ _ h hP hD hS (lv_sub hl [2, 3, 1, 0] rfl)
  obtain ⟨n4, h⟩ := h
  exact L4 n4 0 0 _ _ _ h hP hD hS (lv_sub hl [2, 3, 1, 0] rfl)
theorem dX5_roundsOf_0 : decode cX5_roundsOf 0 = .ok (.aload_n 0, 1) := by decide +kernel
theorem dX5_roundsOf_1 : decode cX5_roundsOf 1 = .ok (.getfield 19, 3) := by decide +kernel
theorem dX5_roundsOf_4 : decode cX5_roundsOf 4 = .ok (.getfield 75, 3) := by decide +kernel
theorem dX5_roundsOf_7 : decode cX5_roundsOf 7 = .ok (.invokevirtual 109, 3) := by decide +kernel
theorem dX5_roundsOf_10 : decode cX5_roundsOf 10 = .ok (.istore_n 2, 1) := by decide +kernel
theorem dX5_roundsOf_11 : decode cX5_roundsOf 11 = .ok (.iconst 0, 1) := by decide +kernel
theorem dX5_roundsOf_12 : decode cX5_roundsOf 12 = .ok (.istore_n 3, 1) := by decide +kernel
theorem dX5_roundsOf_13 : decode cX5_roundsOf 13 = .ok (.iload_n 3, 1) := by decide +kernel
theorem dX5_roundsOf_14 : decode cX5_roundsOf 14 = .ok (.bipush 6, 2) := by decide +kernel
theorem dX5_roundsOf_16 : decode cX5_roundsOf 16 = .ok (.if_icmp .ge 27, 3) := by decide +kernel
theorem dX5_roundsOf_19 : decode cX5_roundsOf 19 = .ok (.iload_n 2, 1) := by decide +kernel
theorem dX5_roundsOf_20 : decode cX5_roundsOf 20 = .ok (.iload_n 1, 1) := by decide +kernel
theorem dX5_roundsOf_21 : decode cX5_roundsOf 21 = .ok (.invokestatic 112, 3) := by decide +kernel
theorem dX5_roundsOf_24 : decode cX5_roundsOf 24 = .ok (.ifCond .eq 5, 3) := by decide +kernel
theorem dX5_roundsOf_27 : decode cX5_roundsOf 27 = .ok (.iload_n 3, 1) := by decide +kernel
theorem dX5_roundsOf_28 : decode cX5_roundsOf 28 = .ok (.ireturn, 1) := by decide +kernel
theorem dX5_roundsOf_29 : decode cX5_roundsOf 29 = .ok (.iload_n 2, 1) := by decide +kernel
theorem dX5_roundsOf_30 : decode cX5_roundsOf 30 = .ok (.aload_n 0, 1) := by decide +kernel
theorem dX5_roundsOf_31 : decode cX5_roundsOf 31 = .ok (.iload_n 2, 1) := by decide +kernel
theorem dX5_roundsOf_32 : decode cX5_roundsOf 32 = .ok (.invokevirtual 242, 3) := by decide +kernel
theorem dX5_roundsOf_35 : decode cX5_roundsOf 35 = .ok (.ior, 1) := by decide +kernel
theorem dX5_roundsOf_36 : decode cX5_roundsOf 36 = .ok (.istore_n 2, 1) := by decide +kernel
theorem dX5_roundsOf_37 : decode cX5_roundsOf 37 = .ok (.iinc 3 1, 3) := by decide +kernel
theorem dX5_roundsOf_40 : decode cX5_roundsOf 40 = .ok (.goto (-27), 3) := by decide +kernel
theorem dX5_roundsOf_43 : decode cX5_roundsOf 43 = .ok (.bipush (-9), 2) := by decide +kernel
theorem dX5_roundsOf_45 : decode cX5_roundsOf 45 = .ok (.ireturn, 1) := by decide +kernel
set_option maxHeartbeats 4000000 in
set_option maxRecDepth 100000 in
theorem c_X5_roundsOf (E : GE) (l : Launch) (G : Nat → Nat → Nat) (pl dr : Nat → Nat) (e0 e1 e2 : Nat → Nat → Nat) (Z0 : GC) (x1 : Int32) (post : Int32 → Prop) (h : wp_X5_roundsOf Z0 x1 post) : Met l yX5_roundsOf (wz yX5_roundsOf cX5_roundsOf 4 (some .int)) { frames := 4, cells := 0, slots := 0, locals := 84 } (gPc E [.ref (G 0 99), .int x1] (gcW E G pl dr e0 e1 e2 Z0)) (gQi E (gcW E G pl dr e0 e1 e2 Z0) (fun r (_ : Unit) => post r) (fun (_ : Unit) w => w = gcW E G pl dr e0 e1 e2 Z0)) 0 0 (gIn (gcW E G pl dr e0 e1 e2 Z0)) := by
  unfold wp_X5_roundsOf at h
  refine g_of_i (by decide) (Nat.le_of_ble_eq_true rfl) ?_
  intro p e s m below meth c A Q hx hb hml hown ht hE hP hD hret ls hl
  have hK := hE.1
  have hS : va_S A s.heap s.heap [] := va_S.rf
  have hl : lv_has ls 4 [(0, .ref (G 0 99)), (1, .int x1)] := hl
  refine lv_aload_n hx hb dX5_roundsOf_0 rfl (lv_at hl 0 rfl) ?_
  refine va_get (D := (E.1, E.2.1)) (ci := 5) (v := .ref (G 2 99)) (C := RX5) (T := TX5) (N := 8) hx hb ht wu_X5 hown hK hP 0 rfl rfl 1 (by decide) (ht _ wk_X5_19) (fun _ h9 => h9) rfl dX5_roundsOf_1 ?_
  refine va_get (D := (E.1, E.2.1)) (ci := 0) (v := .ref ((G 3) 99)) (C := RX0) (T := TX0) (N := 3) hx hb ht wu_X0 hown hK hP 3 rfl rfl 0 (by decide) (ht _ wk_X5_75) (fun _ h9 => h9) rfl dX5_roundsOf_4 ?_
  have p1 := gB (n := 15) (bs := [bGC G (pl 99) (dr 99) Z0.1, bText E (G 1) (Z0.2.1 1), bNow E (G 2) (G 3) e0 (Z0.2.1 2), bScene E (G 3) (Z0.2.1 3), bPlan E pl (Z0.2.1 4), bPlan E dr (Z0.2.1 5), bRumour E (G 6) (Z0.2.1 6), bIm E G (Z0.2.1 7), bNow E (G 8) (G 10) e1 (Z0.2.1 8), bNow E (G 9) (G 11) e2 (Z0.2.1 9), bScene E (G 10) (Z0.2.1 10), bScene E (G 11) (Z0.2.1 11), bPool E e0 (Z0.2.2 0), bPool E e1 (Z0.2.2 1), bPool E e2 (Z0.2.2 2)]) (bc := [bScene E (G 3) (Z0.2.1 3)]) (br := [bGC G (pl 99) (dr 99) Z0.1, bText E (G 1) (Z0.2.1 1), bNow E (G 2) (G 3) e0 (Z0.2.1 2), bPlan E pl (Z0.2.1 4), bPlan E dr (Z0.2.1 5), bRumour E (G 6) (Z0.2.1 6), bIm E G (Z0.2.1 7), bNow E (G 8) (G 10) e1 (Z0.2.1 8), bNow E (G 9) (G 11) e2 (Z0.2.1 9), bScene E (G 10) (Z0.2.1 10), bScene E (G 11) (Z0.2.1 11), bPool E e0 (Z0.2.2 0), bPool E e1 (Z0.2.2 1), bPool E e2 (Z0.2.2 2)]) [3, 0, 1, 2, 4, 5, 6, 7, 8, 9, 10, 11, 12, 13, 14] rfl rfl (by decide)
  refine g_i (g_runV (As := []) (rest := []) ⟨hx, hb, hml, hown, ht⟩ hE (c_X3_whoGetsIn E l (G 3) (Z0.2.1 3) _ h) ⟨rfl, rfl⟩ wk_X5_109 wi_X3_whoGetsIn ws_X3_whoGetsIn wn_X3 wc_X3_whoGetsIn yd_X3_whoGetsIn ⟨Nat.le_of_ble_eq_true rfl, Nat.le_of_ble_eq_true rfl⟩ hP hD p1 (ci := 3) rfl rfl rfl rfl rfl hl.1 rfl (lv_room (Nat.le_of_ble_eq_true rfl)) dX5_roundsOf_7 ⟨Nat.zero_le _, Nat.zero_le _⟩) hP hD hS p1 (fun r_1 _ w H locs h hw hP hD hS => ?_)
  subst hw
  clear p1
  have p2 := gB (n := 15) (bs := [bGC G (pl 99) (dr 99) Z0.1, bText E (G 1) (Z0.2.1 1), bNow E (G 2) (G 3) e0 (Z0.2.1 2), bScene E (G 3) (Z0.2.1 3), bPlan E pl (Z0.2.1 4), bPlan E dr (Z0.2.1 5), bRumour E (G 6) (Z0.2.1 6), bIm E G (Z0.2.1 7), bNow E (G 8) (G 10) e1 (Z0.2.1 8), bNow E (G 9) (G 11) e2 (Z0.2.1 9), bScene E (G 10) (Z0.2.1 10), bScene E (G 11) (Z0.2.1 11), bPool E e0 (Z0.2.2 0), bPool E e1 (Z0.2.2 1), bPool E e2 (Z0.2.2 2)]) (bc := [bScene E (G 3) (Z0.2.1 3)]) (br := [bGC G (pl 99) (dr 99) Z0.1, bText E (G 1) (Z0.2.1 1), bNow E (G 2) (G 3) e0 (Z0.2.1 2), bPlan E pl (Z0.2.1 4), bPlan E dr (Z0.2.1 5), bRumour E (G 6) (Z0.2.1 6), bIm E G (Z0.2.1 7), bNow E (G 8) (G 10) e1 (Z0.2.1 8), bNow E (G 9) (G 11) e2 (Z0.2.1 9), bScene E (G 10) (Z0.2.1 10), bScene E (G 11) (Z0.2.1 11), bPool E e0 (Z0.2.2 0), bPool E e1 (Z0.2.2 1), bPool E e2 (Z0.2.2 2)]) [3, 0, 1, 2, 4, 5, 6, 7, 8, 9, 10, 11, 12, 13, 14] rfl rfl (by decide)
  have hP := gP_perm p2.symm hP
  have hD := gD_perm p2.symm hD
  clear p2
  have hP : gP E (gcW E G pl dr e0 e1 e2 Z0) H := hP
  have hD : va_D A (gcW E G pl dr e0 e1 e2 Z0) := hD
  refine lv_istore_n (lv' := [(2, .int r_1), (0, .ref (G 0 99)), (1, .int x1)]) hx hb dX5_roundsOf_10 rfl hl (by decide) rfl (fun ls hl => ?_)
  refine lv_iconst (v := 0) hx hb dX5_roundsOf_11 (by decide) ?_
  refine lv_istore_n (lv' := [(3, .int 0), (2, .int r_1), (0, .ref (G 0 99)), (1, .int x1)]) hx hb dX5_roundsOf_12 rfl hl (by decide) rfl (fun ls hl => ?_)
  have L13 : ∀ (n13 : Nat) (x2_13 : Int32) (x3_13 : Int32) (H : Heap) (locs : List Loc) (ls : Array Slot), wp_X5_roundsOf_L13 post x1 Z0 n13 x2_13 x3_13 → gP E (gcW E G pl dr e0 e1 e2 Z0) H → va_D A (gcW E G pl dr e0 e1 e2 Z0) → va_S A s.heap H locs → lv_has ls 4 [(0, .ref (G 0 99)), (1, .int x1), (2, .int x2_13), (3, .int x3_13)] → W p l e { frames := 4, cells := 0, slots := 0, locals := 84 } s m ([.ref (G 0 99), .int x1] : List Value).toArray below meth c H locs 0 0 Q (F0 m 13 ls []) := by
    intro n13
    induction n13 with
    | zero => intro x2_13 x3_13 H locs ls h; exact h.elim
    | succ n13 ih13 =>
      intro x2_13 x3_13 H locs ls h hP hD hS hl
      rw [wp_X5_roundsOf_L13] at h
      refine lv_iload_n hx hb dX5_roundsOf_13 rfl (lv_at hl 3 rfl) ?_
      refine lv_bipush (v := 6) hx hb dX5_roundsOf_14 (by decide) ?_
      refine lv_icmp_ge (tgt := 43) hx hb dX5_roundsOf_16 (by decide) (fun c_6 => ?_) (fun c_6 => ?_)
      · have h := h.1 c_6
        refine lv_bipush (v := (-9)) hx hb dX5_roundsOf_43 (by decide) ?_
        exact hret (-9) () _ _ _ _ _ h rfl hP hD hS dX5_roundsOf_45
      · have h := h.2 c_6
        refine lv_iload_n hx hb dX5_roundsOf_19 rfl (lv_at hl 2 rfl) ?_
        refine lv_iload_n hx hb dX5_roundsOf_20 rfl (lv_at hl 1 rfl) ?_
        have p1 := gB (n := 15) (bs := [bGC G (pl 99) (dr 99) Z0.1, bText E (G 1) (Z0.2.1 1), bNow E (G 2) (G 3) e0 (Z0.2.1 2), bScene E (G 3) (Z0.2.1 3), bPlan E pl (Z0.2.1 4), bPlan E dr (Z0.2.1 5), bRumour E (G 6) (Z0.2.1 6), bIm E G (Z0.2.1 7), bNow E (G 8) (G 10) e1 (Z0.2.1 8), bNow E (G 9) (G 11) e2 (Z0.2.1 9), bScene E (G 10) (Z0.2.1 10), bScene E (G 11) (Z0.2.1 11), bPool E e0 (Z0.2.2 0), bPool E e1 (Z0.2.2 1), bPool E e2 (Z0.2.2 2)]) (bc := []) (br := [bGC G (pl 99) (dr 99) Z0.1, bText E (G 1) (Z0.2.1 1), bNow E (G 2) (G 3) e0 (Z0.2.1 2), bScene E (G 3) (Z0.2.1 3), bPlan E pl (Z0.2.1 4), bPlan E dr (Z0.2.1 5), bRumour E (G 6) (Z0.2.1 6), bIm E G (Z0.2.1 7), bNow E (G 8) (G 10) e1 (Z0.2.1 8), bNow E (G 9) (G 11) e2 (Z0.2.1 9), bScene E (G 10) (Z0.2.1 10), bScene E (G 11) (Z0.2.1 11), bPool E e0 (Z0.2.2 0), bPool E e1 (Z0.2.2 1), bPool E e2 (Z0.2.2 2)]) [0, 1, 2, 3, 4, 5, 6, 7, 8, 9, 10, 11, 12, 13, 14] rfl rfl (by decide)
        refine g_i (g_runS (As := [.int x2_13, .int x1]) (rest := []) ⟨hx, hb, hml, hown, ht⟩ hE (c_X5_hasBit E l x2_13 x1 _ h) ⟨rfl, rfl⟩ wk_X5_112 wt_X5_hasBit wn_X5 wc_X5_hasBit yd_X5_hasBit ⟨Nat.le_of_ble_eq_true rfl, Nat.le_of_ble_eq_true rfl⟩ hP hD p1 rfl rfl hl.1 rfl (lv_room (Nat.le_of_ble_eq_true rfl)) dX5_roundsOf_21 ⟨Nat.zero_le _, Nat.zero_le _⟩) hP hD hS p1 (fun r_7 _ w H locs h hw hP hD hS => ?_)
        subst hw
        clear p1
        have p2 := gB (n := 15) (bs := [bGC G (pl 99) (dr 99) Z0.1, bText E (G 1) (Z0.2.1 1), bNow E (G 2) (G 3) e0 (Z0.2.1 2), bScene E (G 3) (Z0.2.1 3), bPlan E pl (Z0.2.1 4), bPlan E dr (Z0.2.1 5), bRumour E (G 6) (Z0.2.1 6), bIm E G (Z0.2.1 7), bNow E (G 8) (G 10) e1 (Z0.2.1 8), bNow E (G 9) (G 11) e2 (Z0.2.1 9), bScene E (G 10) (Z0.2.1 10), bScene E (G 11) (Z0.2.1 11), bPool E e0 (Z0.2.2 0), bPool E e1 (Z0.2.2 1), bPool E e2 (Z0.2.2 2)]) (bc := []) (br := [bGC G (pl 99) (dr 99) Z0.1, bText E (G 1) (Z0.2.1 1), bNow E (G 2) (G 3) e0 (Z0.2.1 2), bScene E (G 3) (Z0.2.1 3), bPlan E pl (Z0.2.1 4), bPlan E dr (Z0.2.1 5), bRumour E (G 6) (Z0.2.1 6), bIm E G (Z0.2.1 7), bNow E (G 8) (G 10) e1 (Z0.2.1 8), bNow E (G 9) (G 11) e2 (Z0.2.1 9), bScene E (G 10) (Z0.2.1 10), bScene E (G 11) (Z0.2.1 11), bPool E e0 (Z0.2.2 0), bPool E e1 (Z0.2.2 1), bPool E e2 (Z0.2.2 2)]) [0, 1, 2, 3, 4, 5, 6, 7, 8, 9, 10, 11, 12, 13, 14] rfl rfl (by decide)
        have hP := gP_perm p2.symm hP
        have hD := gD_perm p2.symm hD
        clear p2
        have hP : gP E (gcW E G pl dr e0 e1 e2 Z0) H := hP
        have hD : va_D A (gcW E G pl dr e0 e1 e2 Z0) := hD
        refine lv_if_eq (tgt := 29) hx hb dX5_roundsOf_24 (by decide) (fun c_8 => ?_) (fun c_8 => ?_)
        · have h := h.1 c_8
          refine lv_iload_n hx hb dX5_roundsOf_29 rfl (lv_at hl 2 rfl) ?_
          refine lv_aload_n hx hb dX5_roundsOf_30 rfl (lv_at hl 0 rfl) ?_
          refine lv_iload_n hx hb dX5_roundsOf_31 rfl (lv_at hl 2 rfl) ?_
          have p1 := gB (n := 15) (bs := [bGC G (pl 99) (dr 99) Z0.1, bText E (G 1) (Z0.2.1 1), bNow E (G 2) (G 3) e0 (Z0.2.1 2), bScene E (G 3) (Z0.2.1 3), bPlan E pl (Z0.2.1 4), bPlan E dr (Z0.2.1 5), bRumour E (G 6) (Z0.2.1 6), bIm E G (Z0.2.1 7), bNow E (G 8) (G 10) e1 (Z0.2.1 8), bNow E (G 9) (G 11) e2 (Z0.2.1 9), bScene E (G 10) (Z0.2.1 10), bScene E (G 11) (Z0.2.1 11), bPool E e0 (Z0.2.2 0), bPool E e1 (Z0.2.2 1), bPool E e2 (Z0.2.2 2)]) (bc := [bGC G (pl 99) (dr 99) Z0.1, bText E (G 1) (Z0.2.1 1), bNow E (G 2) (G 3) e0 (Z0.2.1 2), bScene E (G 3) (Z0.2.1 3), bPlan E pl (Z0.2.1 4), bPlan E dr (Z0.2.1 5), bRumour E (G 6) (Z0.2.1 6), bIm E G (Z0.2.1 7), bNow E (G 8) (G 10) e1 (Z0.2.1 8), bNow E (G 9) (G 11) e2 (Z0.2.1 9), bScene E (G 10) (Z0.2.1 10), bScene E (G 11) (Z0.2.1 11), bPool E e0 (Z0.2.2 0), bPool E e1 (Z0.2.2 1), bPool E e2 (Z0.2.2 2)]) (br := []) [0, 1, 2, 3, 4, 5, 6, 7, 8, 9, 10, 11, 12, 13, 14] rfl rfl (by decide)
          refine g_i (g_runV (As := [.int x2_13]) (rest := [.int x2_13]) ⟨hx, hb, hml, hown, ht⟩ hE (c_X5_friendsOfAny E l G pl dr e0 e1 e2 Z0 x2_13 _ h) ⟨rfl, rfl⟩ wk_X5_242 wi_X5_friendsOfAny ws_X5_friendsOfAny wn_X5 wc_X5_friendsOfAny yd_X5_friendsOfAny ⟨Nat.le_of_ble_eq_true rfl, Nat.le_of_ble_eq_true rfl⟩ hP hD p1 (ci := 5) rfl rfl rfl rfl rfl hl.1 rfl (lv_room (Nat.le_of_ble_eq_true rfl)) dX5_roundsOf_32 ⟨Nat.zero_le _, Nat.zero_le _⟩) hP hD hS p1 (fun r_9 _ w H locs h hw hP hD hS => ?_)
          subst hw
          clear p1
          have p2 := gB (n := 15) (bs := [bGC G (pl 99) (dr 99) Z0.1, bText E (G 1) (Z0.2.1 1), bNow E (G 2) (G 3) e0 (Z0.2.1 2), bScene E (G 3) (Z0.2.1 3), bPlan E pl (Z0.2.1 4), bPlan E dr (Z0.2.1 5), bRumour E (G 6) (Z0.2.1 6), bIm E G (Z0.2.1 7), bNow E (G 8) (G 10) e1 (Z0.2.1 8), bNow E (G 9) (G 11) e2 (Z0.2.1 9), bScene E (G 10) (Z0.2.1 10), bScene E (G 11) (Z0.2.1 11), bPool E e0 (Z0.2.2 0), bPool E e1 (Z0.2.2 1), bPool E e2 (Z0.2.2 2)]) (bc := [bGC G (pl 99) (dr 99) Z0.1, bText E (G 1) (Z0.2.1 1), bNow E (G 2) (G 3) e0 (Z0.2.1 2), bScene E (G 3) (Z0.2.1 3), bPlan E pl (Z0.2.1 4), bPlan E dr (Z0.2.1 5), bRumour E (G 6) (Z0.2.1 6), bIm E G (Z0.2.1 7), bNow E (G 8) (G 10) e1 (Z0.2.1 8), bNow E (G 9) (G 11) e2 (Z0.2.1 9), bScene E (G 10) (Z0.2.1 10), bScene E (G 11) (Z0.2.1 11), bPool E e0 (Z0.2.2 0), bPool E e1 (Z0.2.2 1), bPool E e2 (Z0.2.2 2)]) (br := []) [0, 1, 2, 3, 4, 5, 6, 7, 8, 9, 10, 11, 12, 13, 14] rfl rfl (by decide)
          have hP := gP_perm p2.symm hP
          have hD := gD_perm p2.symm hD
          clear p2
          have hP : gP E (gcW E G pl dr e0 e1 e2 Z0) H := hP
          have hD : va_D A (gcW E G pl dr e0 e1 e2 Z0) := hD
          refine lv_ior hx hb dX5_roundsOf_35 ?_
          refine lv_istore_n (lv' := [(2, .int (x2_13 ||| r_9)), (0, .ref (G 0 99)), (1, .int x1), (3, .int x3_13)]) hx hb dX5_roundsOf_36 rfl hl (by decide) rfl (fun ls hl => ?_)
          refine lv_iinc (v := (x3_13 + 1)) (lv' := [(3, .int (x3_13 + 1)), (2, .int (x2_13 ||| r_9)), (0, .ref (G 0 99)), (1, .int x1)]) hx hb dX5_roundsOf_37 hl (k := 3) rfl rfl (by decide) rfl (fun ls hl => ?_)
          refine lv_goto (tgt := 13) hx hb dX5_roundsOf_40 (by decide) ?_
          exact ih13 (x2_13 ||| r_9) (x3_13 + 1) _ _ _ h hP hD hS (lv_sub hl [2, 3, 1, 0] rfl)
        · have h := h.2 c_8
          refine lv_iload_n hx hb dX5_roundsOf_27 rfl (lv_at hl 3 rfl) ?_
          exact hret x3_13 () _ _ _ _ _ h rfl hP hD hS dX5_roundsOf_28
  obtain ⟨n13, h⟩ := h
  exact L13 n13 r_1 0 _ _ _ h hP hD hS (lv_sub hl [2, 3, 1, 0] rfl)
theorem dX5_person_0 : decode cX5_person 0 = .ok (.aload_n 0, 1) := by decide +kernel
theorem dX5_person_1 : decode cX5_person 1 = .ok (.iload_n 1, 1) := by decide +kernel
theorem dX5_person_2 : decode cX5_person 2 = .ok (.invokevirtual 100, 3) := by decide +kernel
theorem dX5_person_5 : decode cX5_person 5 = .ok (.ifCond .ne 5, 3) := by decide +kernel
theorem dX5_person_8 : decode cX5_person 8 = .ok (.iconst (-1), 1) := by decide +kernel
theorem dX5_person_9 : decode cX5_person 9 = .ok (.ireturn, 1) := by decide +kernel
theorem dX5_person_10 : decode cX5_person 10 = .ok (.iload_n 2, 1) := by decide +kernel
theorem dX5_person_11 : decode cX5_person 11 = .ok (.tableswitch 82 0 3 #[29, 43, 53, 76], 29) := by decide +kernel
theorem dX5_person_40 : decode cX5_person 40 = .ok (.aload_n 0, 1) := by decide +kernel
theorem dX5_person_41 : decode cX5_person 41 = .ok (.getfield 19, 3) := by decide +kernel
theorem dX5_person_44 : decode cX5_person 44 = .ok (.getfield 75, 3) := by decide +kernel
theorem dX5_person_47 : decode cX5_person 47 = .ok (.iconst 1, 1) := by decide +kernel
theorem dX5_person_48 : decode cX5_person 48 = .ok (.iload_n 1, 1) := by decide +kernel
theorem dX5_person_49 : decode cX5_person 49 = .ok (.ishl, 1) := by decide +kernel
theorem dX5_person_50 : decode cX5_person 50 = .ok (.invokevirtual 103, 3) := by decide +kernel
theorem dX5_person_53 : decode cX5_person 53 = .ok (.ireturn, 1) := by decide +kernel
theorem dX5_person_54 : decode cX5_person 54 = .ok (.aload_n 0, 1) := by decide +kernel
theorem dX5_person_55 : decode cX5_person 55 = .ok (.getfield 41, 3) := by decide +kernel
theorem dX5_person_58 : decode cX5_person 58 = .ok (.getfield 106, 3) := by decide +kernel
theorem dX5_person_61 : decode cX5_person 61 = .ok (.iload_n 1, 1) := by decide +kernel
theorem dX5_person_62 : decode cX5_person 62 = .ok (.iaload, 1) := by decide +kernel
theorem dX5_person_63 : decode cX5_person 63 = .ok (.ireturn, 1) := by decide +kernel
theorem dX5_person_64 : decode cX5_person 64 = .ok (.aload_n 0, 1) := by decide +kernel
theorem dX5_person_65 : decode cX5_person 65 = .ok (.getfield 19, 3) := by decide +kernel
theorem dX5_person_68 : decode cX5_person 68 = .ok (.getfield 75, 3) := by decide +kernel
theorem dX5_person_71 : decode cX5_person 71 = .ok (.invokevirtual 109, 3) := by decide +kernel
theorem dX5_person_74 : decode cX5_person 74 = .ok (.iload_n 1, 1) := by decide +kernel
theorem dX5_person_75 : decode cX5_person 75 = .ok (.invokestatic 112, 3) := by decide +kernel
theorem dX5_person_78 : decode cX5_person 78 = .ok (.ifCond .eq 7, 3) := by decide +kernel
theorem dX5_person_81 : decode cX5_person 81 = .ok (.iconst 1, 1) := by decide +kernel
theorem dX5_person_82 : decode cX5_person 82 = .ok (.goto 4, 3) := by decide +kernel
theorem dX5_person_85 : decode cX5_person 85 = .ok (.iconst 0, 1) := by decide +kernel
theorem dX5_person_86 : decode cX5_person 86 = .ok (.ireturn, 1) := by decide +kernel
theorem dX5_person_87 : decode cX5_person 87 = .ok (.aload_n 0, 1) := by decide +kernel
theorem dX5_person_88 : decode cX5_person 88 = .ok (.iload_n 1, 1) := by decide +kernel
theorem dX5_person_89 : decode cX5_person 89 = .ok (.invokevirtual 116, 3) := by decide +kernel
theorem dX5_person_92 : decode cX5_person 92 = .ok (.ireturn, 1) := by decide +kernel
theorem dX5_person_93 : decode cX5_person 93 = .ok (.iconst (-1), 1) := by decide +kernel
theorem dX5_person_94 : decode cX5_person 94 = .ok (.ireturn, 1) := by decide +kernel
set_option maxHeartbeats 4000000 in
set_option maxRecDepth 100000 in
theorem c_X5_person (E : GE) (l : Launch) (G : Nat → Nat → Nat) (pl dr : Nat → Nat) (e0 e1 e2 : Nat → Nat → Nat) (Z0 : GC) (x1 : Int32) (x2 : Int32) (post : Int32 → Prop) (h : wp_X5_person Z0 x1 x2 post) : Met l yX5_person (wz yX5_person cX5_person 3 (some .int)) { frames := 5, cells := 0, slots := 0, locals := 107 } (gPc E [.ref (G 0 99), .int x1, .int x2] (gcW E G pl dr e0 e1 e2 Z0)) (gQi E (gcW E G pl dr e0 e1 e2 Z0) (fun r (_ : Unit) => post r) (fun (_ : Unit) w => w = gcW E G pl dr e0 e1 e2 Z0)) 0 0 (gIn (gcW E G pl dr e0 e1 e2 Z0)) := by
  unfold wp_X5_person at h
  refine g_of_i (by decide) (Nat.le_of_ble_eq_true rfl) ?_
  intro p e s m below meth c A Q hx hb hml hown ht hE hP hD hret ls hl
  have hK := hE.1
  have hS : va_S A s.heap s.heap [] := va_S.rf
  have hl : lv_has ls 3 [(0, .ref (G 0 99)), (1, .int x1), (2, .int x2)] := hl
  refine lv_aload_n hx hb dX5_person_0 rfl (lv_at hl 0 rfl) ?_
  refine lv_iload_n hx hb dX5_person_1 rfl (lv_at hl 1 rfl) ?_
  have p1 := gB (n := 15) (bs := [bGC G (pl 99) (dr 99) Z0.1, bText E (G 1) (Z0.2.1 1), bNow E (G 2) (G 3) e0 (Z0.2.1 2), bScene E (G 3) (Z0.2.1 3), bPlan E pl (Z0.2.1 4), bPlan E dr (Z0.2.1 5), bRumour E (G 6) (Z0.2.1 6), bIm E G (Z0.2.1 7), bNow E (G 8) (G 10) e1 (Z0.2.1 8), bNow E (G 9) (G 11) e2 (Z0.2.1 9), bScene E (G 10) (Z0.2.1 10), bScene E (G 11) (Z0.2.1 11), bPool E e0 (Z0.2.2 0), bPool E e1 (Z0.2.2 1), bPool E e2 (Z0.2.2 2)]) (bc := [bGC G (pl 99) (dr 99) Z0.1, bText E (G 1) (Z0.2.1 1), bNow E (G 2) (G 3) e0 (Z0.2.1 2), bScene E (G 3) (Z0.2.1 3), bPlan E pl (Z0.2.1 4), bPlan E dr (Z0.2.1 5), bRumour E (G 6) (Z0.2.1 6), bIm E G (Z0.2.1 7), bNow E (G 8) (G 10) e1 (Z0.2.1 8), bNow E (G 9) (G 11) e2 (Z0.2.1 9), bScene E (G 10) (Z0.2.1 10), bScene E (G 11) (Z0.2.1 11), bPool E e0 (Z0.2.2 0), bPool E e1 (Z0.2.2 1), bPool E e2 (Z0.2.2 2)]) (br := []) [0, 1, 2, 3, 4, 5, 6, 7, 8, 9, 10, 11, 12, 13, 14] rfl rfl (by decide)
  refine g_i (g_runV (As := [.int x1]) (rest := []) ⟨hx, hb, hml, hown, ht⟩ hE (c_X5_isPerson E l G pl dr e0 e1 e2 Z0 x1 _ h) ⟨rfl, rfl⟩ wk_X5_100 wi_X5_isPerson ws_X5_isPerson wn_X5 wc_X5_isPerson yd_X5_isPerson ⟨Nat.le_of_ble_eq_true rfl, Nat.le_of_ble_eq_true rfl⟩ hP hD p1 (ci := 5) rfl rfl rfl rfl rfl hl.1 rfl (lv_room (Nat.le_of_ble_eq_true rfl)) dX5_person_2 ⟨Nat.zero_le _, Nat.zero_le _⟩) hP hD hS p1 (fun r_1 _ w H locs h hw hP hD hS => ?_)
  subst hw
  clear p1
  have p2 := gB (n := 15) (bs := [bGC G (pl 99) (dr 99) Z0.1, bText E (G 1) (Z0.2.1 1), bNow E (G 2) (G 3) e0 (Z0.2.1 2), bScene E (G 3) (Z0.2.1 3), bPlan E pl (Z0.2.1 4), bPlan E dr (Z0.2.1 5), bRumour E (G 6) (Z0.2.1 6), bIm E G (Z0.2.1 7), bNow E (G 8) (G 10) e1 (Z0.2.1 8), bNow E (G 9) (G 11) e2 (Z0.2.1 9), bScene E (G 10) (Z0.2.1 10), bScene E (G 11) (Z0.2.1 11), bPool E e0 (Z0.2.2 0), bPool E e1 (Z0.2.2 1), bPool E e2 (Z0.2.2 2)]) (bc := [bGC G (pl 99) (dr 99) Z0.1, bText E (G 1) (Z0.2.1 1), bNow E (G 2) (G 3) e0 (Z0.2.1 2), bScene E (G 3) (Z0.2.1 3), bPlan E pl (Z0.2.1 4), bPlan E dr (Z0.2.1 5), bRumour E (G 6) (Z0.2.1 6), bIm E G (Z0.2.1 7), bNow E (G 8) (G 10) e1 (Z0.2.1 8), bNow E (G 9) (G 11) e2 (Z0.2.1 9), bScene E (G 10) (Z0.2.1 10), bScene E (G 11) (Z0.2.1 11), bPool E e0 (Z0.2.2 0), bPool E e1 (Z0.2.2 1), bPool E e2 (Z0.2.2 2)]) (br := []) [0, 1, 2, 3, 4, 5, 6, 7, 8, 9, 10, 11, 12, 13, 14] rfl rfl (by decide)
  have hP := gP_perm p2.symm hP
  have hD := gD_perm p2.symm hD
  clear p2
  have hP : gP E (gcW E G pl dr e0 e1 e2 Z0) H := hP
  have hD : va_D A (gcW E G pl dr e0 e1 e2 Z0) := hD
  refine lv_if_ne (tgt := 10) hx hb dX5_person_5 (by decide) (fun c_2 => ?_) (fun c_2 => ?_)
  · have h := h.1 c_2
    refine lv_iload_n hx hb dX5_person_10 rfl (lv_at hl 2 rfl) ?_
    rcases sw_0_3 x2 with c | c | c | c | c
    · have h := h.1 c
      refine lv_asi c ?_
      refine lv_tableIn (off := 29) (tgt := 40) hx hb dX5_person_11 (by decide) (by decide) rfl (by decide) ?_
      refine lv_aload_n hx hb dX5_person_40 rfl (lv_at hl 0 rfl) ?_
      refine va_get (D := (E.1, E.2.1)) (ci := 5) (v := .ref (G 2 99)) (C := RX5) (T := TX5) (N := 8) hx hb ht wu_X5 hown hK hP 0 rfl rfl 1 (by decide) (ht _ wk_X5_19) (fun _ h9 => h9) rfl dX5_person_41 ?_
      refine va_get (D := (E.1, E.2.1)) (ci := 0) (v := .ref ((G 3) 99)) (C := RX0) (T := TX0) (N := 3) hx hb ht wu_X0 hown hK hP 3 rfl rfl 0 (by decide) (ht _ wk_X5_75) (fun _ h9 => h9) rfl dX5_person_44 ?_
      refine lv_iconst (v := 1) hx hb dX5_person_47 (by decide) ?_
      refine lv_iload_n hx hb dX5_person_48 rfl (lv_at hl 1 rfl) ?_
      refine lv_ishl hx hb dX5_person_49 ?_
      have p1 := gB (n := 15) (bs := [bGC G (pl 99) (dr 99) Z0.1, bText E (G 1) (Z0.2.1 1), bNow E (G 2) (G 3) e0 (Z0.2.1 2), bScene E (G 3) (Z0.2.1 3), bPlan E pl (Z0.2.1 4), bPlan E dr (Z0.2.1 5), bRumour E (G 6) (Z0.2.1 6), bIm E G (Z0.2.1 7), bNow E (G 8) (G 10) e1 (Z0.2.1 8), bNow E (G 9) (G 11) e2 (Z0.2.1 9), bScene E (G 10) (Z0.2.1 10), bScene E (G 11) (Z0.2.1 11), bPool E e0 (Z0.2.2 0), bPool E e1 (Z0.2.2 1), bPool E e2 (Z0.2.2 2)]) (bc := [bScene E (G 3) (Z0.2.1 3)]) (br := [bGC G (pl 99) (dr 99) Z0.1, bText E (G 1) (Z0.2.1 1), bNow E (G 2) (G 3) e0 (Z0.2.1 2), bPlan E pl (Z0.2.1 4), bPlan E dr (Z0.2.1 5), bRumour E (G 6) (Z0.2.1 6), bIm E G (Z0.2.1 7), bNow E (G 8) (G 10) e1 (Z0.2.1 8), bNow E (G 9) (G 11) e2 (Z0.2.1 9), bScene E (G 10) (Z0.2.1 10), bScene E (G 11) (Z0.2.1 11), bPool E e0 (Z0.2.2 0), bPool E e1 (Z0.2.2 1), bPool E e2 (Z0.2.2 2)]) [3, 0, 1, 2, 4, 5, 6, 7, 8, 9, 10, 11, 12, 13, 14] rfl rfl (by decide)
      refine g_i (g_runV (As := [.int ((1 : Int32) <<< (x1 &&& 31))]) (rest := []) ⟨hx, hb, hml, hown, ht⟩ hE (c_X3_knownBy E l (G 3) (Z0.2.1 3) ((1 : Int32) <<< (x1 &&& 31)) _ h) ⟨rfl, rfl⟩ wk_X5_103 wi_X3_knownBy ws_X3_knownBy wn_X3 wc_X3_knownBy yd_X3_knownBy ⟨Nat.le_of_ble_eq_true rfl, Nat.le_of_ble_eq_true rfl⟩ hP hD p1 (ci := 3) rfl rfl rfl rfl rfl hl.1 rfl (lv_room (Nat.le_of_ble_eq_true rfl)) dX5_person_50 ⟨Nat.zero_le _, Nat.zero_le _⟩) hP hD hS p1 (fun r_3 _ w H locs h hw hP hD hS => ?_)
      subst hw
      clear p1
      have p2 := gB (n := 15) (bs := [bGC G (pl 99) (dr 99) Z0.1, bText E (G 1) (Z0.2.1 1), bNow E (G 2) (G 3) e0 (Z0.2.1 2), bScene E (G 3) (Z0.2.1 3), bPlan E pl (Z0.2.1 4), bPlan E dr (Z0.2.1 5), bRumour E (G 6) (Z0.2.1 6), bIm E G (Z0.2.1 7), bNow E (G 8) (G 10) e1 (Z0.2.1 8), bNow E (G 9) (G 11) e2 (Z0.2.1 9), bScene E (G 10) (Z0.2.1 10), bScene E (G 11) (Z0.2.1 11), bPool E e0 (Z0.2.2 0), bPool E e1 (Z0.2.2 1), bPool E e2 (Z0.2.2 2)]) (bc := [bScene E (G 3) (Z0.2.1 3)]) (br := [bGC G (pl 99) (dr 99) Z0.1, bText E (G 1) (Z0.2.1 1), bNow E (G 2) (G 3) e0 (Z0.2.1 2), bPlan E pl (Z0.2.1 4), bPlan E dr (Z0.2.1 5), bRumour E (G 6) (Z0.2.1 6), bIm E G (Z0.2.1 7), bNow E (G 8) (G 10) e1 (Z0.2.1 8), bNow E (G 9) (G 11) e2 (Z0.2.1 9), bScene E (G 10) (Z0.2.1 10), bScene E (G 11) (Z0.2.1 11), bPool E e0 (Z0.2.2 0), bPool E e1 (Z0.2.2 1), bPool E e2 (Z0.2.2 2)]) [3, 0, 1, 2, 4, 5, 6, 7, 8, 9, 10, 11, 12, 13, 14] rfl rfl (by decide)
      have hP := gP_perm p2.symm hP
      have hD := gD_perm p2.symm hD
      clear p2
      have hP : gP E (gcW E G pl dr e0 e1 e2 Z0) H := hP
      have hD : va_D A (gcW E G pl dr e0 e1 e2 Z0) := hD
      exact hret r_3 () _ _ _ _ _ h rfl hP hD hS dX5_person_53
    · have h := h.2.1 c
      refine lv_asi c ?_
      refine lv_tableIn (off := 43) (tgt := 54) hx hb dX5_person_11 (by decide) (by decide) rfl (by decide) ?_
      refine lv_aload_n hx hb dX5_person_54 rfl (lv_at hl 0 rfl) ?_
      refine va_get (D := (E.1, E.2.1)) (ci := 5) (v := .ref (pl 99)) (C := RX5) (T := TX5) (N := 8) hx hb ht wu_X5 hown hK hP 0 rfl rfl 5 (by decide) (ht _ wk_X5_41) (fun _ h9 => h9) rfl dX5_person_55 ?_
      refine va_get (D := (E.1, E.2.1)) (ci := 1) (v := .ref (pl 2)) (C := RX1) (T := TX1) (N := 5) hx hb ht wu_X1 hown hK hP 10 rfl rfl 2 (by decide) (ht _ wk_X5_106) (fun _ h9 => h9) rfl dX5_person_58 ?_
      refine lv_iload_n hx hb dX5_person_61 rfl (lv_at hl 1 rfl) ?_
      refine va_iald hx hb hK hP 13 0 rfl rfl h.1 dX5_person_62 ?_
      have h := h.2
      exact hret ((Z0.2.1 4).2 2 x1.toNatClampNeg) () _ _ _ _ _ h rfl hP hD hS dX5_person_63
    · have h := h.2.2.1 c
      refine lv_asi c ?_
      refine lv_tableIn (off := 53) (tgt := 64) hx hb dX5_person_11 (by decide) (by decide) rfl (by decide) ?_
      refine lv_aload_n hx hb dX5_person_64 rfl (lv_at hl 0 rfl) ?_
      refine va_get (D := (E.1, E.2.1)) (ci := 5) (v := .ref (G 2 99)) (C := RX5) (T := TX5) (N := 8) hx hb ht wu_X5 hown hK hP 0 rfl rfl 1 (by decide) (ht _ wk_X5_19) (fun _ h9 => h9) rfl dX5_person_65 ?_
      refine va_get (D := (E.1, E.2.1)) (ci := 0) (v := .ref ((G 3) 99)) (C := RX0) (T := TX0) (N := 3) hx hb ht wu_X0 hown hK hP 3 rfl rfl 0 (by decide) (ht _ wk_X5_75) (fun _ h9 => h9) rfl dX5_person_68 ?_
      have p1 := gB (n := 15) (bs := [bGC G (pl 99) (dr 99) Z0.1, bText E (G 1) (Z0.2.1 1), bNow E (G 2) (G 3) e0 (Z0.2.1 2), bScene E (G 3) (Z0.2.1 3), bPlan E pl (Z0.2.1 4), bPlan E dr (Z0.2.1 5), bRumour E (G 6) (Z0.2.1 6), bIm E G (Z0.2.1 7), bNow E (G 8) (G 10) e1 (Z0.2.1 8), bNow E (G 9) (G 11) e2 (Z0.2.1 9), bScene E (G 10) (Z0.2.1 10), bScene E (G 11) (Z0.2.1 11), bPool E e0 (Z0.2.2 0), bPool E e1 (Z0.2.2 1), bPool E e2 (Z0.2.2 2)]) (bc := [bScene E (G 3) (Z0.2.1 3)]) (br := [bGC G (pl 99) (dr 99) Z0.1, bText E (G 1) (Z0.2.1 1), bNow E (G 2) (G 3) e0 (Z0.2.1 2), bPlan E pl (Z0.2.1 4), bPlan E dr (Z0.2.1 5), bRumour E (G 6) (Z0.2.1 6), bIm E G (Z0.2.1 7), bNow E (G 8) (G 10) e1 (Z0.2.1 8), bNow E (G 9) (G 11) e2 (Z0.2.1 9), bScene E (G 10) (Z0.2.1 10), bScene E (G 11) (Z0.2.1 11), bPool E e0 (Z0.2.2 0), bPool E e1 (Z0.2.2 1), bPool E e2 (Z0.2.2 2)]) [3, 0, 1, 2, 4, 5, 6, 7, 8, 9, 10, 11, 12, 13, 14] rfl rfl (by decide)
      refine g_i (g_runV (As := []) (rest := []) ⟨hx, hb, hml, hown, ht⟩ hE (c_X3_whoGetsIn E l (G 3) (Z0.2.1 3) _ h) ⟨rfl, rfl⟩ wk_X5_109 wi_X3_whoGetsIn ws_X3_whoGetsIn wn_X3 wc_X3_whoGetsIn yd_X3_whoGetsIn ⟨Nat.le_of_ble_eq_true rfl, Nat.le_of_ble_eq_true rfl⟩ hP hD p1 (ci := 3) rfl rfl rfl rfl rfl hl.1 rfl (lv_room (Nat.le_of_ble_eq_true rfl)) dX5_person_71 ⟨Nat.zero_le _, Nat.zero_le _⟩) hP hD hS p1 (fun r_4 _ w H locs h hw hP hD hS => ?_)
      subst hw
      clear p1
      have p2 := gB (n := 15) (bs := [bGC G (pl 99) (dr 99) Z0.1, bText E (G 1) (Z0.2.1 1), bNow E (G 2) (G 3) e0 (Z0.2.1 2), bScene E (G 3) (Z0.2.1 3), bPlan E pl (Z0.2.1 4), bPlan E dr (Z0.2.1 5), bRumour E (G 6) (Z0.2.1 6), bIm E G (Z0.2.1 7), bNow E (G 8) (G 10) e1 (Z0.2.1 8), bNow E (G 9) (G 11) e2 (Z0.2.1 9), bScene E (G 10) (Z0.2.1 10), bScene E (G 11) (Z0.2.1 11), bPool E e0 (Z0.2.2 0), bPool E e1 (Z0.2.2 1), bPool E e2 (Z0.2.2 2)]) (bc := [bScene E (G 3) (Z0.2.1 3)]) (br := [bGC G (pl 99) (dr 99) Z0.1, bText E (G 1) (Z0.2.1 1), bNow E (G 2) (G 3) e0 (Z0.2.1 2), bPlan E pl (Z0.2.1 4), bPlan E dr (Z0.2.1 5), bRumour E (G 6) (Z0.2.1 6), bIm E G (Z0.2.1 7), bNow E (G 8) (G 10) e1 (Z0.2.1 8), bNow E (G 9) (G 11) e2 (Z0.2.1 9), bScene E (G 10) (Z0.2.1 10), bScene E (G 11) (Z0.2.1 11), bPool E e0 (Z0.2.2 0), bPool E e1 (Z0.2.2 1), bPool E e2 (Z0.2.2 2)]) [3, 0, 1, 2, 4, 5, 6, 7, 8, 9, 10, 11, 12, 13, 14] rfl rfl (by decide)
      have hP := gP_perm p2.symm hP
      have hD := gD_perm p2.symm hD
      clear p2
      have hP : gP E (gcW E G pl dr e0 e1 e2 Z0) H := hP
      have hD : va_D A (gcW E G pl dr e0 e1 e2 Z0) := hD
      refine lv_iload_n hx hb dX5_person_74 rfl (lv_at hl 1 rfl) ?_
      have p1 := gB (n := 15) (bs := [bGC G (pl 99) (dr 99) Z0.1, bText E (G 1) (Z0.2.1 1), bNow E (G 2) (G 3) e0 (Z0.2.1 2), bScene E (G 3) (Z0.2.1 3), bPlan E pl (Z0.2.1 4), bPlan E dr (Z0.2.1 5), bRumour E (G 6) (Z0.2.1 6), bIm E G (Z0.2.1 7), bNow E (G 8) (G 10) e1 (Z0.2.1 8), bNow E (G 9) (G 11) e2 (Z0.2.1 9), bScene E (G 10) (Z0.2.1 10), bScene E (G 11) (Z0.2.1 11), bPool E e0 (Z0.2.2 0), bPool E e1 (Z0.2.2 1), bPool E e2 (Z0.2.2 2)]) (bc := []) (br := [bGC G (pl 99) (dr 99) Z0.1, bText E (G 1) (Z0.2.1 1), bNow E (G 2) (G 3) e0 (Z0.2.1 2), bScene E (G 3) (Z0.2.1 3), bPlan E pl (Z0.2.1 4), bPlan E dr (Z0.2.1 5), bRumour E (G 6) (Z0.2.1 6), bIm E G (Z0.2.1 7), bNow E (G 8) (G 10) e1 (Z0.2.1 8), bNow E (G 9) (G 11) e2 (Z0.2.1 9), bScene E (G 10) (Z0.2.1 10), bScene E (G 11) (Z0.2.1 11), bPool E e0 (Z0.2.2 0), bPool E e1 (Z0.2.2 1), bPool E e2 (Z0.2.2 2)]) [0, 1, 2, 3, 4, 5, 6, 7, 8, 9, 10, 11, 12, 13, 14] rfl rfl (by decide)
      refine g_i (g_runS (As := [.int r_4, .int x1]) (rest := []) ⟨hx, hb, hml, hown, ht⟩ hE (c_X5_hasBit E l r_4 x1 _ h) ⟨rfl, rfl⟩ wk_X5_112 wt_X5_hasBit wn_X5 wc_X5_hasBit yd_X5_hasBit ⟨Nat.le_of_ble_eq_true rfl, Nat.le_of_ble_eq_true rfl⟩ hP hD p1 rfl rfl hl.1 rfl (lv_room (Nat.le_of_ble_eq_true rfl)) dX5_person_75 ⟨Nat.zero_le _, Nat.zero_le _⟩) hP hD hS p1 (fun r_5 _ w H locs h hw hP hD hS => ?_)
      subst hw
      clear p1
      have p2 := gB (n := 15) (bs := [bGC G (pl 99) (dr 99) Z0.1, bText E (G 1) (Z0.2.1 1), bNow E (G 2) (G 3) e0 (Z0.2.1 2), bScene E (G 3) (Z0.2.1 3), bPlan E pl (Z0.2.1 4), bPlan E dr (Z0.2.1 5), bRumour E (G 6) (Z0.2.1 6), bIm E G (Z0.2.1 7), bNow E (G 8) (G 10) e1 (Z0.2.1 8), bNow E (G 9) (G 11) e2 (Z0.2.1 9), bScene E (G 10) (Z0.2.1 10), bScene E (G 11) (Z0.2.1 11), bPool E e0 (Z0.2.2 0), bPool E e1 (Z0.2.2 1), bPool E e2 (Z0.2.2 2)]) (bc := []) (br := [bGC G (pl 99) (dr 99) Z0.1, bText E (G 1) (Z0.2.1 1), bNow E (G 2) (G 3) e0 (Z0.2.1 2), bScene E (G 3) (Z0.2.1 3), bPlan E pl (Z0.2.1 4), bPlan E dr (Z0.2.1 5), bRumour E (G 6) (Z0.2.1 6), bIm E G (Z0.2.1 7), bNow E (G 8) (G 10) e1 (Z0.2.1 8), bNow E (G 9) (G 11) e2 (Z0.2.1 9), bScene E (G 10) (Z0.2.1 10), bScene E (G 11) (Z0.2.1 11), bPool E e0 (Z0.2.2 0), bPool E e1 (Z0.2.2 1), bPool E e2 (Z0.2.2 2)]) [0, 1, 2, 3, 4, 5, 6, 7, 8, 9, 10, 11, 12, 13, 14] rfl rfl (by decide)
      have hP := gP_perm p2.symm hP
      have hD := gD_perm p2.symm hD
      clear p2
      have hP : gP E (gcW E G pl dr e0 e1 e2 Z0) H := hP
      have hD : va_D A (gcW E G pl dr e0 e1 e2 Z0) := hD
      refine lv_if_eq (tgt := 85) hx hb dX5_person_78 (by decide) (fun c_6 => ?_) (fun c_6 => ?_)
      · have h := h.1 c_6
        refine lv_iconst (v := 0) hx hb dX5_person_85 (by decide) ?_
        exact hret 0 () _ _ _ _ _ h rfl hP hD hS dX5_person_86
      · have h := h.2 c_6
        refine lv_iconst (v := 1) hx hb dX5_person_81 (by decide) ?_
        refine lv_goto (tgt := 86) hx hb dX5_person_82 (by decide) ?_
        exact hret 1 () _ _ _ _ _ h rfl hP hD hS dX5_person_86
    · have h := h.2.2.2.1 c
      refine lv_asi c ?_
      refine lv_tableIn (off := 76) (tgt := 87) hx hb dX5_person_11 (by decide) (by decide) rfl (by decide) ?_
      refine lv_aload_n hx hb dX5_person_87 rfl (lv_at hl 0 rfl) ?_
      refine lv_iload_n hx hb dX5_person_88 rfl (lv_at hl 1 rfl) ?_
      have p1 := gB (n := 15) (bs := [bGC G (pl 99) (dr 99) Z0.1, bText E (G 1) (Z0.2.1 1), bNow E (G 2) (G 3) e0 (Z0.2.1 2), bScene E (G 3) (Z0.2.1 3), bPlan E pl (Z0.2.1 4), bPlan E dr (Z0.2.1 5), bRumour E (G 6) (Z0.2.1 6), bIm E G (Z0.2.1 7), bNow E (G 8) (G 10) e1 (Z0.2.1 8), bNow E (G 9) (G 11) e2 (Z0.2.1 9), bScene E (G 10) (Z0.2.1 10), bScene E (G 11) (Z0.2.1 11), bPool E e0 (Z0.2.2 0), bPool E e1 (Z0.2.2 1), bPool E e2 (Z0.2.2 2)]) (bc := [bGC G (pl 99) (dr 99) Z0.1, bText E (G 1) (Z0.2.1 1), bNow E (G 2) (G 3) e0 (Z0.2.1 2), bScene E (G 3) (Z0.2.1 3), bPlan E pl (Z0.2.1 4), bPlan E dr (Z0.2.1 5), bRumour E (G 6) (Z0.2.1 6), bIm E G (Z0.2.1 7), bNow E (G 8) (G 10) e1 (Z0.2.1 8), bNow E (G 9) (G 11) e2 (Z0.2.1 9), bScene E (G 10) (Z0.2.1 10), bScene E (G 11) (Z0.2.1 11), bPool E e0 (Z0.2.2 0), bPool E e1 (Z0.2.2 1), bPool E e2 (Z0.2.2 2)]) (br := []) [0, 1, 2, 3, 4, 5, 6, 7, 8, 9, 10, 11, 12, 13, 14] rfl rfl (by decide)
      refine g_i (g_runV (As := [.int x1]) (rest := []) ⟨hx, hb, hml, hown, ht⟩ hE (c_X5_roundsOf E l G pl dr e0 e1 e2 Z0 x1 _ h) ⟨rfl, rfl⟩ wk_X5_116 wi_X5_roundsOf ws_X5_roundsOf wn_X5 wc_X5_roundsOf yd_X5_roundsOf ⟨Nat.le_of_ble_eq_true rfl, Nat.le_of_ble_eq_true rfl⟩ hP hD p1 (ci := 5) rfl rfl rfl rfl rfl hl.1 rfl (lv_room (Nat.le_of_ble_eq_true rfl)) dX5_person_89 ⟨Nat.zero_le _, Nat.zero_le _⟩) hP hD hS p1 (fun r_7 _ w H locs h hw hP hD hS => ?_)
      subst hw
      clear p1
      have p2 := gB (n := 15) (bs := [bGC G (pl 99) (dr 99) Z0.1, bText E (G 1) (Z0.2.1 1), bNow E (G 2) (G 3) e0 (Z0.2.1 2), bScene E (G 3) (Z0.2.1 3), bPlan E pl (Z0.2.1 4), bPlan E dr (Z0.2.1 5), bRumour E (G 6) (Z0.2.1 6), bIm E G (Z0.2.1 7), bNow E (G 8) (G 10) e1 (Z0.2.1 8), bNow E (G 9) (G 11) e2 (Z0.2.1 9), bScene E (G 10) (Z0.2.1 10), bScene E (G 11) (Z0.2.1 11), bPool E e0 (Z0.2.2 0), bPool E e1 (Z0.2.2 1), bPool E e2 (Z0.2.2 2)]) (bc := [bGC G (pl 99) (dr 99) Z0.1, bText E (G 1) (Z0.2.1 1), bNow E (G 2) (G 3) e0 (Z0.2.1 2), bScene E (G 3) (Z0.2.1 3), bPlan E pl (Z0.2.1 4), bPlan E dr (Z0.2.1 5), bRumour E (G 6) (Z0.2.1 6), bIm E G (Z0.2.1 7), bNow E (G 8) (G 10) e1 (Z0.2.1 8), bNow E (G 9) (G 11) e2 (Z0.2.1 9), bScene E (G 10) (Z0.2.1 10), bScene E (G 11) (Z0.2.1 11), bPool E e0 (Z0.2.2 0), bPool E e1 (Z0.2.2 1), bPool E e2 (Z0.2.2 2)]) (br := []) [0, 1, 2, 3, 4, 5, 6, 7, 8, 9, 10, 11, 12, 13, 14] rfl rfl (by decide)
      have hP := gP_perm p2.symm hP
      have hD := gD_perm p2.symm hD
      clear p2
      have hP : gP E (gcW E G pl dr e0 e1 e2 Z0) H := hP
      have hD : va_D A (gcW E G pl dr e0 e1 e2 Z0) := hD
      exact hret r_7 () _ _ _ _ _ h rfl hP hD hS dX5_person_92
    · have h := h.2.2.2.2 c
      refine lv_tableOut (tgt := 93) hx hb dX5_person_11 c (by decide) ?_
      refine lv_iconst (v := (-1)) hx hb dX5_person_93 (by decide) ?_
      exact hret (-1) () _ _ _ _ _ h rfl hP hD hS dX5_person_94
  · have h := h.2 c_2
    refine lv_iconst (v := (-1)) hx hb dX5_person_8 (by decide) ?_
    exact hret (-1) () _ _ _ _ _ h rfl hP hD hS dX5_person_9
theorem dX5_opens_0 : decode cX5_opens 0 = .ok (.aload_n 0, 1) := by decide +kernel
theorem dX5_opens_1 : decode cX5_opens 1 = .ok (.iload_n 1, 1) := by decide +kernel
theorem dX5_opens_2 : decode cX5_opens 2 = .ok (.invokevirtual 100, 3) := by decide +kernel
theorem dX5_opens_5 : decode cX5_opens 5 = .ok (.ifCond .eq 11, 3) := by decide +kernel
theorem dX5_opens_8 : decode cX5_opens 8 = .ok (.aload_n 0, 1) := by decide +kernel
theorem dX5_opens_9 : decode cX5_opens 9 = .ok (.iload_n 2, 1) := by decide +kernel
theorem dX5_opens_10 : decode cX5_opens 10 = .ok (.invokevirtual 71, 3) := by decide +kernel
theorem dX5_opens_13 : decode cX5_opens 13 = .ok (.ifCond .ne 5, 3) := by decide +kernel
theorem dX5_opens_16 : decode cX5_opens 16 = .ok (.iconst (-1), 1) := by decide +kernel
theorem dX5_opens_17 : decode cX5_opens 17 = .ok (.ireturn, 1) := by decide +kernel
theorem dX5_opens_18 : decode cX5_opens 18 = .ok (.aload_n 0, 1) := by decide +kernel
theorem dX5_opens_19 : decode cX5_opens 19 = .ok (.getfield 19, 3) := by decide +kernel
theorem dX5_opens_22 : decode cX5_opens 22 = .ok (.getfield 75, 3) := by decide +kernel
theorem dX5_opens_25 : decode cX5_opens 25 = .ok (.astore_n 3, 1) := by decide +kernel
theorem dX5_opens_26 : decode cX5_opens 26 = .ok (.aload_n 3, 1) := by decide +kernel
theorem dX5_opens_27 : decode cX5_opens 27 = .ok (.invokevirtual 119, 3) := by decide +kernel
theorem dX5_opens_30 : decode cX5_opens 30 = .ok (.ifCond .ne 20, 3) := by decide +kernel
theorem dX5_opens_33 : decode cX5_opens 33 = .ok (.aload_n 3, 1) := by decide +kernel
theorem dX5_opens_34 : decode cX5_opens 34 = .ok (.iload_n 2, 1) := by decide +kernel
theorem dX5_opens_35 : decode cX5_opens 35 = .ok (.invokevirtual 91, 3) := by decide +kernel
theorem dX5_opens_38 : decode cX5_opens 38 = .ok (.ifCond .eq 12, 3) := by decide +kernel
theorem dX5_opens_41 : decode cX5_opens 41 = .ok (.aload_n 3, 1) := by decide +kernel
theorem dX5_opens_42 : decode cX5_opens 42 = .ok (.iload_n 1, 1) := by decide +kernel
theorem dX5_opens_43 : decode cX5_opens 43 = .ok (.iload_n 2, 1) := by decide +kernel
theorem dX5_opens_44 : decode cX5_opens 44 = .ok (.invokevirtual 123, 3) := by decide +kernel
theorem dX5_opens_47 : decode cX5_opens 47 = .ok (.ifCond .ne 6, 3) := by decide +kernel
theorem dX5_opens_50 : decode cX5_opens 50 = .ok (.bipush (-2), 2) := by decide +kernel
theorem dX5_opens_52 : decode cX5_opens 52 = .ok (.ireturn, 1) := by decide +kernel
theorem dX5_opens_53 : decode cX5_opens 53 = .ok (.aload_n 0, 1) := by decide +kernel
theorem dX5_opens_54 : decode cX5_opens 54 = .ok (.getfield 19, 3) := by decide +kernel
theorem dX5_opens_57 : decode cX5_opens 57 = .ok (.invokevirtual 126, 3) := by decide +kernel
theorem dX5_opens_60 : decode cX5_opens 60 = .ok (.aload_n 3, 1) := by decide +kernel
theorem dX5_opens_61 : decode cX5_opens 61 = .ok (.getfield 85, 3) := by decide +kernel
theorem dX5_opens_64 : decode cX5_opens 64 = .ok (.iload_n 2, 1) := by decide +kernel
theorem dX5_opens_65 : decode cX5_opens 65 = .ok (.aload_n 3, 1) := by decide +kernel
theorem dX5_opens_66 : decode cX5_opens 66 = .ok (.getfield 79, 3) := by decide +kernel
theorem dX5_opens_69 : decode cX5_opens 69 = .ok (.iload_n 2, 1) := by decide +kernel
theorem dX5_opens_70 : decode cX5_opens 70 = .ok (.iaload, 1) := by decide +kernel
theorem dX5_opens_71 : decode cX5_opens 71 = .ok (.iastore, 1) := by decide +kernel
theorem dX5_opens_72 : decode cX5_opens 72 = .ok (.aload_n 3, 1) := by decide +kernel
theorem dX5_opens_73 : decode cX5_opens 73 = .ok (.iload_n 2, 1) := by decide +kernel
theorem dX5_opens_74 : decode cX5_opens 74 = .ok (.putfield 129, 3) := by decide +kernel
theorem dX5_opens_77 : decode cX5_opens 77 = .ok (.aload_n 3, 1) := by decide +kernel
theorem dX5_opens_78 : decode cX5_opens 78 = .ok (.invokevirtual 133, 3) := by decide +kernel
theorem dX5_opens_81 : decode cX5_opens 81 = .ok (.ireturn, 1) := by decide +kernel
set_option maxHeartbeats 4000000 in
set_option maxRecDepth 100000 in
theorem c_X5_opens (E : GE) (l : Launch) (G : Nat → Nat → Nat) (pl dr : Nat → Nat) (e0 e1 e2 : Nat → Nat → Nat) (Z0 : GC) (x1 : Int32) (x2 : Int32) (post : Int32 → GC → Prop) (h : wp_X5_opens Z0 x1 x2 post) : Met l yX5_opens (wz yX5_opens cX5_opens 4 (some .int)) { frames := 4, cells := 0, slots := 0, locals := 84 } (gPc E [.ref (G 0 99), .int x1, .int x2] (gcW E G pl dr e0 e1 e2 Z0)) (gQi E (gcW E G pl dr e0 e1 e2 Z0) (fun r (u : GC) => post r u) (fun (u : GC) w => ∃ (pl dr : Nat → Nat) (e0 : Nat → Nat → Nat), w = gcW E G pl dr e0 e1 e2 u)) 0 0 (gIn (gcW E G pl dr e0 e1 e2 Z0)) := by
  unfold wp_X5_opens at h
  refine g_of_i (by decide) (Nat.le_of_ble_eq_true rfl) ?_
  intro p e s m below meth c A Q hx hb hml hown ht hE hP hD hret ls hl
  have hK := hE.1
  have hS : va_S A s.heap s.heap [] := va_S.rf
  have hl : lv_has ls 4 [(0, .ref (G 0 99)), (1, .int x1), (2, .int x2)] := hl
  refine lv_aload_n hx hb dX5_opens_0 rfl (lv_at hl 0 rfl) ?_
  refine lv_iload_n hx hb dX5_opens_1 rfl (lv_at hl 1 rfl) ?_
  have p1 := gB (n := 15) (bs := [bGC G (pl 99) (dr 99) Z0.1, bText E (G 1) (Z0.2.1 1), bNow E (G 2) (G 3) e0 (Z0.2.1 2), bScene E (G 3) (Z0.2.1 3), bPlan E pl (Z0.2.1 4), bPlan E dr (Z0.2.1 5), bRumour E (G 6) (Z0.2.1 6), bIm E G (Z0.2.1 7), bNow E (G 8) (G 10) e1 (Z0.2.1 8), bNow E (G 9) (G 11) e2 (Z0.2.1 9), bScene E (G 10) (Z0.2.1 10), bScene E (G 11) (Z0.2.1 11), bPool E e0 (Z0.2.2 0), bPool E e1 (Z0.2.2 1), bPool E e2 (Z0.2.2 2)]) (bc := [bGC G (pl 99) (dr 99) Z0.1, bText E (G 1) (Z0.2.1 1), bNow E (G 2) (G 3) e0 (Z0.2.1 2), bScene E (G 3) (Z0.2.1 3), bPlan E pl (Z0.2.1 4), bPlan E dr (Z0.2.1 5), bRumour E (G 6) (Z0.2.1 6), bIm E G (Z0.2.1 7), bNow E (G 8) (G 10) e1 (Z0.2.1 8), bNow E (G 9) (G 11) e2 (Z0.2.1 9), bScene E (G 10) (Z0.2.1 10), bScene E (G 11) (Z0.2.1 11), bPool E e0 (Z0.2.2 0), bPool E e1 (Z0.2.2 1), bPool E e2 (Z0.2.2 2)]) (br := []) [0, 1, 2, 3, 4, 5, 6, 7, 8, 9, 10, 11, 12, 13, 14] rfl rfl (by decide)
  refine g_i (g_runV (As := [.int x1]) (rest := []) ⟨hx, hb, hml, hown, ht⟩ hE (c_X5_isPerson E l G pl dr e0 e1 e2 Z0 x1 _ h) ⟨rfl, rfl⟩ wk_X5_100 wi_X5_isPerson ws_X5_isPerson wn_X5 wc_X5_isPerson yd_X5_isPerson ⟨Nat.le_of_ble_eq_true rfl, Nat.le_of_ble_eq_true rfl⟩ hP hD p1 (ci := 5) rfl rfl rfl rfl rfl hl.1 rfl (lv_room (Nat.le_of_ble_eq_true rfl)) dX5_opens_2 ⟨Nat.zero_le _, Nat.zero_le _⟩) hP hD hS p1 (fun r_1 _ w H locs h hw hP hD hS => ?_)
  subst hw
  clear p1
  have p2 := gB (n := 15) (bs := [bGC G (pl 99) (dr 99) Z0.1, bText E (G 1) (Z0.2.1 1), bNow E (G 2) (G 3) e0 (Z0.2.1 2), bScene E (G 3) (Z0.2.1 3), bPlan E pl (Z0.2.1 4), bPlan E dr (Z0.2.1 5), bRumour E (G 6) (Z0.2.1 6), bIm E G (Z0.2.1 7), bNow E (G 8) (G 10) e1 (Z0.2.1 8), bNow E (G 9) (G 11) e2 (Z0.2.1 9), bScene E (G 10) (Z0.2.1 10), bScene E (G 11) (Z0.2.1 11), bPool E e0 (Z0.2.2 0), bPool E e1 (Z0.2.2 1), bPool E e2 (Z0.2.2 2)]) (bc := [bGC G (pl 99) (dr 99) Z0.1, bText E (G 1) (Z0.2.1 1), bNow E (G 2) (G 3) e0 (Z0.2.1 2), bScene E (G 3) (Z0.2.1 3), bPlan E pl (Z0.2.1 4), bPlan E dr (Z0.2.1 5), bRumour E (G 6) (Z0.2.1 6), bIm E G (Z0.2.1 7), bNow E (G 8) (G 10) e1 (Z0.2.1 8), bNow E (G 9) (G 11) e2 (Z0.2.1 9), bScene E (G 10) (Z0.2.1 10), bScene E (G 11) (Z0.2.1 11), bPool E e0 (Z0.2.2 0), bPool E e1 (Z0.2.2 1), bPool E e2 (Z0.2.2 2)]) (br := []) [0, 1, 2, 3, 4, 5, 6, 7, 8, 9, 10, 11, 12, 13, 14] rfl rfl (by decide)
  have hP := gP_perm p2.symm hP
  have hD := gD_perm p2.symm hD
  clear p2
  have hP : gP E (gcW E G pl dr e0 e1 e2 Z0) H := hP
  have hD : va_D A (gcW E G pl dr e0 e1 e2 Z0) := hD
  refine lv_if_eq (tgt := 16) hx hb dX5_opens_5 (by decide) (fun c_2 => ?_) (fun c_2 => ?_)
  · have h := h.1 c_2
    refine lv_iconst (v := (-1)) hx hb dX5_opens_16 (by decide) ?_
    exact hret (-1) Z0 _ _ _ _ _ h ⟨_, _, _, rfl⟩ hP hD hS dX5_opens_17
  · have h := h.2 c_2
    refine lv_aload_n hx hb dX5_opens_8 rfl (lv_at hl 0 rfl) ?_
    refine lv_iload_n hx hb dX5_opens_9 rfl (lv_at hl 2 rfl) ?_
    have p1 := gB (n := 15) (bs := [bGC G (pl 99) (dr 99) Z0.1, bText E (G 1) (Z0.2.1 1), bNow E (G 2) (G 3) e0 (Z0.2.1 2), bScene E (G 3) (Z0.2.1 3), bPlan E pl (Z0.2.1 4), bPlan E dr (Z0.2.1 5), bRumour E (G 6) (Z0.2.1 6), bIm E G (Z0.2.1 7), bNow E (G 8) (G 10) e1 (Z0.2.1 8), bNow E (G 9) (G 11) e2 (Z0.2.1 9), bScene E (G 10) (Z0.2.1 10), bScene E (G 11) (Z0.2.1 11), bPool E e0 (Z0.2.2 0), bPool E e1 (Z0.2.2 1), bPool E e2 (Z0.2.2 2)]) (bc := [bGC G (pl 99) (dr 99) Z0.1, bText E (G 1) (Z0.2.1 1), bNow E (G 2) (G 3) e0 (Z0.2.1 2), bScene E (G 3) (Z0.2.1 3), bPlan E pl (Z0.2.1 4), bPlan E dr (Z0.2.1 5), bRumour E (G 6) (Z0.2.1 6), bIm E G (Z0.2.1 7), bNow E (G 8) (G 10) e1 (Z0.2.1 8), bNow E (G 9) (G 11) e2 (Z0.2.1 9), bScene E (G 10) (Z0.2.1 10), bScene E (G 11) (Z0.2.1 11), bPool E e0 (Z0.2.2 0), bPool E e1 (Z0.2.2 1), bPool E e2 (Z0.2.2 2)]) (br := []) [0, 1, 2, 3, 4, 5, 6, 7, 8, 9, 10, 11, 12, 13, 14] rfl rfl (by decide)
    refine g_i (g_runV (As := [.int x2]) (rest := []) ⟨hx, hb, hml, hown, ht⟩ hE (c_X5_isLock E l G pl dr e0 e1 e2 Z0 x2 _ h) ⟨rfl, rfl⟩ wk_X5_71 wi_X5_isLock ws_X5_isLock wn_X5 wc_X5_isLock yd_X5_isLock ⟨Nat.le_of_ble_eq_true rfl, Nat.le_of_ble_eq_true rfl⟩ hP hD p1 (ci := 5) rfl rfl rfl rfl rfl hl.1 rfl (lv_room (Nat.le_of_ble_eq_true rfl)) dX5_opens_10 ⟨Nat.zero_le _, Nat.zero_le _⟩) hP hD hS p1 (fun r_3 _ w H locs h hw hP hD hS => ?_)
    subst hw
    clear p1
    have p2 := gB (n := 15) (bs := [bGC G (pl 99) (dr 99) Z0.1, bText E (G 1) (Z0.2.1 1), bNow E (G 2) (G 3) e0 (Z0.2.1 2), bScene E (G 3) (Z0.2.1 3), bPlan E pl (Z0.2.1 4), bPlan E dr (Z0.2.1 5), bRumour E (G 6) (Z0.2.1 6), bIm E G (Z0.2.1 7), bNow E (G 8) (G 10) e1 (Z0.2.1 8), bNow E (G 9) (G 11) e2 (Z0.2.1 9), bScene E (G 10) (Z0.2.1 10), bScene E (G 11) (Z0.2.1 11), bPool E e0 (Z0.2.2 0), bPool E e1 (Z0.2.2 1), bPool E e2 (Z0.2.2 2)]) (bc := [bGC G (pl 99) (dr 99) Z0.1, bText E (G 1) (Z0.2.1 1), bNow E (G 2) (G 3) e0 (Z0.2.1 2), bScene E (G 3) (Z0.2.1 3), bPlan E pl (Z0.2.1 4), bPlan E dr (Z0.2.1 5), bRumour E (G 6) (Z0.2.1 6), bIm E G (Z0.2.1 7), bNow E (G 8) (G 10) e1 (Z0.2.1 8), bNow E (G 9) (G 11) e2 (Z0.2.1 9), bScene E (G 10) (Z0.2.1 10), bScene E (G 11) (Z0.2.1 11), bPool E e0 (Z0.2.2 0), bPool E e1 (Z0.2.2 1), bPool E e2 (Z0.2.2 2)]) (br := []) [0, 1, 2, 3, 4, 5, 6, 7, 8, 9, 10, 11, 12, 13, 14] rfl rfl (by decide)
    have hP := gP_perm p2.symm hP
    have hD := gD_perm p2.symm hD
    clear p2
    have hP : gP E (gcW E G pl dr e0 e1 e2 Z0) H := hP
    have hD : va_D A (gcW E G pl dr e0 e1 e2 Z0) := hD
    refine lv_if_ne (tgt := 18) hx hb dX5_opens_13 (by decide) (fun c_4 => ?_) (fun c_4 => ?_)
    · have h := h.1 c_4
      refine lv_aload_n hx hb dX5_opens_18 rfl (lv_at hl 0 rfl) ?_
      refine va_get (D := (E.1, E.2.1)) (ci := 5) (v := .ref (G 2 99)) (C := RX5) (T := TX5) (N := 8) hx hb ht wu_X5 hown hK hP 0 rfl rfl 1 (by decide) (ht _ wk_X5_19) (fun _ h9 => h9) rfl dX5_opens_19 ?_
      refine va_get (D := (E.1, E.2.1)) (ci := 0) (v := .ref ((G 3) 99)) (C := RX0) (T := TX0) (N := 3) hx hb ht wu_X0 hown hK hP 3 rfl rfl 0 (by decide) (ht _ wk_X5_75) (fun _ h9 => h9) rfl dX5_opens_22 ?_
      refine lv_astore_n (lv' := [(3, .ref ((G 3) 99)), (0, .ref (G 0 99)), (1, .int x1), (2, .int x2)]) hx hb dX5_opens_25 rfl hl (by decide) rfl (fun ls hl => ?_)
      refine lv_aload_n hx hb dX5_opens_26 rfl (lv_at hl 0 rfl) ?_
      have p1 := gB (n := 15) (bs := [bGC G (pl 99) (dr 99) Z0.1, bText E (G 1) (Z0.2.1 1), bNow E (G 2) (G 3) e0 (Z0.2.1 2), bScene E (G 3) (Z0.2.1 3), bPlan E pl (Z0.2.1 4), bPlan E dr (Z0.2.1 5), bRumour E (G 6) (Z0.2.1 6), bIm E G (Z0.2.1 7), bNow E (G 8) (G 10) e1 (Z0.2.1 8), bNow E (G 9) (G 11) e2 (Z0.2.1 9), bScene E (G 10) (Z0.2.1 10), bScene E (G 11) (Z0.2.1 11), bPool E e0 (Z0.2.2 0), bPool E e1 (Z0.2.2 1), bPool E e2 (Z0.2.2 2)]) (bc := [bScene E (G 3) (Z0.2.1 3)]) (br := [bGC G (pl 99) (dr 99) Z0.1, bText E (G 1) (Z0.2.1 1), bNow E (G 2) (G 3) e0 (Z0.2.1 2), bPlan E pl (Z0.2.1 4), bPlan E dr (Z0.2.1 5), bRumour E (G 6) (Z0.2.1 6), bIm E G (Z0.2.1 7), bNow E (G 8) (G 10) e1 (Z0.2.1 8), bNow E (G 9) (G 11) e2 (Z0.2.1 9), bScene E (G 10) (Z0.2.1 10), bScene E (G 11) (Z0.2.1 11), bPool E e0 (Z0.2.2 0), bPool E e1 (Z0.2.2 1), bPool E e2 (Z0.2.2 2)]) [3, 0, 1, 2, 4, 5, 6, 7, 8, 9, 10, 11, 12, 13, 14] rfl rfl (by decide)
      refine g_i (g_runV (As := []) (rest := []) ⟨hx, hb, hml, hown, ht⟩ hE (c_X3_isOpen E l (G 3) (Z0.2.1 3) _ h) ⟨rfl, rfl⟩ wk_X5_119 wi_X3_isOpen ws_X3_isOpen wn_X3 wc_X3_isOpen yd_X3_isOpen ⟨Nat.le_of_ble_eq_true rfl, Nat.le_of_ble_eq_true rfl⟩ hP hD p1 (ci := 3) rfl rfl rfl rfl rfl hl.1 rfl (lv_room (Nat.le_of_ble_eq_true rfl)) dX5_opens_27 ⟨Nat.zero_le _, Nat.zero_le _⟩) hP hD hS p1 (fun r_5 _ w H locs h hw hP hD hS => ?_)
      subst hw
      clear p1
      have p2 := gB (n := 15) (bs := [bGC G (pl 99) (dr 99) Z0.1, bText E (G 1) (Z0.2.1 1), bNow E (G 2) (G 3) e0 (Z0.2.1 2), bScene E (G 3) (Z0.2.1 3), bPlan E pl (Z0.2.1 4), bPlan E dr (Z0.2.1 5), bRumour E (G 6) (Z0.2.1 6), bIm E G (Z0.2.1 7), bNow E (G 8) (G 10) e1 (Z0.2.1 8), bNow E (G 9) (G 11) e2 (Z0.2.1 9), bScene E (G 10) (Z0.2.1 10), bScene E (G 11) (Z0.2.1 11), bPool E e0 (Z0.2.2 0), bPool E e1 (Z0.2.2 1), bPool E e2 (Z0.2.2 2)]) (bc := [bScene E (G 3) (Z0.2.1 3)]) (br := [bGC G (pl 99) (dr 99) Z0.1, bText E (G 1) (Z0.2.1 1), bNow E (G 2) (G 3) e0 (Z0.2.1 2), bPlan E pl (Z0.2.1 4), bPlan E dr (Z0.2.1 5), bRumour E (G 6) (Z0.2.1 6), bIm E G (Z0.2.1 7), bNow E (G 8) (G 10) e1 (Z0.2.1 8), bNow E (G 9) (G 11) e2 (Z0.2.1 9), bScene E (G 10) (Z0.2.1 10), bScene E (G 11) (Z0.2.1 11), bPool E e0 (Z0.2.2 0), bPool E e1 (Z0.2.2 1), bPool E e2 (Z0.2.2 2)]) [3, 0, 1, 2, 4, 5, 6, 7, 8, 9, 10, 11, 12, 13, 14] rfl rfl (by decide)
      have hP := gP_perm p2.symm hP
      have hD := gD_perm p2.symm hD
      clear p2
      have hP : gP E (gcW E G pl dr e0 e1 e2 Z0) H := hP
      have hD : va_D A (gcW E G pl dr e0 e1 e2 Z0) := hD
      refine lv_if_ne (tgt := 50) hx hb dX5_opens_30 (by decide) (fun c_6 => ?_) (fun c_6 => ?_)
      · have h := h.1 c_6
        refine lv_bipush (v := (-2)) hx hb dX5_opens_50 (by decide) ?_
        exact hret (-2) Z0 _ _ _ _ _ h ⟨_, _, _, rfl⟩ hP hD hS dX5_opens_52
      · have h := h.2 c_6
        refine lv_aload_n hx hb dX5_opens_33 rfl (lv_at hl 0 rfl) ?_
        refine lv_iload_n hx hb dX5_opens_34 rfl (lv_at hl 3 rfl) ?_
        have p1 := gB (n := 15) (bs := [bGC G (pl 99) (dr 99) Z0.1, bText E (G 1) (Z0.2.1 1), bNow E (G 2) (G 3) e0 (Z0.2.1 2), bScene E (G 3) (Z0.2.1 3), bPlan E pl (Z0.2.1 4), bPlan E dr (Z0.2.1 5), bRumour E (G 6) (Z0.2.1 6), bIm E G (Z0.2.1 7), bNow E (G 8) (G 10) e1 (Z0.2.1 8), bNow E (G 9) (G 11) e2 (Z0.2.1 9), bScene E (G 10) (Z0.2.1 10), bScene E (G 11) (Z0.2.1 11), bPool E e0 (Z0.2.2 0), bPool E e1 (Z0.2.2 1), bPool E e2 (Z0.2.2 2)]) (bc := [bScene E (G 3) (Z0.2.1 3)]) (br := [bGC G (pl 99) (dr 99) Z0.1, bText E (G 1) (Z0.2.1 1), bNow E (G 2) (G 3) e0 (Z0.2.1 2), bPlan E pl (Z0.2.1 4), bPlan E dr (Z0.2.1 5), bRumour E (G 6) (Z0.2.1 6), bIm E G (Z0.2.1 7), bNow E (G 8) (G 10) e1 (Z0.2.1 8), bNow E (G 9) (G 11) e2 (Z0.2.1 9), bScene E (G 10) (Z0.2.1 10), bScene E (G 11) (Z0.2.1 11), bPool E e0 (Z0.2.2 0), bPool E e1 (Z0.2.2 1), bPool E e2 (Z0.2.2 2)]) [3, 0, 1, 2, 4, 5, 6, 7, 8, 9, 10, 11, 12, 13, 14] rfl rfl (by decide)
        refine g_i (g_runV (As := [.int x2]) (rest := []) ⟨hx, hb, hml, hown, ht⟩ hE (c_X3_inRing E l (G 3) (Z0.2.1 3) x2 _ h) ⟨rfl, rfl⟩ wk_X5_91 wi_X3_inRing ws_X3_inRing wn_X3 wc_X3_inRing yd_X3_inRing ⟨Nat.le_of_ble_eq_true rfl, Nat.le_of_ble_eq_true rfl⟩ hP hD p1 (ci := 3) rfl rfl rfl rfl rfl hl.1 rfl (lv_room (Nat.le_of_ble_eq_true rfl)) dX5_opens_35 ⟨Nat.zero_le _, Nat.zero_le _⟩) hP hD hS p1 (fun r_7 _ w H locs h hw hP hD hS => ?_)
        subst hw
        clear p1
        have p2 := gB (n := 15) (bs := [bGC G (pl 99) (dr 99) Z0.1, bText E (G 1) (Z0.2.1 1), bNow E (G 2) (G 3) e0 (Z0.2.1 2), bScene E (G 3) (Z0.2.1 3), bPlan E pl (Z0.2.1 4), bPlan E dr (Z0.2.1 5), bRumour E (G 6) (Z0.2.1 6), bIm E G (Z0.2.1 7), bNow E (G 8) (G 10) e1 (Z0.2.1 8), bNow E (G 9) (G 11) e2 (Z0.2.1 9), bScene E (G 10) (Z0.2.1 10), bScene E (G 11) (Z0.2.1 11), bPool E e0 (Z0.2.2 0), bPool E e1 (Z0.2.2 1), bPool E e2 (Z0.2.2 2)]) (bc := [bScene E (G 3) (Z0.2.1 3)]) (br := [bGC G (pl 99) (dr 99) Z0.1, bText E (G 1) (Z0.2.1 1), bNow E (G 2) (G 3) e0 (Z0.2.1 2), bPlan E pl (Z0.2.1 4), bPlan E dr (Z0.2.1 5), bRumour E (G 6) (Z0.2.1 6), bIm E G (Z0.2.1 7), bNow E (G 8) (G 10) e1 (Z0.2.1 8), bNow E (G 9) (G 11) e2 (Z0.2.1 9), bScene E (G 10) (Z0.2.1 10), bScene E (G 11) (Z0.2.1 11), bPool E e0 (Z0.2.2 0), bPool E e1 (Z0.2.2 1), bPool E e2 (Z0.2.2 2)]) [3, 0, 1, 2, 4, 5, 6, 7, 8, 9, 10, 11, 12, 13, 14] rfl rfl (by decide)
        have hP := gP_perm p2.symm hP
        have hD := gD_perm p2.symm hD
        clear p2
        have hP : gP E (gcW E G pl dr e0 e1 e2 Z0) H := hP
        have hD : va_D A (gcW E G pl dr e0 e1 e2 Z0) := hD
        refine lv_if_eq (tgt := 50) hx hb dX5_opens_38 (by decide) (fun c_8 => ?_) (fun c_8 => ?_)
        · have h := h.1 c_8
          refine lv_bipush (v := (-2)) hx hb dX5_opens_50 (by decide) ?_
          exact hret (-2) Z0 _ _ _ _ _ h ⟨_, _, _, rfl⟩ hP hD hS dX5_opens_52
        · have h := h.2 c_8
          refine lv_aload_n hx hb dX5_opens_41 rfl (lv_at hl 0 rfl) ?_
          refine lv_iload_n hx hb dX5_opens_42 rfl (lv_at hl 2 rfl) ?_
          refine lv_iload_n hx hb dX5_opens_43 rfl (lv_at hl 3 rfl) ?_
          have p1 := gB (n := 15) (bs := [bGC G (pl 99) (dr 99) Z0.1, bText E (G 1) (Z0.2.1 1), bNow E (G 2) (G 3) e0 (Z0.2.1 2), bScene E (G 3) (Z0.2.1 3), bPlan E pl (Z0.2.1 4), bPlan E dr (Z0.2.1 5), bRumour E (G 6) (Z0.2.1 6), bIm E G (Z0.2.1 7), bNow E (G 8) (G 10) e1 (Z0.2.1 8), bNow E (G 9) (G 11) e2 (Z0.2.1 9), bScene E (G 10) (Z0.2.1 10), bScene E (G 11) (Z0.2.1 11), bPool E e0 (Z0.2.2 0), bPool E e1 (Z0.2.2 1), bPool E e2 (Z0.2.2 2)]) (bc := [bScene E (G 3) (Z0.2.1 3)]) (br := [bGC G (pl 99) (dr 99) Z0.1, bText E (G 1) (Z0.2.1 1), bNow E (G 2) (G 3) e0 (Z0.2.1 2), bPlan E pl (Z0.2.1 4), bPlan E dr (Z0.2.1 5), bRumour E (G 6) (Z0.2.1 6), bIm E G (Z0.2.1 7), bNow E (G 8) (G 10) e1 (Z0.2.1 8), bNow E (G 9) (G 11) e2 (Z0.2.1 9), bScene E (G 10) (Z0.2.1 10), bScene E (G 11) (Z0.2.1 11), bPool E e0 (Z0.2.2 0), bPool E e1 (Z0.2.2 1), bPool E e2 (Z0.2.2 2)]) [3, 0, 1, 2, 4, 5, 6, 7, 8, 9, 10, 11, 12, 13, 14] rfl rfl (by decide)
          refine g_i (g_runV (As := [.int x1, .int x2]) (rest := []) ⟨hx, hb, hml, hown, ht⟩ hE (c_X3_knows E l (G 3) (Z0.2.1 3) x1 x2 _ h) ⟨rfl, rfl⟩ wk_X5_123 wi_X3_knows ws_X3_knows wn_X3 wc_X3_knows yd_X3_knows ⟨Nat.le_of_ble_eq_true rfl, Nat.le_of_ble_eq_true rfl⟩ hP hD p1 (ci := 3) rfl rfl rfl rfl rfl hl.1 rfl (lv_room (Nat.le_of_ble_eq_true rfl)) dX5_opens_44 ⟨Nat.zero_le _, Nat.zero_le _⟩) hP hD hS p1 (fun r_9 _ w H locs h hw hP hD hS => ?_)
          subst hw
          clear p1
          have p2 := gB (n := 15) (bs := [bGC G (pl 99) (dr 99) Z0.1, bText E (G 1) (Z0.2.1 1), bNow E (G 2) (G 3) e0 (Z0.2.1 2), bScene E (G 3) (Z0.2.1 3), bPlan E pl (Z0.2.1 4), bPlan E dr (Z0.2.1 5), bRumour E (G 6) (Z0.2.1 6), bIm E G (Z0.2.1 7), bNow E (G 8) (G 10) e1 (Z0.2.1 8), bNow E (G 9) (G 11) e2 (Z0.2.1 9), bScene E (G 10) (Z0.2.1 10), bScene E (G 11) (Z0.2.1 11), bPool E e0 (Z0.2.2 0), bPool E e1 (Z0.2.2 1), bPool E e2 (Z0.2.2 2)]) (bc := [bScene E (G 3) (Z0.2.1 3)]) (br := [bGC G (pl 99) (dr 99) Z0.1, bText E (G 1) (Z0.2.1 1), bNow E (G 2) (G 3) e0 (Z0.2.1 2), bPlan E pl (Z0.2.1 4), bPlan E dr (Z0.2.1 5), bRumour E (G 6) (Z0.2.1 6), bIm E G (Z0.2.1 7), bNow E (G 8) (G 10) e1 (Z0.2.1 8), bNow E (G 9) (G 11) e2 (Z0.2.1 9), bScene E (G 10) (Z0.2.1 10), bScene E (G 11) (Z0.2.1 11), bPool E e0 (Z0.2.2 0), bPool E e1 (Z0.2.2 1), bPool E e2 (Z0.2.2 2)]) [3, 0, 1, 2, 4, 5, 6, 7, 8, 9, 10, 11, 12, 13, 14] rfl rfl (by decide)
          have hP := gP_perm p2.symm hP
          have hD := gD_perm p2.symm hD
          clear p2
          have hP : gP E (gcW E G pl dr e0 e1 e2 Z0) H := hP
          have hD : va_D A (gcW E G pl dr e0 e1 e2 Z0) := hD
          refine lv_if_ne (tgt := 53) hx hb dX5_opens_47 (by decide) (fun c_10 => ?_) (fun c_10 => ?_)
          · have h := h.1 c_10
            refine lv_aload_n hx hb dX5_opens_53 rfl (lv_at hl 1 rfl) ?_
            refine va_get (D := (E.1, E.2.1)) (ci := 5) (v := .ref (G 2 99)) (C := RX5) (T := TX5) (N := 8) hx hb ht wu_X5 hown hK hP 0 rfl rfl 1 (by decide) (ht _ wk_X5_19) (fun _ h9 => h9) rfl dX5_opens_54 ?_
            have p1 := gB (n := 15) (bs := [bGC G (pl 99) (dr 99) Z0.1, bText E (G 1) (Z0.2.1 1), bNow E (G 2) (G 3) e0 (Z0.2.1 2), bScene E (G 3) (Z0.2.1 3), bPlan E pl (Z0.2.1 4), bPlan E dr (Z0.2.1 5), bRumour E (G 6) (Z0.2.1 6), bIm E G (Z0.2.1 7), bNow E (G 8) (G 10) e1 (Z0.2.1 8), bNow E (G 9) (G 11) e2 (Z0.2.1 9), bScene E (G 10) (Z0.2.1 10), bScene E (G 11) (Z0.2.1 11), bPool E e0 (Z0.2.2 0), bPool E e1 (Z0.2.2 1), bPool E e2 (Z0.2.2 2)]) (bc := [bNow E (G 2) (G 3) e0 (Z0.2.1 2), bScene E (G 3) (Z0.2.1 3), bPool E e0 (Z0.2.2 0)]) (br := [bGC G (pl 99) (dr 99) Z0.1, bText E (G 1) (Z0.2.1 1), bPlan E pl (Z0.2.1 4), bPlan E dr (Z0.2.1 5), bRumour E (G 6) (Z0.2.1 6), bIm E G (Z0.2.1 7), bNow E (G 8) (G 10) e1 (Z0.2.1 8), bNow E (G 9) (G 11) e2 (Z0.2.1 9), bScene E (G 10) (Z0.2.1 10), bScene E (G 11) (Z0.2.1 11), bPool E e1 (Z0.2.2 1), bPool E e2 (Z0.2.2 2)]) [2, 3, 12, 0, 1, 4, 5, 6, 7, 8, 9, 10, 11, 13, 14] rfl rfl (by decide)
            refine g_v (g_runV (As := []) (rest := []) ⟨hx, hb, hml, hown, ht⟩ hE (c_X0_remember E l (G 2) (G 3) e0 (Z0.2.1 2) (Z0.2.1 3) (Z0.2.2 0) _ h) ⟨rfl, rfl⟩ wk_X5_126 wi_X0_remember ws_X0_remember wn_X0 wc_X0_remember yd_X0_remember ⟨Nat.le_of_ble_eq_true rfl, Nat.le_of_ble_eq_true rfl⟩ hP hD p1 (ci := 0) rfl rfl rfl rfl rfl hl.1 rfl (lv_room (Nat.le_of_ble_eq_true rfl)) dX5_opens_57 ⟨Nat.zero_le _, Nat.zero_le _⟩) hP hD hS p1 (fun u w H locs h hw hP hD hS => ?_)
            obtain ⟨S_11, S_12, O_13⟩ := u
            obtain ⟨e_14, rfl⟩ := hw
            clear p1
            have p2 := gB (n := 15) (bs := [bGC G (pl 99) (dr 99) Z0.1, bText E (G 1) (Z0.2.1 1), bNow E (G 2) (G 3) e_14 S_11, bScene E (G 3) S_12, bPlan E pl (Z0.2.1 4), bPlan E dr (Z0.2.1 5), bRumour E (G 6) (Z0.2.1 6), bIm E G (Z0.2.1 7), bNow E (G 8) (G 10) e1 (Z0.2.1 8), bNow E (G 9) (G 11) e2 (Z0.2.1 9), bScene E (G 10) (Z0.2.1 10), bScene E (G 11) (Z0.2.1 11), bPool E e_14 O_13, bPool E e1 (Z0.2.2 1), bPool E e2 (Z0.2.2 2)]) (bc := [bNow E (G 2) (G 3) e_14 S_11, bScene E (G 3) S_12, bPool E e_14 O_13]) (br := [bGC G (pl 99) (dr 99) Z0.1, bText E (G 1) (Z0.2.1 1), bPlan E pl (Z0.2.1 4), bPlan E dr (Z0.2.1 5), bRumour E (G 6) (Z0.2.1 6), bIm E G (Z0.2.1 7), bNow E (G 8) (G 10) e1 (Z0.2.1 8), bNow E (G 9) (G 11) e2 (Z0.2.1 9), bScene E (G 10) (Z0.2.1 10), bScene E (G 11) (Z0.2.1 11), bPool E e1 (Z0.2.2 1), bPool E e2 (Z0.2.2 2)]) [2, 3, 12, 0, 1, 4, 5, 6, 7, 8, 9, 10, 11, 13, 14] rfl rfl (by decide)
            have hP := gP_perm p2.symm hP
            have hD := gD_perm p2.symm hD
            clear p2
            obtain ⟨Z_15, eZ_15⟩ : ∃ z : GC, z = (gpo (gx (gx Z0 2 S_11) 3 S_12) 0 O_13) := ⟨_, rfl⟩
            have h := h Z_15 eZ_15
            have hP : gP E (gcW E G pl dr e_14 e1 e2 Z_15) H := by rw [eZ_15]; exact hP
            have hD : va_D A (gcW E G pl dr e_14 e1 e2 Z_15) := by rw [eZ_15]; exact hD
            refine lv_aload_n hx hb dX5_opens_60 rfl (lv_at hl 0 rfl) ?_
            refine va_get (D := (E.1, E.2.1)) (ci := 3) (v := .ref ((G 3) 1)) (C := RX3) (T := TX3) (N := 5) hx hb ht wu_X3 hown hK hP 5 rfl rfl 1 (by decide) (ht _ wk_X5_85) (fun _ h9 => h9) rfl dX5_opens_61 ?_
            refine lv_iload_n hx hb dX5_opens_64 rfl (lv_at hl 3 rfl) ?_
            refine lv_aload_n hx hb dX5_opens_65 rfl (lv_at hl 0 rfl) ?_
            refine va_get (D := (E.1, E.2.1)) (ci := 3) (v := .ref ((G 3) 0)) (C := RX3) (T := TX3) (N := 5) hx hb ht wu_X3 hown hK hP 5 rfl rfl 0 (by decide) (ht _ wk_X5_79) (fun _ h9 => h9) rfl dX5_opens_66 ?_
            refine lv_iload_n hx hb dX5_opens_69 rfl (lv_at hl 3 rfl) ?_
            refine va_iald hx hb hK hP 6 0 rfl rfl h.1 dX5_opens_70 ?_
            have h := h.2
            refine va_iast hx hb hK hP hD hS 7 0 rfl rfl h.1 dX5_opens_71 (fun H locs hP hD hS => ?_)
            have h := h.2
            have hP : gP E (gcW E G pl dr e_14 e1 e2 (gx Z_15 3 (pa (Z_15.2.1 3) 1 (x2.toNatClampNeg) ((Z_15.2.1 3).2 0 x2.toNatClampNeg)))) H := hP
            have hD : va_D A (gcW E G pl dr e_14 e1 e2 (gx Z_15 3 (pa (Z_15.2.1 3) 1 (x2.toNatClampNeg) ((Z_15.2.1 3).2 0 x2.toNatClampNeg)))) := hD
            obtain ⟨Z_16, eZ_16⟩ : ∃ z : GC, z = (gx Z_15 3 (pa (Z_15.2.1 3) 1 (x2.toNatClampNeg) ((Z_15.2.1 3).2 0 x2.toNatClampNeg))) := ⟨_, rfl⟩
            have h := h Z_16 eZ_16
            have hP : gP E (gcW E G pl dr e_14 e1 e2 Z_16) H := by rw [eZ_16]; exact hP
            have hD : va_D A (gcW E G pl dr e_14 e1 e2 Z_16) := by rw [eZ_16]; exact hD
            refine lv_aload_n hx hb dX5_opens_72 rfl (lv_at hl 0 rfl) ?_
            refine lv_iload_n hx hb dX5_opens_73 rfl (lv_at hl 3 rfl) ?_
            refine va_put (D := (E.1, E.2.1)) (ci := 3) (v := .int x2) (ty := .int) (C := RX3) (T := TX3) (N := 5) hx hb ht wu_X3 tyX3 tyX3_ok nmX3 hown hK hP hD hS 5 rfl rfl 4 (by decide) (ht _ wk_X5_129) (fun _ h9 => h9) rfl (by decide +kernel) rfl rfl (Nat.le_of_ble_eq_true rfl) dX5_opens_74 (fun H locs hP hD hS => ?_)
            have hP : gP E (gcW E G pl dr e_14 e1 e2 (gx Z_16 3 (pf (Z_16.2.1 3) 4 x2))) H := hP
            have hD : va_D A (gcW E G pl dr e_14 e1 e2 (gx Z_16 3 (pf (Z_16.2.1 3) 4 x2))) := hD
            obtain ⟨Z_17, eZ_17⟩ : ∃ z : GC, z = (gx Z_16 3 (pf (Z_16.2.1 3) 4 x2)) := ⟨_, rfl⟩
            have h := h Z_17 eZ_17
            have hP : gP E (gcW E G pl dr e_14 e1 e2 Z_17) H := by rw [eZ_17]; exact hP
            have hD : va_D A (gcW E G pl dr e_14 e1 e2 Z_17) := by rw [eZ_17]; exact hD
            refine lv_aload_n hx hb dX5_opens_77 rfl (lv_at hl 0 rfl) ?_
            have p1 := gB (n := 15) (bs := [bGC G (pl 99) (dr 99) Z_17.1, bText E (G 1) (Z_17.2.1 1), bNow E (G 2) (G 3) e_14 (Z_17.2.1 2), bScene E (G 3) (Z_17.2.1 3), bPlan E pl (Z_17.2.1 4), bPlan E dr (Z_17.2.1 5), bRumour E (G 6) (Z_17.2.1 6), bIm E G (Z_17.2.1 7), bNow E (G 8) (G 10) e1 (Z_17.2.1 8), bNow E (G 9) (G 11) e2 (Z_17.2.1 9), bScene E (G 10) (Z_17.2.1 10), bScene E (G 11) (Z_17.2.1 11), bPool E e_14 (Z_17.2.2 0), bPool E e1 (Z_17.2.2 1), bPool E e2 (Z_17.2.2 2)]) (bc := [bScene E (G 3) (Z_17.2.1 3)]) (br := [bGC G (pl 99) (dr 99) Z_17.1, bText E (G 1) (Z_17.2.1 1), bNow E (G 2) (G 3) e_14 (Z_17.2.1 2), bPlan E pl (Z_17.2.1 4), bPlan E dr (Z_17.2.1 5), bRumour E (G 6) (Z_17.2.1 6), bIm E G (Z_17.2.1 7), bNow E (G 8) (G 10) e1 (Z_17.2.1 8), bNow E (G 9) (G 11) e2 (Z_17.2.1 9), bScene E (G 10) (Z_17.2.1 10), bScene E (G 11) (Z_17.2.1 11), bPool E e_14 (Z_17.2.2 0), bPool E e1 (Z_17.2.2 1), bPool E e2 (Z_17.2.2 2)]) [3, 0, 1, 2, 4, 5, 6, 7, 8, 9, 10, 11, 12, 13, 14] rfl rfl (by decide)
            refine g_i (g_runV (As := []) (rest := []) ⟨hx, hb, hml, hown, ht⟩ hE (c_X3_ringSize E l (G 3) (Z_17.2.1 3) _ h) ⟨rfl, rfl⟩ wk_X5_133 wi_X3_ringSize ws_X3_ringSize wn_X3 wc_X3_ringSize yd_X3_ringSize ⟨Nat.le_of_ble_eq_true rfl, Nat.le_of_ble_eq_true rfl⟩ hP hD p1 (ci := 3) rfl rfl rfl rfl rfl hl.1 rfl (lv_room (Nat.le_of_ble_eq_true rfl)) dX5_opens_78 ⟨Nat.zero_le _, Nat.zero_le _⟩) hP hD hS p1 (fun r_18 _ w H locs h hw hP hD hS => ?_)
            subst hw
            clear p1
            have p2 := gB (n := 15) (bs := [bGC G (pl 99) (dr 99) Z_17.1, bText E (G 1) (Z_17.2.1 1), bNow E (G 2) (G 3) e_14 (Z_17.2.1 2), bScene E (G 3) (Z_17.2.1 3), bPlan E pl (Z_17.2.1 4), bPlan E dr (Z_17.2.1 5), bRumour E (G 6) (Z_17.2.1 6), bIm E G (Z_17.2.1 7), bNow E (G 8) (G 10) e1 (Z_17.2.1 8), bNow E (G 9) (G 11) e2 (Z_17.2.1 9), bScene E (G 10) (Z_17.2.1 10), bScene E (G 11) (Z_17.2.1 11), bPool E e_14 (Z_17.2.2 0), bPool E e1 (Z_17.2.2 1), bPool E e2 (Z_17.2.2 2)]) (bc := [bScene E (G 3) (Z_17.2.1 3)]) (br := [bGC G (pl 99) (dr 99) Z_17.1, bText E (G 1) (Z_17.2.1 1), bNow E (G 2) (G 3) e_14 (Z_17.2.1 2), bPlan E pl (Z_17.2.1 4), bPlan E dr (Z_17.2.1 5), bRumour E (G 6) (Z_17.2.1 6), bIm E G (Z_17.2.1 7), bNow E (G 8) (G 10) e1 (Z_17.2.1 8), bNow E (G 9) (G 11) e2 (Z_17.2.1 9), bScene E (G 10) (Z_17.2.1 10), bScene E (G 11) (Z_17.2.1 11), bPool E e_14 (Z_17.2.2 0), bPool E e1 (Z_17.2.2 1), bPool E e2 (Z_17.2.2 2)]) [3, 0, 1, 2, 4, 5, 6, 7, 8, 9, 10, 11, 12, 13, 14] rfl rfl (by decide)
            have hP := gP_perm p2.symm hP
            have hD := gD_perm p2.symm hD
            clear p2
            have hP : gP E (gcW E G pl dr e_14 e1 e2 Z_17) H := hP
            have hD : va_D A (gcW E G pl dr e_14 e1 e2 Z_17) := hD
            exact hret r_18 Z_17 _ _ _ _ _ h ⟨_, _, _, rfl⟩ hP hD hS dX5_opens_81
          · have h := h.2 c_10
            refine lv_bipush (v := (-2)) hx hb dX5_opens_50 (by decide) ?_
            exact hret (-2) Z0 _ _ _ _ _ h ⟨_, _, _, rfl⟩ hP hD hS dX5_opens_52
    · have h := h.2 c_4
      refine lv_iconst (v := (-1)) hx hb dX5_opens_16 (by decide) ?_
      exact hret (-1) Z0 _ _ _ _ _ h ⟨_, _, _, rfl⟩ hP hD hS dX5_opens_17
theorem dX5_shuts_0 : decode cX5_shuts 0 = .ok (.aload_n 0, 1) := by decide +kernel
theorem dX5_shuts_1 : decode cX5_shuts 1 = .ok (.iload_n 1, 1) := by decide +kernel
theorem dX5_shuts_2 : decode cX5_shuts 2 = .ok (.invokevirtual 71, 3) := by decide +kernel
theorem dX5_shuts_5 : decode cX5_shuts 5 = .ok (.ifCond .eq 10, 3) := by decide +kernel
theorem dX5_shuts_8 : decode cX5_shuts 8 = .ok (.iload_n 2, 1) := by decide +kernel
theorem dX5_shuts_9 : decode cX5_shuts 9 = .ok (.invokestatic 136, 3) := by decide +kernel
theorem dX5_shuts_12 : decode cX5_shuts 12 = .ok (.ifCond .ne 5, 3) := by decide +kernel
theorem dX5_shuts_15 : decode cX5_shuts 15 = .ok (.iconst (-1), 1) := by decide +kernel
theorem dX5_shuts_16 : decode cX5_shuts 16 = .ok (.ireturn, 1) := by decide +kernel
theorem dX5_shuts_17 : decode cX5_shuts 17 = .ok (.aload_n 0, 1) := by decide +kernel
theorem dX5_shuts_18 : decode cX5_shuts 18 = .ok (.getfield 19, 3) := by decide +kernel
theorem dX5_shuts_21 : decode cX5_shuts 21 = .ok (.getfield 75, 3) := by decide +kernel
theorem dX5_shuts_24 : decode cX5_shuts 24 = .ok (.iload_n 1, 1) := by decide +kernel
theorem dX5_shuts_25 : decode cX5_shuts 25 = .ok (.invokevirtual 139, 3) := by decide +kernel
theorem dX5_shuts_28 : decode cX5_shuts 28 = .ok (.ifCond .ne 6, 3) := by decide +kernel
theorem dX5_shuts_31 : decode cX5_shuts 31 = .ok (.bipush (-2), 2) := by decide +kernel
theorem dX5_shuts_33 : decode cX5_shuts 33 = .ok (.ireturn, 1) := by decide +kernel
theorem dX5_shuts_34 : decode cX5_shuts 34 = .ok (.aload_n 0, 1) := by decide +kernel
theorem dX5_shuts_35 : decode cX5_shuts 35 = .ok (.getfield 19, 3) := by decide +kernel
theorem dX5_shuts_38 : decode cX5_shuts 38 = .ok (.invokevirtual 126, 3) := by decide +kernel
theorem dX5_shuts_41 : decode cX5_shuts 41 = .ok (.aload_n 0, 1) := by decide +kernel
theorem dX5_shuts_42 : decode cX5_shuts 42 = .ok (.getfield 19, 3) := by decide +kernel
theorem dX5_shuts_45 : decode cX5_shuts 45 = .ok (.getfield 75, 3) := by decide +kernel
theorem dX5_shuts_48 : decode cX5_shuts 48 = .ok (.iload_n 1, 1) := by decide +kernel
theorem dX5_shuts_49 : decode cX5_shuts 49 = .ok (.iload_n 2, 1) := by decide +kernel
theorem dX5_shuts_50 : decode cX5_shuts 50 = .ok (.invokevirtual 142, 3) := by decide +kernel
theorem dX5_shuts_53 : decode cX5_shuts 53 = .ok (.ireturn, 1) := by decide +kernel
set_option maxHeartbeats 4000000 in
set_option maxRecDepth 100000 in
theorem c_X5_shuts (E : GE) (l : Launch) (G : Nat → Nat → Nat) (pl dr : Nat → Nat) (e0 e1 e2 : Nat → Nat → Nat) (Z0 : GC) (x1 : Int32) (x2 : Int32) (post : Int32 → GC → Prop) (h : wp_X5_shuts Z0 x1 x2 post) : Met l yX5_shuts (wz yX5_shuts cX5_shuts 3 (some .int)) { frames := 3, cells := 0, slots := 0, locals := 81 } (gPc E [.ref (G 0 99), .int x1, .int x2] (gcW E G pl dr e0 e1 e2 Z0)) (gQi E (gcW E G pl dr e0 e1 e2 Z0) (fun r (u : GC) => post r u) (fun (u : GC) w => ∃ (pl dr : Nat → Nat) (e0 : Nat → Nat → Nat), w = gcW E G pl dr e0 e1 e2 u)) 0 0 (gIn (gcW E G pl dr e0 e1 e2 Z0)) := by
  unfold wp_X5_shuts at h
  refine g_of_i (by decide) (Nat.le_of_ble_eq_true rfl) ?_
  intro p e s m below meth c A Q hx hb hml hown ht hE hP hD hret ls hl
  have hK := hE.1
  have hS : va_S A s.heap s.heap [] := va_S.rf
  have hl : lv_has ls 3 [(0, .ref (G 0 99)), (1, .int x1), (2, .int x2)] := hl
  refine lv_aload_n hx hb dX5_shuts_0 rfl (lv_at hl 0 rfl) ?_
  refine lv_iload_n hx hb dX5_shuts_1 rfl (lv_at hl 1 rfl) ?_
  have p1 := gB (n := 15) (bs := [bGC G (pl 99) (dr 99) Z0.1, bText E (G 1) (Z0.2.1 1), bNow E (G 2) (G 3) e0 (Z0.2.1 2), bScene E (G 3) (Z0.2.1 3), bPlan E pl (Z0.2.1 4), bPlan E dr (Z0.2.1 5), bRumour E (G 6) (Z0.2.1 6), bIm E G (Z0.2.1 7), bNow E (G 8) (G 10) e1 (Z0.2.1 8), bNow E (G 9) (G 11) e2 (Z0.2.1 9), bScene E (G 10) (Z0.2.1 10), bScene E (G 11) (Z0.2.1 11), bPool E e0 (Z0.2.2 0), bPool E e1 (Z0.2.2 1), bPool E e2 (Z0.2.2 2)]) (bc := [bGC G (pl 99) (dr 99) Z0.1, bText E (G 1) (Z0.2.1 1), bNow E (G 2) (G 3) e0 (Z0.2.1 2), bScene E (G 3) (Z0.2.1 3), bPlan E pl (Z0.2.1 4), bPlan E dr (Z0.2.1 5), bRumour E (G 6) (Z0.2.1 6), bIm E G (Z0.2.1 7), bNow E (G 8) (G 10) e1 (Z0.2.1 8), bNow E (G 9) (G 11) e2 (Z0.2.1 9), bScene E (G 10) (Z0.2.1 10), bScene E (G 11) (Z0.2.1 11), bPool E e0 (Z0.2.2 0), bPool E e1 (Z0.2.2 1), bPool E e2 (Z0.2.2 2)]) (br := []) [0, 1, 2, 3, 4, 5, 6, 7, 8, 9, 10, 11, 12, 13, 14] rfl rfl (by decide)
  refine g_i (g_runV (As := [.int x1]) (rest := []) ⟨hx, hb, hml, hown, ht⟩ hE (c_X5_isLock E l G pl dr e0 e1 e2 Z0 x1 _ h) ⟨rfl, rfl⟩ wk_X5_71 wi_X5_isLock ws_X5_isLock wn_X5 wc_X5_isLock yd_X5_isLock ⟨Nat.le_of_ble_eq_true rfl, Nat.le_of_ble_eq_true rfl⟩ hP hD p1 (ci := 5) rfl rfl rfl rfl rfl hl.1 rfl (lv_room (Nat.le_of_ble_eq_true rfl)) dX5_shuts_2 ⟨Nat.zero_le _, Nat.zero_le _⟩) hP hD hS p1 (fun r_1 _ w H locs h hw hP hD hS => ?_)
  subst hw
  clear p1
  have p2 := gB (n := 15) (bs := [bGC G (pl 99) (dr 99) Z0.1, bText E (G 1) (Z0.2.1 1), bNow E (G 2) (G 3) e0 (Z0.2.1 2), bScene E (G 3) (Z0.2.1 3), bPlan E pl (Z0.2.1 4), bPlan E dr (Z0.2.1 5), bRumour E (G 6) (Z0.2.1 6), bIm E G (Z0.2.1 7), bNow E (G 8) (G 10) e1 (Z0.2.1 8), bNow E (G 9) (G 11) e2 (Z0.2.1 9), bScene E (G 10) (Z0.2.1 10), bScene E (G 11) (Z0.2.1 11), bPool E e0 (Z0.2.2 0), bPool E e1 (Z0.2.2 1), bPool E e2 (Z0.2.2 2)]) (bc := [bGC G (pl 99) (dr 99) Z0.1, bText E (G 1) (Z0.2.1 1), bNow E (G 2) (G 3) e0 (Z0.2.1 2), bScene E (G 3) (Z0.2.1 3), bPlan E pl (Z0.2.1 4), bPlan E dr (Z0.2.1 5), bRumour E (G 6) (Z0.2.1 6), bIm E G (Z0.2.1 7), bNow E (G 8) (G 10) e1 (Z0.2.1 8), bNow E (G 9) (G 11) e2 (Z0.2.1 9), bScene E (G 10) (Z0.2.1 10), bScene E (G 11) (Z0.2.1 11), bPool E e0 (Z0.2.2 0), bPool E e1 (Z0.2.2 1), bPool E e2 (Z0.2.2 2)]) (br := []) [0, 1, 2, 3, 4, 5, 6, 7, 8, 9, 10, 11, 12, 13, 14] rfl rfl (by decide)
  have hP := gP_perm p2.symm hP
  have hD := gD_perm p2.symm hD
  clear p2
  have hP : gP E (gcW E G pl dr e0 e1 e2 Z0) H := hP
  have hD : va_D A (gcW E G pl dr e0 e1 e2 Z0) := hD
  refine lv_if_eq (tgt := 15) hx hb dX5_shuts_5 (by decide) (fun c_2 => ?_) (fun c_2 => ?_)
  · have h := h.1 c_2
    refine lv_iconst (v := (-1)) hx hb dX5_shuts_15 (by decide) ?_
    exact hret (-1) Z0 _ _ _ _ _ h ⟨_, _, _, rfl⟩ hP hD hS dX5_shuts_16
  · have h := h.2 c_2
    refine lv_iload_n hx hb dX5_shuts_8 rfl (lv_at hl 2 rfl) ?_
    have p1 := gB (n := 15) (bs := [bGC G (pl 99) (dr 99) Z0.1, bText E (G 1) (Z0.2.1 1), bNow E (G 2) (G 3) e0 (Z0.2.1 2), bScene E (G 3) (Z0.2.1 3), bPlan E pl (Z0.2.1 4), bPlan E dr (Z0.2.1 5), bRumour E (G 6) (Z0.2.1 6), bIm E G (Z0.2.1 7), bNow E (G 8) (G 10) e1 (Z0.2.1 8), bNow E (G 9) (G 11) e2 (Z0.2.1 9), bScene E (G 10) (Z0.2.1 10), bScene E (G 11) (Z0.2.1 11), bPool E e0 (Z0.2.2 0), bPool E e1 (Z0.2.2 1), bPool E e2 (Z0.2.2 2)]) (bc := []) (br := [bGC G (pl 99) (dr 99) Z0.1, bText E (G 1) (Z0.2.1 1), bNow E (G 2) (G 3) e0 (Z0.2.1 2), bScene E (G 3) (Z0.2.1 3), bPlan E pl (Z0.2.1 4), bPlan E dr (Z0.2.1 5), bRumour E (G 6) (Z0.2.1 6), bIm E G (Z0.2.1 7), bNow E (G 8) (G 10) e1 (Z0.2.1 8), bNow E (G 9) (G 11) e2 (Z0.2.1 9), bScene E (G 10) (Z0.2.1 10), bScene E (G 11) (Z0.2.1 11), bPool E e0 (Z0.2.2 0), bPool E e1 (Z0.2.2 1), bPool E e2 (Z0.2.2 2)]) [0, 1, 2, 3, 4, 5, 6, 7, 8, 9, 10, 11, 12, 13, 14] rfl rfl (by decide)
    refine g_i (g_runS (As := [.int x2]) (rest := []) ⟨hx, hb, hml, hown, ht⟩ hE (c_X5_isNumber E l x2 _ h) ⟨rfl, rfl⟩ wk_X5_136 wt_X5_isNumber wn_X5 wc_X5_isNumber yd_X5_isNumber ⟨Nat.le_of_ble_eq_true rfl, Nat.le_of_ble_eq_true rfl⟩ hP hD p1 rfl rfl hl.1 rfl (lv_room (Nat.le_of_ble_eq_true rfl)) dX5_shuts_9 ⟨Nat.zero_le _, Nat.zero_le _⟩) hP hD hS p1 (fun r_3 _ w H locs h hw hP hD hS => ?_)
    subst hw
    clear p1
    have p2 := gB (n := 15) (bs := [bGC G (pl 99) (dr 99) Z0.1, bText E (G 1) (Z0.2.1 1), bNow E (G 2) (G 3) e0 (Z0.2.1 2), bScene E (G 3) (Z0.2.1 3), bPlan E pl (Z0.2.1 4), bPlan E dr (Z0.2.1 5), bRumour E (G 6) (Z0.2.1 6), bIm E G (Z0.2.1 7), bNow E (G 8) (G 10) e1 (Z0.2.1 8), bNow E (G 9) (G 11) e2 (Z0.2.1 9), bScene E (G 10) (Z0.2.1 10), bScene E (G 11) (Z0.2.1 11), bPool E e0 (Z0.2.2 0), bPool E e1 (Z0.2.2 1), bPool E e2 (Z0.2.2 2)]) (bc := []) (br := [bGC G (pl 99) (dr 99) Z0.1, bText E (G 1) (Z0.2.1 1), bNow E (G 2) (G 3) e0 (Z0.2.1 2), bScene E (G 3) (Z0.2.1 3), bPlan E pl (Z0.2.1 4), bPlan E dr (Z0.2.1 5), bRumour E (G 6) (Z0.2.1 6), bIm E G (Z0.2.1 7), bNow E (G 8) (G 10) e1 (Z0.2.1 8), bNow E (G 9) (G 11) e2 (Z0.2.1 9), bScene E (G 10) (Z0.2.1 10), bScene E (G 11) (Z0.2.1 11), bPool E e0 (Z0.2.2 0), bPool E e1 (Z0.2.2 1), bPool E e2 (Z0.2.2 2)]) [0, 1, 2, 3, 4, 5, 6, 7, 8, 9, 10, 11, 12, 13, 14] rfl rfl (by decide)
    have hP := gP_perm p2.symm hP
    have hD := gD_perm p2.symm hD
    clear p2
    have hP : gP E (gcW E G pl dr e0 e1 e2 Z0) H := hP
    have hD : va_D A (gcW E G pl dr e0 e1 e2 Z0) := hD
    refine lv_if_ne (tgt := 17) hx hb dX5_shuts_12 (by decide) (fun c_4 => ?_) (fun c_4 => ?_)
    · have h := h.1 c_4
      refine lv_aload_n hx hb dX5_shuts_17 rfl (lv_at hl 0 rfl) ?_
      refine va_get (D := (E.1, E.2.1)) (ci := 5) (v := .ref (G 2 99)) (C := RX5) (T := TX5) (N := 8) hx hb ht wu_X5 hown hK hP 0 rfl rfl 1 (by decide) (ht _ wk_X5_19) (fun _ h9 => h9) rfl dX5_shuts_18 ?_
      refine va_get (D := (E.1, E.2.1)) (ci := 0) (v := .ref ((G 3) 99)) (C := RX0) (T := TX0) (N := 3) hx hb ht wu_X0 hown hK hP 3 rfl rfl 0 (by decide) (ht _ wk_X5_75) (fun _ h9 => h9) rfl dX5_shuts_21 ?_
      refine lv_iload_n hx hb dX5_shuts_24 rfl (lv_at hl 1 rfl) ?_
      have p1 := gB (n := 15) (bs := [bGC G (pl 99) (dr 99) Z0.1, bText E (G 1) (Z0.2.1 1), bNow E (G 2) (G 3) e0 (Z0.2.1 2), bScene E (G 3) (Z0.2.1 3), bPlan E pl (Z0.2.1 4), bPlan E dr (Z0.2.1 5), bRumour E (G 6) (Z0.2.1 6), bIm E G (Z0.2.1 7), bNow E (G 8) (G 10) e1 (Z0.2.1 8), bNow E (G 9) (G 11) e2 (Z0.2.1 9), bScene E (G 10) (Z0.2.1 10), bScene E (G 11) (Z0.2.1 11), bPool E e0 (Z0.2.2 0), bPool E e1 (Z0.2.2 1), bPool E e2 (Z0.2.2 2)]) (bc := [bScene E (G 3) (Z0.2.1 3)]) (br := [bGC G (pl 99) (dr 99) Z0.1, bText E (G 1) (Z0.2.1 1), bNow E (G 2) (G 3) e0 (Z0.2.1 2), bPlan E pl (Z0.2.1 4), bPlan E dr (Z0.2.1 5), bRumour E (G 6) (Z0.2.1 6), bIm E G (Z0.2.1 7), bNow E (G 8) (G 10) e1 (Z0.2.1 8), bNow E (G 9) (G 11) e2 (Z0.2.1 9), bScene E (G 10) (Z0.2.1 10), bScene E (G 11) (Z0.2.1 11), bPool E e0 (Z0.2.2 0), bPool E e1 (Z0.2.2 1), bPool E e2 (Z0.2.2 2)]) [3, 0, 1, 2, 4, 5, 6, 7, 8, 9, 10, 11, 12, 13, 14] rfl rfl (by decide)
      refine g_i (g_runV (As := [.int x1]) (rest := []) ⟨hx, hb, hml, hown, ht⟩ hE (c_X3_canShutOn E l (G 3) (Z0.2.1 3) x1 _ h) ⟨rfl, rfl⟩ wk_X5_139 wi_X3_canShutOn ws_X3_canShutOn wn_X3 wc_X3_canShutOn yd_X3_canShutOn ⟨Nat.le_of_ble_eq_true rfl, Nat.le_of_ble_eq_true rfl⟩ hP hD p1 (ci := 3) rfl rfl rfl rfl rfl hl.1 rfl (lv_room (Nat.le_of_ble_eq_true rfl)) dX5_shuts_25 ⟨Nat.zero_le _, Nat.zero_le _⟩) hP hD hS p1 (fun r_5 _ w H locs h hw hP hD hS => ?_)
      subst hw
      clear p1
      have p2 := gB (n := 15) (bs := [bGC G (pl 99) (dr 99) Z0.1, bText E (G 1) (Z0.2.1 1), bNow E (G 2) (G 3) e0 (Z0.2.1 2), bScene E (G 3) (Z0.2.1 3), bPlan E pl (Z0.2.1 4), bPlan E dr (Z0.2.1 5), bRumour E (G 6) (Z0.2.1 6), bIm E G (Z0.2.1 7), bNow E (G 8) (G 10) e1 (Z0.2.1 8), bNow E (G 9) (G 11) e2 (Z0.2.1 9), bScene E (G 10) (Z0.2.1 10), bScene E (G 11) (Z0.2.1 11), bPool E e0 (Z0.2.2 0), bPool E e1 (Z0.2.2 1), bPool E e2 (Z0.2.2 2)]) (bc := [bScene E (G 3) (Z0.2.1 3)]) (br := [bGC G (pl 99) (dr 99) Z0.1, bText E (G 1) (Z0.2.1 1), bNow E (G 2) (G 3) e0 (Z0.2.1 2), bPlan E pl (Z0.2.1 4), bPlan E dr (Z0.2.1 5), bRumour E (G 6) (Z0.2.1 6), bIm E G (Z0.2.1 7), bNow E (G 8) (G 10) e1 (Z0.2.1 8), bNow E (G 9) (G 11) e2 (Z0.2.1 9), bScene E (G 10) (Z0.2.1 10), bScene E (G 11) (Z0.2.1 11), bPool E e0 (Z0.2.2 0), bPool E e1 (Z0.2.2 1), bPool E e2 (Z0.2.2 2)]) [3, 0, 1, 2, 4, 5, 6, 7, 8, 9, 10, 11, 12, 13, 14] rfl rfl (by decide)
      have hP := gP_perm p2.symm hP
      have hD := gD_perm p2.symm hD
      clear p2
      have hP : gP E (gcW E G pl dr e0 e1 e2 Z0) H := hP
      have hD : va_D A (gcW E G pl dr e0 e1 e2 Z0) := hD
      refine lv_if_ne (tgt := 34) hx hb dX5_shuts_28 (by decide) (fun c_6 => ?_) (fun c_6 => ?_)
      · have h := h.1 c_6
        refine lv_aload_n hx hb dX5_shuts_34 rfl (lv_at hl 0 rfl) ?_
        refine va_get (D := (E.1, E.2.1)) (ci := 5) (v := .ref (G 2 99)) (C := RX5) (T := TX5) (N := 8) hx hb ht wu_X5 hown hK hP 0 rfl rfl 1 (by decide) (ht _ wk_X5_19) (fun _ h9 => h9) rfl dX5_shuts_35 ?_
        have p1 := gB (n := 15) (bs := [bGC G (pl 99) (dr 99) Z0.1, bText E (G 1) (Z0.2.1 1), bNow E (G 2) (G 3) e0 (Z0.2.1 2), bScene E (G 3) (Z0.2.1 3), bPlan E pl (Z0.2.1 4), bPlan E dr (Z0.2.1 5), bRumour E (G 6) (Z0.2.1 6), bIm E G (Z0.2.1 7), bNow E (G 8) (G 10) e1 (Z0.2.1 8), bNow E (G 9) (G 11) e2 (Z0.2.1 9), bScene E (G 10) (Z0.2.1 10), bScene E (G 11) (Z0.2.1 11), bPool E e0 (Z0.2.2 0), bPool E e1 (Z0.2.2 1), bPool E e2 (Z0.2.2 2)]) (bc := [bNow E (G 2) (G 3) e0 (Z0.2.1 2), bScene E (G 3) (Z0.2.1 3), bPool E e0 (Z0.2.2 0)]) (br := [bGC G (pl 99) (dr 99) Z0.1, bText E (G 1) (Z0.2.1 1), bPlan E pl (Z0.2.1 4), bPlan E dr (Z0.2.1 5), bRumour E (G 6) (Z0.2.1 6), bIm E G (Z0.2.1 7), bNow E (G 8) (G 10) e1 (Z0.2.1 8), bNow E (G 9) (G 11) e2 (Z0.2.1 9), bScene E (G 10) (Z0.2.1 10), bScene E (G 11) (Z0.2.1 11), bPool E e1 (Z0.2.2 1), bPool E e2 (Z0.2.2 2)]) [2, 3, 12, 0, 1, 4, 5, 6, 7, 8, 9, 10, 11, 13, 14] rfl rfl (by decide)
        refine g_v (g_runV (As := []) (rest := []) ⟨hx, hb, hml, hown, ht⟩ hE (c_X0_remember E l (G 2) (G 3) e0 (Z0.2.1 2) (Z0.2.1 3) (Z0.2.2 0) _ h) ⟨rfl, rfl⟩ wk_X5_126 wi_X0_remember ws_X0_remember wn_X0 wc_X0_remember yd_X0_remember ⟨Nat.le_of_ble_eq_true rfl, Nat.le_of_ble_eq_true rfl⟩ hP hD p1 (ci := 0) rfl rfl rfl rfl rfl hl.1 rfl (lv_room (Nat.le_of_ble_eq_true rfl)) dX5_shuts_38 ⟨Nat.zero_le _, Nat.zero_le _⟩) hP hD hS p1 (fun u w H locs h hw hP hD hS => ?_)
        obtain ⟨S_7, S_8, O_9⟩ := u
        obtain ⟨e_10, rfl⟩ := hw
        clear p1
        have p2 := gB (n := 15) (bs := [bGC G (pl 99) (dr 99) Z0.1, bText E (G 1) (Z0.2.1 1), bNow E (G 2) (G 3) e_10 S_7, bScene E (G 3) S_8, bPlan E pl (Z0.2.1 4), bPlan E dr (Z0.2.1 5), bRumour E (G 6) (Z0.2.1 6), bIm E G (Z0.2.1 7), bNow E (G 8) (G 10) e1 (Z0.2.1 8), bNow E (G 9) (G 11) e2 (Z0.2.1 9), bScene E (G 10) (Z0.2.1 10), bScene E (G 11) (Z0.2.1 11), bPool E e_10 O_9, bPool E e1 (Z0.2.2 1), bPool E e2 (Z0.2.2 2)]) (bc := [bNow E (G 2) (G 3) e_10 S_7, bScene E (G 3) S_8, bPool E e_10 O_9]) (br := [bGC G (pl 99) (dr 99) Z0.1, bText E (G 1) (Z0.2.1 1), bPlan E pl (Z0.2.1 4), bPlan E dr (Z0.2.1 5), bRumour E (G 6) (Z0.2.1 6), bIm E G (Z0.2.1 7), bNow E (G 8) (G 10) e1 (Z0.2.1 8), bNow E (G 9) (G 11) e2 (Z0.2.1 9), bScene E (G 10) (Z0.2.1 10), bScene E (G 11) (Z0.2.1 11), bPool E e1 (Z0.2.2 1), bPool E e2 (Z0.2.2 2)]) [2, 3, 12, 0, 1, 4, 5, 6, 7, 8, 9, 10, 11, 13, 14] rfl rfl (by decide)
        have hP := gP_perm p2.symm hP
        have hD := gD_perm p2.symm hD
        clear p2
        obtain ⟨Z_11, eZ_11⟩ : ∃ z : GC, z = (gpo (gx (gx Z0 2 S_7) 3 S_8) 0 O_9) := ⟨_, rfl⟩
        have h := h Z_11 eZ_11
        have hP : gP E (gcW E G pl dr e_10 e1 e2 Z_11) H := by rw [eZ_11]; exact hP
        have hD : va_D A (gcW E G pl dr e_10 e1 e2 Z_11) := by rw [eZ_11]; exact hD
        refine lv_aload_n hx hb dX5_shuts_41 rfl (lv_at hl 0 rfl) ?_
        refine va_get (D := (E.1, E.2.1)) (ci := 5) (v := .ref (G 2 99)) (C := RX5) (T := TX5) (N := 8) hx hb ht wu_X5 hown hK hP 0 rfl rfl 1 (by decide) (ht _ wk_X5_19) (fun _ h9 => h9) rfl dX5_shuts_42 ?_
        refine va_get (D := (E.1, E.2.1)) (ci := 0) (v := .ref ((G 3) 99)) (C := RX0) (T := TX0) (N := 3) hx hb ht wu_X0 hown hK hP 3 rfl rfl 0 (by decide) (ht _ wk_X5_75) (fun _ h9 => h9) rfl dX5_shuts_45 ?_
        refine lv_iload_n hx hb dX5_shuts_48 rfl (lv_at hl 1 rfl) ?_
        refine lv_iload_n hx hb dX5_shuts_49 rfl (lv_at hl 2 rfl) ?_
        have p1 := gB (n := 15) (bs := [bGC G (pl 99) (dr 99) Z_11.1, bText E (G 1) (Z_11.2.1 1), bNow E (G 2) (G 3) e_10 (Z_11.2.1 2), bScene E (G 3) (Z_11.2.1 3), bPlan E pl (Z_11.2.1 4), bPlan E dr (Z_11.2.1 5), bRumour E (G 6) (Z_11.2.1 6), bIm E G (Z_11.2.1 7), bNow E (G 8) (G 10) e1 (Z_11.2.1 8), bNow E (G 9) (G 11) e2 (Z_11.2.1 9), bScene E (G 10) (Z_11.2.1 10), bScene E (G 11) (Z_11.2.1 11), bPool E e_10 (Z_11.2.2 0), bPool E e1 (Z_11.2.2 1), bPool E e2 (Z_11.2.2 2)]) (bc := [bScene E (G 3) (Z_11.2.1 3)]) (br := [bGC G (pl 99) (dr 99) Z_11.1, bText E (G 1) (Z_11.2.1 1), bNow E (G 2) (G 3) e_10 (Z_11.2.1 2), bPlan E pl (Z_11.2.1 4), bPlan E dr (Z_11.2.1 5), bRumour E (G 6) (Z_11.2.1 6), bIm E G (Z_11.2.1 7), bNow E (G 8) (G 10) e1 (Z_11.2.1 8), bNow E (G 9) (G 11) e2 (Z_11.2.1 9), bScene E (G 10) (Z_11.2.1 10), bScene E (G 11) (Z_11.2.1 11), bPool E e_10 (Z_11.2.2 0), bPool E e1 (Z_11.2.2 1), bPool E e2 (Z_11.2.2 2)]) [3, 0, 1, 2, 4, 5, 6, 7, 8, 9, 10, 11, 12, 13, 14] rfl rfl (by decide)
        refine g_i (g_runV (As := [.int x1, .int x2]) (rest := []) ⟨hx, hb, hml, hown, ht⟩ hE (c_X3_shutOn E l (G 3) (Z_11.2.1 3) x1 x2 _ h) ⟨rfl, rfl⟩ wk_X5_142 wi_X3_shutOn ws_X3_shutOn wn_X3 wc_X3_shutOn yd_X3_shutOn ⟨Nat.le_of_ble_eq_true rfl, Nat.le_of_ble_eq_true rfl⟩ hP hD p1 (ci := 3) rfl rfl rfl rfl rfl hl.1 rfl (lv_room (Nat.le_of_ble_eq_true rfl)) dX5_shuts_50 ⟨Nat.zero_le _, Nat.zero_le _⟩) hP hD hS p1 (fun r_12 S_13 w H locs h hw hP hD hS => ?_)
        subst hw
        clear p1
        have p2 := gB (n := 15) (bs := [bGC G (pl 99) (dr 99) Z_11.1, bText E (G 1) (Z_11.2.1 1), bNow E (G 2) (G 3) e_10 (Z_11.2.1 2), bScene E (G 3) S_13, bPlan E pl (Z_11.2.1 4), bPlan E dr (Z_11.2.1 5), bRumour E (G 6) (Z_11.2.1 6), bIm E G (Z_11.2.1 7), bNow E (G 8) (G 10) e1 (Z_11.2.1 8), bNow E (G 9) (G 11) e2 (Z_11.2.1 9), bScene E (G 10) (Z_11.2.1 10), bScene E (G 11) (Z_11.2.1 11), bPool E e_10 (Z_11.2.2 0), bPool E e1 (Z_11.2.2 1), bPool E e2 (Z_11.2.2 2)]) (bc := [bScene E (G 3) S_13]) (br := [bGC G (pl 99) (dr 99) Z_11.1, bText E (G 1) (Z_11.2.1 1), bNow E (G 2) (G 3) e_10 (Z_11.2.1 2), bPlan E pl (Z_11.2.1 4), bPlan E dr (Z_11.2.1 5), bRumour E (G 6) (Z_11.2.1 6), bIm E G (Z_11.2.1 7), bNow E (G 8) (G 10) e1 (Z_11.2.1 8), bNow E (G 9) (G 11) e2 (Z_11.2.1 9), bScene E (G 10) (Z_11.2.1 10), bScene E (G 11) (Z_11.2.1 11), bPool E e_10 (Z_11.2.2 0), bPool E e1 (Z_11.2.2 1), bPool E e2 (Z_11.2.2 2)]) [3, 0, 1, 2, 4, 5, 6, 7, 8, 9, 10, 11, 12, 13, 14] rfl rfl (by decide)
        have hP := gP_perm p2.symm hP
        have hD := gD_perm p2.symm hD
        clear p2
        obtain ⟨Z_14, eZ_14⟩ : ∃ z : GC, z = (gx Z_11 3 S_13) := ⟨_, rfl⟩
        have h := h Z_14 eZ_14
        have hP : gP E (gcW E G pl dr e_10 e1 e2 Z_14) H := by rw [eZ_14]; exact hP
        have hD : va_D A (gcW E G pl dr e_10 e1 e2 Z_14) := by rw [eZ_14]; exact hD
        exact hret r_12 Z_14 _ _ _ _ _ h ⟨_, _, _, rfl⟩ hP hD hS dX5_shuts_53
      · have h := h.2 c_6
        refine lv_bipush (v := (-2)) hx hb dX5_shuts_31 (by decide) ?_
        exact hret (-2) Z0 _ _ _ _ _ h ⟨_, _, _, rfl⟩ hP hD hS dX5_shuts_33
    · have h := h.2 c_4
      refine lv_iconst (v := (-1)) hx hb dX5_shuts_15 (by decide) ?_
      exact hret (-1) Z0 _ _ _ _ _ h ⟨_, _, _, rfl⟩ hP hD hS dX5_shuts_16
theorem dX5_hangs_0 : decode cX5_hangs 0 = .ok (.aload_n 0, 1) := by decide +kernel
theorem dX5_hangs_1 : decode cX5_hangs 1 = .ok (.iload_n 1, 1) := by decide +kernel
theorem dX5_hangs_2 : decode cX5_hangs 2 = .ok (.invokevirtual 100, 3) := by decide +kernel
theorem dX5_hangs_5 : decode cX5_hangs 5 = .ok (.ifCond .eq 11, 3) := by decide +kernel
theorem dX5_hangs_8 : decode cX5_hangs 8 = .ok (.aload_n 0, 1) := by decide +kernel
theorem dX5_hangs_9 : decode cX5_hangs 9 = .ok (.iload_n 2, 1) := by decide +kernel
theorem dX5_hangs_10 : decode cX5_hangs 10 = .ok (.invokevirtual 71, 3) := by decide +kernel
theorem dX5_hangs_13 : decode cX5_hangs 13 = .ok (.ifCond .ne 5, 3) := by decide +kernel
theorem dX5_hangs_16 : decode cX5_hangs 16 = .ok (.iconst (-1), 1) := by decide +kernel
theorem dX5_hangs_17 : decode cX5_hangs 17 = .ok (.ireturn, 1) := by decide +kernel
theorem dX5_hangs_18 : decode cX5_hangs 18 = .ok (.aload_n 0, 1) := by decide +kernel
theorem dX5_hangs_19 : decode cX5_hangs 19 = .ok (.getfield 19, 3) := by decide +kernel
theorem dX5_hangs_22 : decode cX5_hangs 22 = .ok (.getfield 75, 3) := by decide +kernel
theorem dX5_hangs_25 : decode cX5_hangs 25 = .ok (.astore_n 3, 1) := by decide +kernel
theorem dX5_hangs_26 : decode cX5_hangs 26 = .ok (.aload_n 3, 1) := by decide +kernel
theorem dX5_hangs_27 : decode cX5_hangs 27 = .ok (.invokevirtual 119, 3) := by decide +kernel
theorem dX5_hangs_30 : decode cX5_hangs 30 = .ok (.ifCond .eq 20, 3) := by decide +kernel
theorem dX5_hangs_33 : decode cX5_hangs 33 = .ok (.aload_n 3, 1) := by decide +kernel
theorem dX5_hangs_34 : decode cX5_hangs 34 = .ok (.iload_n 2, 1) := by decide +kernel
theorem dX5_hangs_35 : decode cX5_hangs 35 = .ok (.invokevirtual 91, 3) := by decide +kernel
theorem dX5_hangs_38 : decode cX5_hangs 38 = .ok (.ifCond .ne 12, 3) := by decide +kernel
theorem dX5_hangs_41 : decode cX5_hangs 41 = .ok (.aload_n 3, 1) := by decide +kernel
theorem dX5_hangs_42 : decode cX5_hangs 42 = .ok (.iload_n 1, 1) := by decide +kernel
theorem dX5_hangs_43 : decode cX5_hangs 43 = .ok (.iload_n 2, 1) := by decide +kernel
theorem dX5_hangs_44 : decode cX5_hangs 44 = .ok (.invokevirtual 123, 3) := by decide +kernel
theorem dX5_hangs_47 : decode cX5_hangs 47 = .ok (.ifCond .ne 6, 3) := by decide +kernel
theorem dX5_hangs_50 : decode cX5_hangs 50 = .ok (.bipush (-2), 2) := by decide +kernel
theorem dX5_hangs_52 : decode cX5_hangs 52 = .ok (.ireturn, 1) := by decide +kernel
theorem dX5_hangs_53 : decode cX5_hangs 53 = .ok (.aload_n 0, 1) := by decide +kernel
theorem dX5_hangs_54 : decode cX5_hangs 54 = .ok (.getfield 19, 3) := by decide +kernel
theorem dX5_hangs_57 : decode cX5_hangs 57 = .ok (.invokevirtual 126, 3) := by decide +kernel
theorem dX5_hangs_60 : decode cX5_hangs 60 = .ok (.aload_n 3, 1) := by decide +kernel
theorem dX5_hangs_61 : decode cX5_hangs 61 = .ok (.iload_n 2, 1) := by decide +kernel
theorem dX5_hangs_62 : decode cX5_hangs 62 = .ok (.invokevirtual 146, 3) := by decide +kernel
theorem dX5_hangs_65 : decode cX5_hangs 65 = .ok (.aload_n 3, 1) := by decide +kernel
theorem dX5_hangs_66 : decode cX5_hangs 66 = .ok (.invokevirtual 133, 3) := by decide +kernel
theorem dX5_hangs_69 : decode cX5_hangs 69 = .ok (.ireturn, 1) := by decide +kernel
set_option maxHeartbeats 4000000 in
set_option maxRecDepth 100000 in
theorem c_X5_hangs (E : GE) (l : Launch) (G : Nat → Nat → Nat) (pl dr : Nat → Nat) (e0 e1 e2 : Nat → Nat → Nat) (Z0 : GC) (x1 : Int32) (x2 : Int32) (post : Int32 → GC → Prop) (h : wp_X5_hangs Z0 x1 x2 post) : Met l yX5_hangs (wz yX5_hangs cX5_hangs 4 (some .int)) { frames := 4, cells := 0, slots := 0, locals := 84 } (gPc E [.ref (G 0 99), .int x1, .int x2] (gcW E G pl dr e0 e1 e2 Z0)) (gQi E (gcW E G pl dr e0 e1 e2 Z0) (fun r (u : GC) => post r u) (fun (u : GC) w => ∃ (pl dr : Nat → Nat) (e0 : Nat → Nat → Nat), w = gcW E G pl dr e0 e1 e2 u)) 0 0 (gIn (gcW E G pl dr e0 e1 e2 Z0)) := by
  unfold wp_X5_hangs at h
  refine g_of_i (by decide) (Nat.le_of_ble_eq_true rfl) ?_
  intro p e s m below meth c A Q hx hb hml hown ht hE hP hD hret ls hl
  have hK := hE.1
  have hS : va_S A s.heap s.heap [] := va_S.rf
  have hl : lv_has ls 4 [(0, .ref (G 0 99)), (1, .int x1), (2, .int x2)] := hl
  refine lv_aload_n hx hb dX5_hangs_0 rfl (lv_at hl 0 rfl) ?_
  refine lv_iload_n hx hb dX5_hangs_1 rfl (lv_at hl 1 rfl) ?_
  have p1 := gB (n := 15) (bs := [bGC G (pl 99) (dr 99) Z0.1, bText E (G 1) (Z0.2.1 1), bNow E (G 2) (G 3) e0 (Z0.2.1 2), bScene E (G 3) (Z0.2.1 3), bPlan E pl (Z0.2.1 4), bPlan E dr (Z0.2.1 5), bRumour E (G 6) (Z0.2.1 6), bIm E G (Z0.2.1 7), bNow E (G 8) (G 10) e1 (Z0.2.1 8), bNow E (G 9) (G 11) e2 (Z0.2.1 9), bScene E (G 10) (Z0.2.1 10), bScene E (G 11) (Z0.2.1 11), bPool E e0 (Z0.2.2 0), bPool E e1 (Z0.2.2 1), bPool E e2 (Z0.2.2 2)]) (bc := [bGC G (pl 99) (dr 99) Z0.1, bText E (G 1) (Z0.2.1 1), bNow E (G 2) (G 3) e0 (Z0.2.1 2), bScene E (G 3) (Z0.2.1 3), bPlan E pl (Z0.2.1 4), bPlan E dr (Z0.2.1 5), bRumour E (G 6) (Z0.2.1 6), bIm E G (Z0.2.1 7), bNow E (G 8) (G 10) e1 (Z0.2.1 8), bNow E (G 9) (G 11) e2 (Z0.2.1 9), bScene E (G 10) (Z0.2.1 10), bScene E (G 11) (Z0.2.1 11), bPool E e0 (Z0.2.2 0), bPool E e1 (Z0.2.2 1), bPool E e2 (Z0.2.2 2)]) (br := []) [0, 1, 2, 3, 4, 5, 6, 7, 8, 9, 10, 11, 12, 13, 14] rfl rfl (by decide)
  refine g_i (g_runV (As := [.int x1]) (rest := []) ⟨hx, hb, hml, hown, ht⟩ hE (c_X5_isPerson E l G pl dr e0 e1 e2 Z0 x1 _ h) ⟨rfl, rfl⟩ wk_X5_100 wi_X5_isPerson ws_X5_isPerson wn_X5 wc_X5_isPerson yd_X5_isPerson ⟨Nat.le_of_ble_eq_true rfl, Nat.le_of_ble_eq_true rfl⟩ hP hD p1 (ci := 5) rfl rfl rfl rfl rfl hl.1 rfl (lv_room (Nat.le_of_ble_eq_true rfl)) dX5_hangs_2 ⟨Nat.zero_le _, Nat.zero_le _⟩) hP hD hS p1 (fun r_1 _ w H locs h hw hP hD hS => ?_)
  subst hw
  clear p1
  have p2 := gB (n := 15) (bs := [bGC G (pl 99) (dr 99) Z0.1, bText E (G 1) (Z0.2.1 1), bNow E (G 2) (G 3) e0 (Z0.2.1 2), bScene E (G 3) (Z0.2.1 3), bPlan E pl (Z0.2.1 4), bPlan E dr (Z0.2.1 5), bRumour E (G 6) (Z0.2.1 6), bIm E G (Z0.2.1 7), bNow E (G 8) (G 10) e1 (Z0.2.1 8), bNow E (G 9) (G 11) e2 (Z0.2.1 9), bScene E (G 10) (Z0.2.1 10), bScene E (G 11) (Z0.2.1 11), bPool E e0 (Z0.2.2 0), bPool E e1 (Z0.2.2 1), bPool E e2 (Z0.2.2 2)]) (bc := [bGC G (pl 99) (dr 99) Z0.1, bText E (G 1) (Z0.2.1 1), bNow E (G 2) (G 3) e0 (Z0.2.1 2), bScene E (G 3) (Z0.2.1 3), bPlan E pl (Z0.2.1 4), bPlan E dr (Z0.2.1 5), bRumour E (G 6) (Z0.2.1 6), bIm E G (Z0.2.1 7), bNow E (G 8) (G 10) e1 (Z0.2.1 8), bNow E (G 9) (G 11) e2 (Z0.2.1 9), bScene E (G 10) (Z0.2.1 10), bScene E (G 11) (Z0.2.1 11), bPool E e0 (Z0.2.2 0), bPool E e1 (Z0.2.2 1), bPool E e2 (Z0.2.2 2)]) (br := []) [0, 1, 2, 3, 4, 5, 6, 7, 8, 9, 10, 11, 12, 13, 14] rfl rfl (by decide)
  have hP := gP_perm p2.symm hP
  have hD := gD_perm p2.symm hD
  clear p2
  have hP : gP E (gcW E G pl dr e0 e1 e2 Z0) H := hP
  have hD : va_D A (gcW E G pl dr e0 e1 e2 Z0) := hD
  refine lv_if_eq (tgt := 16) hx hb dX5_hangs_5 (by decide) (fun c_2 => ?_) (fun c_2 => ?_)
  · have h := h.1 c_2
    refine lv_iconst (v := (-1)) hx hb dX5_hangs_16 (by decide) ?_
    exact hret (-1) Z0 _ _ _ _ _ h ⟨_, _, _, rfl⟩ hP hD hS dX5_hangs_17
  · have h := h.2 c_2
    refine lv_aload_n hx hb dX5_hangs_8 rfl (lv_at hl 0 rfl) ?_
    refine lv_iload_n hx hb dX5_hangs_9 rfl (lv_at hl 2 rfl) ?_
    have p1 := gB (n := 15) (bs := [bGC G (pl 99) (dr 99) Z0.1, bText E (G 1) (Z0.2.1 1), bNow E (G 2) (G 3) e0 (Z0.2.1 2), bScene E (G 3) (Z0.2.1 3), bPlan E pl (Z0.2.1 4), bPlan E dr (Z0.2.1 5), bRumour E (G 6) (Z0.2.1 6), bIm E G (Z0.2.1 7), bNow E (G 8) (G 10) e1 (Z0.2.1 8), bNow E (G 9) (G 11) e2 (Z0.2.1 9), bScene E (G 10) (Z0.2.1 10), bScene E (G 11) (Z0.2.1 11), bPool E e0 (Z0.2.2 0), bPool E e1 (Z0.2.2 1), bPool E e2 (Z0.2.2 2)]) (bc := [bGC G (pl 99) (dr 99) Z0.1, bText E (G 1) (Z0.2.1 1), bNow E (G 2) (G 3) e0 (Z0.2.1 2), bScene E (G 3) (Z0.2.1 3), bPlan E pl (Z0.2.1 4), bPlan E dr (Z0.2.1 5), bRumour E (G 6) (Z0.2.1 6), bIm E G (Z0.2.1 7), bNow E (G 8) (G 10) e1 (Z0.2.1 8), bNow E (G 9) (G 11) e2 (Z0.2.1 9), bScene E (G 10) (Z0.2.1 10), bScene E (G 11) (Z0.2.1 11), bPool E e0 (Z0.2.2 0), bPool E e1 (Z0.2.2 1), bPool E e2 (Z0.2.2 2)]) (br := []) [0, 1, 2, 3, 4, 5, 6, 7, 8, 9, 10, 11, 12, 13, 14] rfl rfl (by decide)
    refine g_i (g_runV (As := [.int x2]) (rest := []) ⟨hx, hb, hml, hown, ht⟩ hE (c_X5_isLock E l G pl dr e0 e1 e2 Z0 x2 _ h) ⟨rfl, rfl⟩ wk_X5_71 wi_X5_isLock ws_X5_isLock wn_X5 wc_X5_isLock yd_X5_isLock ⟨Nat.le_of_ble_eq_true rfl, Nat.le_of_ble_eq_true rfl⟩ hP hD p1 (ci := 5) rfl rfl rfl rfl rfl hl.1 rfl (lv_room (Nat.le_of_ble_eq_true rfl)) dX5_hangs_10 ⟨Nat.zero_le _, Nat.zero_le _⟩) hP hD hS p1 (fun r_3 _ w H locs h hw hP hD hS => ?_)
    subst hw
    clear p1
    have p2 := gB (n := 15) (bs := [bGC G (pl 99) (dr 99) Z0.1, bText E (G 1) (Z0.2.1 1), bNow E (G 2) (G 3) e0 (Z0.2.1 2), bScene E (G 3) (Z0.2.1 3), bPlan E pl (Z0.2.1 4), bPlan E dr (Z0.2.1 5), bRumour E (G 6) (Z0.2.1 6), bIm E G (Z0.2.1 7), bNow E (G 8) (G 10) e1 (Z0.2.1 8), bNow E (G 9) (G 11) e2 (Z0.2.1 9), bScene E (G 10) (Z0.2.1 10), bScene E (G 11) (Z0.2.1 11), bPool E e0 (Z0.2.2 0), bPool E e1 (Z0.2.2 1), bPool E e2 (Z0.2.2 2)]) (bc := [bGC G (pl 99) (dr 99) Z0.1, bText E (G 1) (Z0.2.1 1), bNow E (G 2) (G 3) e0 (Z0.2.1 2), bScene E (G 3) (Z0.2.1 3), bPlan E pl (Z0.2.1 4), bPlan E dr (Z0.2.1 5), bRumour E (G 6) (Z0.2.1 6), bIm E G (Z0.2.1 7), bNow E (G 8) (G 10) e1 (Z0.2.1 8), bNow E (G 9) (G 11) e2 (Z0.2.1 9), bScene E (G 10) (Z0.2.1 10), bScene E (G 11) (Z0.2.1 11), bPool E e0 (Z0.2.2 0), bPool E e1 (Z0.2.2 1), bPool E e2 (Z0.2.2 2)]) (br := []) [0, 1, 2, 3, 4, 5, 6, 7, 8, 9, 10, 11, 12, 13, 14] rfl rfl (by decide)
    have hP := gP_perm p2.symm hP
    have hD := gD_perm p2.symm hD
    clear p2
    have hP : gP E (gcW E G pl dr e0 e1 e2 Z0) H := hP
    have hD : va_D A (gcW E G pl dr e0 e1 e2 Z0) := hD
    refine lv_if_ne (tgt := 18) hx hb dX5_hangs_13 (by decide) (fun c_4 => ?_) (fun c_4 => ?_)
    · have h := h.1 c_4
      refine lv_aload_n hx hb dX5_hangs_18 rfl (lv_at hl 0 rfl) ?_
      refine va_get (D := (E.1, E.2.1)) (ci := 5) (v := .ref (G 2 99)) (C := RX5) (T := TX5) (N := 8) hx hb ht wu_X5 hown hK hP 0 rfl rfl 1 (by decide) (ht _ wk_X5_19) (fun _ h9 => h9) rfl dX5_hangs_19 ?_
      refine va_get (D := (E.1, E.2.1)) (ci := 0) (v := .ref ((G 3) 99)) (C := RX0) (T := TX0) (N := 3) hx hb ht wu_X0 hown hK hP 3 rfl rfl 0 (by decide) (ht _ wk_X5_75) (fun _ h9 => h9) rfl dX5_hangs_22 ?_
      refine lv_astore_n (lv' := [(3, .ref ((G 3) 99)), (0, .ref (G 0 99)), (1, .int x1), (2, .int x2)]) hx hb dX5_hangs_25 rfl hl (by decide) rfl (fun ls hl => ?_)
      refine lv_aload_n hx hb dX5_hangs_26 rfl (lv_at hl 0 rfl) ?_
      have p1 := gB (n := 15) (bs := [bGC G (pl 99) (dr 99) Z0.1, bText E (G 1) (Z0.2.1 1), bNow E (G 2) (G 3) e0 (Z0.2.1 2), bScene E (G 3) (Z0.2.1 3), bPlan E pl (Z0.2.1 4), bPlan E dr (Z0.2.1 5), bRumour E (G 6) (Z0.2.1 6), bIm E G (Z0.2.1 7), bNow E (G 8) (G 10) e1 (Z0.2.1 8), bNow E (G 9) (G 11) e2 (Z0.2.1 9), bScene E (G 10) (Z0.2.1 10), bScene E (G 11) (Z0.2.1 11), bPool E e0 (Z0.2.2 0), bPool E e1 (Z0.2.2 1), bPool E e2 (Z0.2.2 2)]) (bc := [bScene E (G 3) (Z0.2.1 3)]) (br := [bGC G (pl 99) (dr 99) Z0.1, bText E (G 1) (Z0.2.1 1), bNow E (G 2) (G 3) e0 (Z0.2.1 2), bPlan E pl (Z0.2.1 4), bPlan E dr (Z0.2.1 5), bRumour E (G 6) (Z0.2.1 6), bIm E G (Z0.2.1 7), bNow E (G 8) (G 10) e1 (Z0.2.1 8), bNow E (G 9) (G 11) e2 (Z0.2.1 9), bScene E (G 10) (Z0.2.1 10), bScene E (G 11) (Z0.2.1 11), bPool E e0 (Z0.2.2 0), bPool E e1 (Z0.2.2 1), bPool E e2 (Z0.2.2 2)]) [3, 0, 1, 2, 4, 5, 6, 7, 8, 9, 10, 11, 12, 13, 14] rfl rfl (by decide)
      refine g_i (g_runV (As := []) (rest := []) ⟨hx, hb, hml, hown, ht⟩ hE (c_X3_isOpen E l (G 3) (Z0.2.1 3) _ h) ⟨rfl, rfl⟩ wk_X5_119 wi_X3_isOpen ws_X3_isOpen wn_X3 wc_X3_isOpen yd_X3_isOpen ⟨Nat.le_of_ble_eq_true rfl, Nat.le_of_ble_eq_true rfl⟩ hP hD p1 (ci := 3) rfl rfl rfl rfl rfl hl.1 rfl (lv_room (Nat.le_of_ble_eq_true rfl)) dX5_hangs_27 ⟨Nat.zero_le _, Nat.zero_le _⟩) hP hD hS p1 (fun r_5 _ w H locs h hw hP hD hS => ?_)
      subst hw
      clear p1
      have p2 := gB (n := 15) (bs := [bGC G (pl 99) (dr 99) Z0.1, bText E (G 1) (Z0.2.1 1), bNow E (G 2) (G 3) e0 (Z0.2.1 2), bScene E (G 3) (Z0.2.1 3), bPlan E pl (Z0.2.1 4), bPlan E dr (Z0.2.1 5), bRumour E (G 6) (Z0.2.1 6), bIm E G (Z0.2.1 7), bNow E (G 8) (G 10) e1 (Z0.2.1 8), bNow E (G 9) (G 11) e2 (Z0.2.1 9), bScene E (G 10) (Z0.2.1 10), bScene E (G 11) (Z0.2.1 11), bPool E e0 (Z0.2.2 0), bPool E e1 (Z0.2.2 1), bPool E e2 (Z0.2.2 2)]) (bc := [bScene E (G 3) (Z0.2.1 3)]) (br := [bGC G (pl 99) (dr 99) Z0.1, bText E (G 1) (Z0.2.1 1), bNow E (G 2) (G 3) e0 (Z0.2.1 2), bPlan E pl (Z0.2.1 4), bPlan E dr (Z0.2.1 5), bRumour E (G 6) (Z0.2.1 6), bIm E G (Z0.2.1 7), bNow E (G 8) (G 10) e1 (Z0.2.1 8), bNow E (G 9) (G 11) e2 (Z0.2.1 9), bScene E (G 10) (Z0.2.1 10), bScene E (G 11) (Z0.2.1 11), bPool E e0 (Z0.2.2 0), bPool E e1 (Z0.2.2 1), bPool E e2 (Z0.2.2 2)]) [3, 0, 1, 2, 4, 5, 6, 7, 8, 9, 10, 11, 12, 13, 14] rfl rfl (by decide)
      have hP := gP_perm p2.symm hP
      have hD := gD_perm p2.symm hD
      clear p2
      have hP : gP E (gcW E G pl dr e0 e1 e2 Z0) H := hP
      have hD : va_D A (gcW E G pl dr e0 e1 e2 Z0) := hD
      refine lv_if_eq (tgt := 50) hx hb dX5_hangs_30 (by decide) (fun c_6 => ?_) (fun c_6 => ?_)
      · have h := h.1 c_6
        refine lv_bipush (v := (-2)) hx hb dX5_hangs_50 (by decide) ?_
        exact hret (-2) Z0 _ _ _ _ _ h ⟨_, _, _, rfl⟩ hP hD hS dX5_hangs_52
      · have h := h.2 c_6
        refine lv_aload_n hx hb dX5_hangs_33 rfl (lv_at hl 0 rfl) ?_
        refine lv_iload_n hx hb dX5_hangs_34 rfl (lv_at hl 3 rfl) ?_
        have p1 := gB (n := 15) (bs := [bGC G (pl 99) (dr 99) Z0.1, bText E (G 1) (Z0.2.1 1), bNow E (G 2) (G 3) e0 (Z0.2.1 2), bScene E (G 3) (Z0.2.1 3), bPlan E pl (Z0.2.1 4), bPlan E dr (Z0.2.1 5), bRumour E (G 6) (Z0.2.1 6), bIm E G (Z0.2.1 7), bNow E (G 8) (G 10) e1 (Z0.2.1 8), bNow E (G 9) (G 11) e2 (Z0.2.1 9), bScene E (G 10) (Z0.2.1 10), bScene E (G 11) (Z0.2.1 11), bPool E e0 (Z0.2.2 0), bPool E e1 (Z0.2.2 1), bPool E e2 (Z0.2.2 2)]) (bc := [bScene E (G 3) (Z0.2.1 3)]) (br := [bGC G (pl 99) (dr 99) Z0.1, bText E (G 1) (Z0.2.1 1), bNow E (G 2) (G 3) e0 (Z0.2.1 2), bPlan E pl (Z0.2.1 4), bPlan E dr (Z0.2.1 5), bRumour E (G 6) (Z0.2.1 6), bIm E G (Z0.2.1 7), bNow E (G 8) (G 10) e1 (Z0.2.1 8), bNow E (G 9) (G 11) e2 (Z0.2.1 9), bScene E (G 10) (Z0.2.1 10), bScene E (G 11) (Z0.2.1 11), bPool E e0 (Z0.2.2 0), bPool E e1 (Z0.2.2 1), bPool E e2 (Z0.2.2 2)]) [3, 0, 1, 2, 4, 5, 6, 7, 8, 9, 10, 11, 12, 13, 14] rfl rfl (by decide)
        refine g_i (g_runV (As := [.int x2]) (rest := []) ⟨hx, hb, hml, hown, ht⟩ hE (c_X3_inRing E l (G 3) (Z0.2.1 3) x2 _ h) ⟨rfl, rfl⟩ wk_X5_91 wi_X3_inRing ws_X3_inRing wn_X3 wc_X3_inRing yd_X3_inRing ⟨Nat.le_of_ble_eq_true rfl, Nat.le_of_ble_eq_true rfl⟩ hP hD p1 (ci := 3) rfl rfl rfl rfl rfl hl.1 rfl (lv_room (Nat.le_of_ble_eq_true rfl)) dX5_hangs_35 ⟨Nat.zero_le _, Nat.zero_le _⟩) hP hD hS p1 (fun r_7 _ w H locs h hw hP hD hS => ?_)
        subst hw
        clear p1
        have p2 := gB (n := 15) (bs := [bGC G (pl 99) (dr 99) Z0.1, bText E (G 1) (Z0.2.1 1), bNow E (G 2) (G 3) e0 (Z0.2.1 2), bScene E (G 3) (Z0.2.1 3), bPlan E pl (Z0.2.1 4), bPlan E dr (Z0.2.1 5), bRumour E (G 6) (Z0.2.1 6), bIm E G (Z0.2.1 7), bNow E (G 8) (G 10) e1 (Z0.2.1 8), bNow E (G 9) (G 11) e2 (Z0.2.1 9), bScene E (G 10) (Z0.2.1 10), bScene E (G 11) (Z0.2.1 11), bPool E e0 (Z0.2.2 0), bPool E e1 (Z0.2.2 1), bPool E e2 (Z0.2.2 2)]) (bc := [bScene E (G 3) (Z0.2.1 3)]) (br := [bGC G (pl 99) (dr 99) Z0.1, bText E (G 1) (Z0.2.1 1), bNow E (G 2) (G 3) e0 (Z0.2.1 2), bPlan E pl (Z0.2.1 4), bPlan E dr (Z0.2.1 5), bRumour E (G 6) (Z0.2.1 6), bIm E G (Z0.2.1 7), bNow E (G 8) (G 10) e1 (Z0.2.1 8), bNow E (G 9) (G 11) e2 (Z0.2.1 9), bScene E (G 10) (Z0.2.1 10), bScene E (G 11) (Z0.2.1 11), bPool E e0 (Z0.2.2 0), bPool E e1 (Z0.2.2 1), bPool E e2 (Z0.2.2 2)]) [3, 0, 1, 2, 4, 5, 6, 7, 8, 9, 10, 11, 12, 13, 14] rfl rfl (by decide)
        have hP := gP_perm p2.symm hP
        have hD := gD_perm p2.symm hD
        clear p2
        have hP : gP E (gcW E G pl dr e0 e1 e2 Z0) H := hP
        have hD : va_D A (gcW E G pl dr e0 e1 e2 Z0) := hD
        refine lv_if_ne (tgt := 50) hx hb dX5_hangs_38 (by decide) (fun c_8 => ?_) (fun c_8 => ?_)
        · have h := h.1 c_8
          refine lv_bipush (v := (-2)) hx hb dX5_hangs_50 (by decide) ?_
          exact hret (-2) Z0 _ _ _ _ _ h ⟨_, _, _, rfl⟩ hP hD hS dX5_hangs_52
        · have h := h.2 c_8
          refine lv_aload_n hx hb dX5_hangs_41 rfl (lv_at hl 0 rfl) ?_
          refine lv_iload_n hx hb dX5_hangs_42 rfl (lv_at hl 2 rfl) ?_
          refine lv_iload_n hx hb dX5_hangs_43 rfl (lv_at hl 3 rfl) ?_
          have p1 := gB (n := 15) (bs := [bGC G (pl 99) (dr 99) Z0.1, bText E (G 1) (Z0.2.1 1), bNow E (G 2) (G 3) e0 (Z0.2.1 2), bScene E (G 3) (Z0.2.1 3), bPlan E pl (Z0.2.1 4), bPlan E dr (Z0.2.1 5), bRumour E (G 6) (Z0.2.1 6), bIm E G (Z0.2.1 7), bNow E (G 8) (G 10) e1 (Z0.2.1 8), bNow E (G 9) (G 11) e2 (Z0.2.1 9), bScene E (G 10) (Z0.2.1 10), bScene E (G 11) (Z0.2.1 11), bPool E e0 (Z0.2.2 0), bPool E e1 (Z0.2.2 1), bPool E e2 (Z0.2.2 2)]) (bc := [bScene E (G 3) (Z0.2.1 3)]) (br := [bGC G (pl 99) (dr 99) Z0.1, bText E (G 1) (Z0.2.1 1), bNow E (G 2) (G 3) e0 (Z0.2.1 2), bPlan E pl (Z0.2.1 4), bPlan E dr (Z0.2.1 5), bRumour E (G 6) (Z0.2.1 6), bIm E G (Z0.2.1 7), bNow E (G 8) (G 10) e1 (Z0.2.1 8), bNow E (G 9) (G 11) e2 (Z0.2.1 9), bScene E (G 10) (Z0.2.1 10), bScene E (G 11) (Z0.2.1 11), bPool E e0 (Z0.2.2 0), bPool E e1 (Z0.2.2 1), bPool E e2 (Z0.2.2 2)]) [3, 0, 1, 2, 4, 5, 6, 7, 8, 9, 10, 11, 12, 13, 14] rfl rfl (by decide)
          refine g_i (g_runV (As := [.int x1, .int x2]) (rest := []) ⟨hx, hb, hml, hown, ht⟩ hE (c_X3_knows E l (G 3) (Z0.2.1 3) x1 x2 _ h) ⟨rfl, rfl⟩ wk_X5_123 wi_X3_knows ws_X3_knows wn_X3 wc_X3_knows yd_X3_knows ⟨Nat.le_of_ble_eq_true rfl, Nat.le_of_ble_eq_true rfl⟩ hP hD p1 (ci := 3) rfl rfl rfl rfl rfl hl.1 rfl (lv_room (Nat.le_of_ble_eq_true rfl)) dX5_hangs_44 ⟨Nat.zero_le _, Nat.zero_le _⟩) hP hD hS p1 (fun r_9 _ w H locs h hw hP hD hS => ?_)
          subst hw
          clear p1
          have p2 := gB (n := 15) (bs := [bGC G (pl 99) (dr 99) Z0.1, bText E (G 1) (Z0.2.1 1), bNow E (G 2) (G 3) e0 (Z0.2.1 2), bScene E (G 3) (Z0.2.1 3), bPlan E pl (Z0.2.1 4), bPlan E dr (Z0.2.1 5), bRumour E (G 6) (Z0.2.1 6), bIm E G (Z0.2.1 7), bNow E (G 8) (G 10) e1 (Z0.2.1 8), bNow E (G 9) (G 11) e2 (Z0.2.1 9), bScene E (G 10) (Z0.2.1 10), bScene E (G 11) (Z0.2.1 11), bPool E e0 (Z0.2.2 0), bPool E e1 (Z0.2.2 1), bPool E e2 (Z0.2.2 2)]) (bc := [bScene E (G 3) (Z0.2.1 3)]) (br := [bGC G (pl 99) (dr 99) Z0.1, bText E (G 1) (Z0.2.1 1), bNow E (G 2) (G 3) e0 (Z0.2.1 2), bPlan E pl (Z0.2.1 4), bPlan E dr (Z0.2.1 5), bRumour E (G 6) (Z0.2.1 6), bIm E G (Z0.2.1 7), bNow E (G 8) (G 10) e1 (Z0.2.1 8), bNow E (G 9) (G 11) e2 (Z0.2.1 9), bScene E (G 10) (Z0.2.1 10), bScene E (G 11) (Z0.2.1 11), bPool E e0 (Z0.2.2 0), bPool E e1 (Z0.2.2 1), bPool E e2 (Z0.2.2 2)]) [3, 0, 1, 2, 4, 5, 6, 7, 8, 9, 10, 11, 12, 13, 14] rfl rfl (by decide)
          have hP := gP_perm p2.symm hP
          have hD := gD_perm p2.symm hD
          clear p2
          have hP : gP E (gcW E G pl dr e0 e1 e2 Z0) H := hP
          have hD : va_D A (gcW E G pl dr e0 e1 e2 Z0) := hD
          refine lv_if_ne (tgt := 53) hx hb dX5_hangs_47 (by decide) (fun c_10 => ?_) (fun c_10 => ?_)
          · have h := h.1 c_10
            refine lv_aload_n hx hb dX5_hangs_53 rfl (lv_at hl 1 rfl) ?_
            refine va_get (D := (E.1, E.2.1)) (ci := 5) (v := .ref (G 2 99)) (C := RX5) (T := TX5) (N := 8) hx hb ht wu_X5 hown hK hP 0 rfl rfl 1 (by decide) (ht _ wk_X5_19) (fun _ h9 => h9) rfl dX5_hangs_54 ?_
            have p1 := gB (n := 15) (bs := [bGC G (pl 99) (dr 99) Z0.1, bText E (G 1) (Z0.2.1 1), bNow E (G 2) (G 3) e0 (Z0.2.1 2), bScene E (G 3) (Z0.2.1 3), bPlan E pl (Z0.2.1 4), bPlan E dr (Z0.2.1 5), bRumour E (G 6) (Z0.2.1 6), bIm E G (Z0.2.1 7), bNow E (G 8) (G 10) e1 (Z0.2.1 8), bNow E (G 9) (G 11) e2 (Z0.2.1 9), bScene E (G 10) (Z0.2.1 10), bScene E (G 11) (Z0.2.1 11), bPool E e0 (Z0.2.2 0), bPool E e1 (Z0.2.2 1), bPool E e2 (Z0.2.2 2)]) (bc := [bNow E (G 2) (G 3) e0 (Z0.2.1 2), bScene E (G 3) (Z0.2.1 3), bPool E e0 (Z0.2.2 0)]) (br := [bGC G (pl 99) (dr 99) Z0.1, bText E (G 1) (Z0.2.1 1), bPlan E pl (Z0.2.1 4), bPlan E dr (Z0.2.1 5), bRumour E (G 6) (Z0.2.1 6), bIm E G (Z0.2.1 7), bNow E (G 8) (G 10) e1 (Z0.2.1 8), bNow E (G 9) (G 11) e2 (Z0.2.1 9), bScene E (G 10) (Z0.2.1 10), bScene E (G 11) (Z0.2.1 11), bPool E e1 (Z0.2.2 1), bPool E e2 (Z0.2.2 2)]) [2, 3, 12, 0, 1, 4, 5, 6, 7, 8, 9, 10, 11, 13, 14] rfl rfl (by decide)
            refine g_v (g_runV (As := []) (rest := []) ⟨hx, hb, hml, hown, ht⟩ hE (c_X0_remember E l (G 2) (G 3) e0 (Z0.2.1 2) (Z0.2.1 3) (Z0.2.2 0) _ h) ⟨rfl, rfl⟩ wk_X5_126 wi_X0_remember ws_X0_remember wn_X0 wc_X0_remember yd_X0_remember ⟨Nat.le_of_ble_eq_true rfl, Nat.le_of_ble_eq_true rfl⟩ hP hD p1 (ci := 0) rfl rfl rfl rfl rfl hl.1 rfl (lv_room (Nat.le_of_ble_eq_true rfl)) dX5_hangs_57 ⟨Nat.zero_le _, Nat.zero_le _⟩) hP hD hS p1 (fun u w H locs h hw hP hD hS => ?_)
            obtain ⟨S_11, S_12, O_13⟩ := u
            obtain ⟨e_14, rfl⟩ := hw
            clear p1
            have p2 := gB (n := 15) (bs := [bGC G (pl 99) (dr 99) Z0.1, bText E (G 1) (Z0.2.1 1), bNow E (G 2) (G 3) e_14 S_11, bScene E (G 3) S_12, bPlan E pl (Z0.2.1 4), bPlan E dr (Z0.2.1 5), bRumour E (G 6) (Z0.2.1 6), bIm E G (Z0.2.1 7), bNow E (G 8) (G 10) e1 (Z0.2.1 8), bNow E (G 9) (G 11) e2 (Z0.2.1 9), bScene E (G 10) (Z0.2.1 10), bScene E (G 11) (Z0.2.1 11), bPool E e_14 O_13, bPool E e1 (Z0.2.2 1), bPool E e2 (Z0.2.2 2)]) (bc := [bNow E (G 2) (G 3) e_14 S_11, bScene E (G 3) S_12, bPool E e_14 O_13]) (br := [bGC G (pl 99) (dr 99) Z0.1, bText E (G 1) (Z0.2.1 1), bPlan E pl (Z0.2.1 4), bPlan E dr (Z0.2.1 5), bRumour E (G 6) (Z0.2.1 6), bIm E G (Z0.2.1 7), bNow E (G 8) (G 10) e1 (Z0.2.1 8), bNow E (G 9) (G 11) e2 (Z0.2.1 9), bScene E (G 10) (Z0.2.1 10), bScene E (G 11) (Z0.2.1 11), bPool E e1 (Z0.2.2 1), bPool E e2 (Z0.2.2 2)]) [2, 3, 12, 0, 1, 4, 5, 6, 7, 8, 9, 10, 11, 13, 14] rfl rfl (by decide)
            have hP := gP_perm p2.symm hP
            have hD := gD_perm p2.symm hD
            clear p2
            obtain ⟨Z_15, eZ_15⟩ : ∃ z : GC, z = (gpo (gx (gx Z0 2 S_11) 3 S_12) 0 O_13) := ⟨_, rfl⟩
            have h := h Z_15 eZ_15
            have hP : gP E (gcW E G pl dr e_14 e1 e2 Z_15) H := by rw [eZ_15]; exact hP
            have hD : va_D A (gcW E G pl dr e_14 e1 e2 Z_15) := by rw [eZ_15]; exact hD
            refine lv_aload_n hx hb dX5_hangs_60 rfl (lv_at hl 0 rfl) ?_
            refine lv_iload_n hx hb dX5_hangs_61 rfl (lv_at hl 3 rfl) ?_
            have p1 := gB (n := 15) (bs := [bGC G (pl 99) (dr 99) Z_15.1, bText E (G 1) (Z_15.2.1 1), bNow E (G 2) (G 3) e_14 (Z_15.2.1 2), bScene E (G 3) (Z_15.2.1 3), bPlan E pl (Z_15.2.1 4), bPlan E dr (Z_15.2.1 5), bRumour E (G 6) (Z_15.2.1 6), bIm E G (Z_15.2.1 7), bNow E (G 8) (G 10) e1 (Z_15.2.1 8), bNow E (G 9) (G 11) e2 (Z_15.2.1 9), bScene E (G 10) (Z_15.2.1 10), bScene E (G 11) (Z_15.2.1 11), bPool E e_14 (Z_15.2.2 0), bPool E e1 (Z_15.2.2 1), bPool E e2 (Z_15.2.2 2)]) (bc := [bScene E (G 3) (Z_15.2.1 3)]) (br := [bGC G (pl 99) (dr 99) Z_15.1, bText E (G 1) (Z_15.2.1 1), bNow E (G 2) (G 3) e_14 (Z_15.2.1 2), bPlan E pl (Z_15.2.1 4), bPlan E dr (Z_15.2.1 5), bRumour E (G 6) (Z_15.2.1 6), bIm E G (Z_15.2.1 7), bNow E (G 8) (G 10) e1 (Z_15.2.1 8), bNow E (G 9) (G 11) e2 (Z_15.2.1 9), bScene E (G 10) (Z_15.2.1 10), bScene E (G 11) (Z_15.2.1 11), bPool E e_14 (Z_15.2.2 0), bPool E e1 (Z_15.2.2 1), bPool E e2 (Z_15.2.2 2)]) [3, 0, 1, 2, 4, 5, 6, 7, 8, 9, 10, 11, 12, 13, 14] rfl rfl (by decide)
            refine g_v (g_runV (As := [.int x2]) (rest := []) ⟨hx, hb, hml, hown, ht⟩ hE (c_X3_hangIn E l (G 3) (Z_15.2.1 3) x2 _ h) ⟨rfl, rfl⟩ wk_X5_146 wi_X3_hangIn ws_X3_hangIn wn_X3 wc_X3_hangIn yd_X3_hangIn ⟨Nat.le_of_ble_eq_true rfl, Nat.le_of_ble_eq_true rfl⟩ hP hD p1 (ci := 3) rfl rfl rfl rfl rfl hl.1 rfl (lv_room (Nat.le_of_ble_eq_true rfl)) dX5_hangs_62 ⟨Nat.zero_le _, Nat.zero_le _⟩) hP hD hS p1 (fun S_16 w H locs h hw hP hD hS => ?_)
            subst hw
            clear p1
            have p2 := gB (n := 15) (bs := [bGC G (pl 99) (dr 99) Z_15.1, bText E (G 1) (Z_15.2.1 1), bNow E (G 2) (G 3) e_14 (Z_15.2.1 2), bScene E (G 3) S_16, bPlan E pl (Z_15.2.1 4), bPlan E dr (Z_15.2.1 5), bRumour E (G 6) (Z_15.2.1 6), bIm E G (Z_15.2.1 7), bNow E (G 8) (G 10) e1 (Z_15.2.1 8), bNow E (G 9) (G 11) e2 (Z_15.2.1 9), bScene E (G 10) (Z_15.2.1 10), bScene E (G 11) (Z_15.2.1 11), bPool E e_14 (Z_15.2.2 0), bPool E e1 (Z_15.2.2 1), bPool E e2 (Z_15.2.2 2)]) (bc := [bScene E (G 3) S_16]) (br := [bGC G (pl 99) (dr 99) Z_15.1, bText E (G 1) (Z_15.2.1 1), bNow E (G 2) (G 3) e_14 (Z_15.2.1 2), bPlan E pl (Z_15.2.1 4), bPlan E dr (Z_15.2.1 5), bRumour E (G 6) (Z_15.2.1 6), bIm E G (Z_15.2.1 7), bNow E (G 8) (G 10) e1 (Z_15.2.1 8), bNow E (G 9) (G 11) e2 (Z_15.2.1 9), bScene E (G 10) (Z_15.2.1 10), bScene E (G 11) (Z_15.2.1 11), bPool E e_14 (Z_15.2.2 0), bPool E e1 (Z_15.2.2 1), bPool E e2 (Z_15.2.2 2)]) [3, 0, 1, 2, 4, 5, 6, 7, 8, 9, 10, 11, 12, 13, 14] rfl rfl (by decide)
            have hP := gP_perm p2.symm hP
            have hD := gD_perm p2.symm hD
            clear p2
            obtain ⟨Z_17, eZ_17⟩ : ∃ z : GC, z = (gx Z_15 3 S_16) := ⟨_, rfl⟩
            have h := h Z_17 eZ_17
            have hP : gP E (gcW E G pl dr e_14 e1 e2 Z_17) H := by rw [eZ_17]; exact hP
            have hD : va_D A (gcW E G pl dr e_14 e1 e2 Z_17) := by rw [eZ_17]; exact hD
            refine lv_aload_n hx hb dX5_hangs_65 rfl (lv_at hl 0 rfl) ?_
            have p1 := gB (n := 15) (bs := [bGC G (pl 99) (dr 99) Z_17.1, bText E (G 1) (Z_17.2.1 1), bNow E (G 2) (G 3) e_14 (Z_17.2.1 2), bScene E (G 3) (Z_17.2.1 3), bPlan E pl (Z_17.2.1 4), bPlan E dr (Z_17.2.1 5), bRumour E (G 6) (Z_17.2.1 6), bIm E G (Z_17.2.1 7), bNow E (G 8) (G 10) e1 (Z_17.2.1 8), bNow E (G 9) (G 11) e2 (Z_17.2.1 9), bScene E (G 10) (Z_17.2.1 10), bScene E (G 11) (Z_17.2.1 11), bPool E e_14 (Z_17.2.2 0), bPool E e1 (Z_17.2.2 1), bPool E e2 (Z_17.2.2 2)]) (bc := [bScene E (G 3) (Z_17.2.1 3)]) (br := [bGC G (pl 99) (dr 99) Z_17.1, bText E (G 1) (Z_17.2.1 1), bNow E (G 2) (G 3) e_14 (Z_17.2.1 2), bPlan E pl (Z_17.2.1 4), bPlan E dr (Z_17.2.1 5), bRumour E (G 6) (Z_17.2.1 6), bIm E G (Z_17.2.1 7), bNow E (G 8) (G 10) e1 (Z_17.2.1 8), bNow E (G 9) (G 11) e2 (Z_17.2.1 9), bScene E (G 10) (Z_17.2.1 10), bScene E (G 11) (Z_17.2.1 11), bPool E e_14 (Z_17.2.2 0), bPool E e1 (Z_17.2.2 1), bPool E e2 (Z_17.2.2 2)]) [3, 0, 1, 2, 4, 5, 6, 7, 8, 9, 10, 11, 12, 13, 14] rfl rfl (by decide)
            refine g_i (g_runV (As := []) (rest := []) ⟨hx, hb, hml, hown, ht⟩ hE (c_X3_ringSize E l (G 3) (Z_17.2.1 3) _ h) ⟨rfl, rfl⟩ wk_X5_133 wi_X3_ringSize ws_X3_ringSize wn_X3 wc_X3_ringSize yd_X3_ringSize ⟨Nat.le_of_ble_eq_true rfl, Nat.le_of_ble_eq_true rfl⟩ hP hD p1 (ci := 3) rfl rfl rfl rfl rfl hl.1 rfl (lv_room (Nat.le_of_ble_eq_true rfl)) dX5_hangs_66 ⟨Nat.zero_le _, Nat.zero_le _⟩) hP hD hS p1 (fun r_18 _ w H locs h hw hP hD hS => ?_)
            subst hw
            clear p1
            have p2 := gB (n := 15) (bs := [bGC G (pl 99) (dr 99) Z_17.1, bText E (G 1) (Z_17.2.1 1), bNow E (G 2) (G 3) e_14 (Z_17.2.1 2), bScene E (G 3) (Z_17.2.1 3), bPlan E pl (Z_17.2.1 4), bPlan E dr (Z_17.2.1 5), bRumour E (G 6) (Z_17.2.1 6), bIm E G (Z_17.2.1 7), bNow E (G 8) (G 10) e1 (Z_17.2.1 8), bNow E (G 9) (G 11) e2 (Z_17.2.1 9), bScene E (G 10) (Z_17.2.1 10), bScene E (G 11) (Z_17.2.1 11), bPool E e_14 (Z_17.2.2 0), bPool E e1 (Z_17.2.2 1), bPool E e2 (Z_17.2.2 2)]) (bc := [bScene E (G 3) (Z_17.2.1 3)]) (br := [bGC G (pl 99) (dr 99) Z_17.1, bText E (G 1) (Z_17.2.1 1), bNow E (G 2) (G 3) e_14 (Z_17.2.1 2), bPlan E pl (Z_17.2.1 4), bPlan E dr (Z_17.2.1 5), bRumour E (G 6) (Z_17.2.1 6), bIm E G (Z_17.2.1 7), bNow E (G 8) (G 10) e1 (Z_17.2.1 8), bNow E (G 9) (G 11) e2 (Z_17.2.1 9), bScene E (G 10) (Z_17.2.1 10), bScene E (G 11) (Z_17.2.1 11), bPool E e_14 (Z_17.2.2 0), bPool E e1 (Z_17.2.2 1), bPool E e2 (Z_17.2.2 2)]) [3, 0, 1, 2, 4, 5, 6, 7, 8, 9, 10, 11, 12, 13, 14] rfl rfl (by decide)
            have hP := gP_perm p2.symm hP
            have hD := gD_perm p2.symm hD
            clear p2
            have hP : gP E (gcW E G pl dr e_14 e1 e2 Z_17) H := hP
            have hD : va_D A (gcW E G pl dr e_14 e1 e2 Z_17) := hD
            exact hret r_18 Z_17 _ _ _ _ _ h ⟨_, _, _, rfl⟩ hP hD hS dX5_hangs_69
          · have h := h.2 c_10
            refine lv_bipush (v := (-2)) hx hb dX5_hangs_50 (by decide) ?_
            exact hret (-2) Z0 _ _ _ _ _ h ⟨_, _, _, rfl⟩ hP hD hS dX5_hangs_52
    · have h := h.2 c_4
      refine lv_iconst (v := (-1)) hx hb dX5_hangs_16 (by decide) ?_
      exact hret (-1) Z0 _ _ _ _ _ h ⟨_, _, _, rfl⟩ hP hD hS dX5_hangs_17
theorem dX5_tells_0 : decode cX5_tells 0 = .ok (.aload_n 0, 1) := by decide +kernel
theorem dX5_tells_1 : decode cX5_tells 1 = .ok (.iload_n 1, 1) := by decide +kernel
theorem dX5_tells_2 : decode cX5_tells 2 = .ok (.invokevirtual 100, 3) := by decide +kernel
theorem dX5_tells_5 : decode cX5_tells 5 = .ok (.ifCond .eq 24, 3) := by decide +kernel
theorem dX5_tells_8 : decode cX5_tells 8 = .ok (.aload_n 0, 1) := by decide +kernel
theorem dX5_tells_9 : decode cX5_tells 9 = .ok (.iload_n 2, 1) := by decide +kernel
theorem dX5_tells_10 : decode cX5_tells 10 = .ok (.invokevirtual 100, 3) := by decide +kernel
theorem dX5_tells_13 : decode cX5_tells 13 = .ok (.ifCond .eq 16, 3) := by decide +kernel
theorem dX5_tells_16 : decode cX5_tells 16 = .ok (.iload_n 1, 1) := by decide +kernel
theorem dX5_tells_17 : decode cX5_tells 17 = .ok (.iload_n 2, 1) := by decide +kernel
theorem dX5_tells_18 : decode cX5_tells 18 = .ok (.if_icmp .eq 11, 3) := by decide +kernel
theorem dX5_tells_21 : decode cX5_tells 21 = .ok (.aload_n 0, 1) := by decide +kernel
theorem dX5_tells_22 : decode cX5_tells 22 = .ok (.iload_n 3, 1) := by decide +kernel
theorem dX5_tells_23 : decode cX5_tells 23 = .ok (.invokevirtual 71, 3) := by decide +kernel
theorem dX5_tells_26 : decode cX5_tells 26 = .ok (.ifCond .ne 5, 3) := by decide +kernel
theorem dX5_tells_29 : decode cX5_tells 29 = .ok (.iconst (-1), 1) := by decide +kernel
theorem dX5_tells_30 : decode cX5_tells 30 = .ok (.ireturn, 1) := by decide +kernel
theorem dX5_tells_31 : decode cX5_tells 31 = .ok (.aload_n 0, 1) := by decide +kernel
theorem dX5_tells_32 : decode cX5_tells 32 = .ok (.getfield 19, 3) := by decide +kernel
theorem dX5_tells_35 : decode cX5_tells 35 = .ok (.getfield 75, 3) := by decide +kernel
theorem dX5_tells_38 : decode cX5_tells 38 = .ok (.astore 4, 2) := by decide +kernel
theorem dX5_tells_40 : decode cX5_tells 40 = .ok (.aload 4, 2) := by decide +kernel
theorem dX5_tells_42 : decode cX5_tells 42 = .ok (.iload_n 1, 1) := by decide +kernel
theorem dX5_tells_43 : decode cX5_tells 43 = .ok (.iload_n 3, 1) := by decide +kernel
theorem dX5_tells_44 : decode cX5_tells 44 = .ok (.invokevirtual 123, 3) := by decide +kernel
theorem dX5_tells_47 : decode cX5_tells 47 = .ok (.ifCond .eq 13, 3) := by decide +kernel
theorem dX5_tells_50 : decode cX5_tells 50 = .ok (.aload 4, 2) := by decide +kernel
theorem dX5_tells_52 : decode cX5_tells 52 = .ok (.iload_n 2, 1) := by decide +kernel
theorem dX5_tells_53 : decode cX5_tells 53 = .ok (.iload_n 3, 1) := by decide +kernel
theorem dX5_tells_54 : decode cX5_tells 54 = .ok (.invokevirtual 123, 3) := by decide +kernel
theorem dX5_tells_57 : decode cX5_tells 57 = .ok (.ifCond .eq 6, 3) := by decide +kernel
theorem dX5_tells_60 : decode cX5_tells 60 = .ok (.bipush (-2), 2) := by decide +kernel
theorem dX5_tells_62 : decode cX5_tells 62 = .ok (.ireturn, 1) := by decide +kernel
theorem dX5_tells_63 : decode cX5_tells 63 = .ok (.aload_n 0, 1) := by decide +kernel
theorem dX5_tells_64 : decode cX5_tells 64 = .ok (.getfield 19, 3) := by decide +kernel
theorem dX5_tells_67 : decode cX5_tells 67 = .ok (.invokevirtual 126, 3) := by decide +kernel
theorem dX5_tells_70 : decode cX5_tells 70 = .ok (.aload 4, 2) := by decide +kernel
theorem dX5_tells_72 : decode cX5_tells 72 = .ok (.getfield 88, 3) := by decide +kernel
theorem dX5_tells_75 : decode cX5_tells 75 = .ok (.iload_n 3, 1) := by decide +kernel
theorem dX5_tells_76 : decode cX5_tells 76 = .ok (.dup2, 1) := by decide +kernel
theorem dX5_tells_77 : decode cX5_tells 77 = .ok (.iaload, 1) := by decide +kernel
theorem dX5_tells_78 : decode cX5_tells 78 = .ok (.iconst 1, 1) := by decide +kernel
theorem dX5_tells_79 : decode cX5_tells 79 = .ok (.iload_n 2, 1) := by decide +kernel
theorem dX5_tells_80 : decode cX5_tells 80 = .ok (.ishl, 1) := by decide +kernel
theorem dX5_tells_81 : decode cX5_tells 81 = .ok (.ior, 1) := by decide +kernel
theorem dX5_tells_82 : decode cX5_tells 82 = .ok (.iastore, 1) := by decide +kernel
theorem dX5_tells_83 : decode cX5_tells 83 = .ok (.aload 4, 2) := by decide +kernel
theorem dX5_tells_85 : decode cX5_tells 85 = .ok (.iload_n 3, 1) := by decide +kernel
theorem dX5_tells_86 : decode cX5_tells 86 = .ok (.invokevirtual 150, 3) := by decide +kernel
theorem dX5_tells_89 : decode cX5_tells 89 = .ok (.ireturn, 1) := by decide +kernel
set_option maxHeartbeats 4000000 in
set_option maxRecDepth 100000 in
theorem c_X5_tells (E : GE) (l : Launch) (G : Nat → Nat → Nat) (pl dr : Nat → Nat) (e0 e1 e2 : Nat → Nat → Nat) (Z0 : GC) (x1 : Int32) (x2 : Int32) (x3 : Int32) (post : Int32 → GC → Prop) (h : wp_X5_tells Z0 x1 x2 x3 post) : Met l yX5_tells (wz yX5_tells cX5_tells 5 (some .int)) { frames := 3, cells := 0, slots := 0, locals := 81 } (gPc E [.ref (G 0 99), .int x1, .int x2, .int x3] (gcW E G pl dr e0 e1 e2 Z0)) (gQi E (gcW E G pl dr e0 e1 e2 Z0) (fun r (u : GC) => post r u) (fun (u : GC) w => ∃ (pl dr : Nat → Nat) (e0 : Nat → Nat → Nat), w = gcW E G pl dr e0 e1 e2 u)) 0 0 (gIn (gcW E G pl dr e0 e1 e2 Z0)) := by
  unfold wp_X5_tells at h
  refine g_of_i (by decide) (Nat.le_of_ble_eq_true rfl) ?_
  intro p e s m below meth c A Q hx hb hml hown ht hE hP hD hret ls hl
  have hK := hE.1
  have hS : va_S A s.heap s.heap [] := va_S.rf
  have hl : lv_has ls 5 [(0, .ref (G 0 99)), (1, .int x1), (2, .int x2), (3, .int x3)] := hl
  refine lv_aload_n hx hb dX5_tells_0 rfl (lv_at hl 0 rfl) ?_
  refine lv_iload_n hx hb dX5_tells_1 rfl (lv_at hl 1 rfl) ?_
  have p1 := gB (n := 15) (bs := [bGC G (pl 99) (dr 99) Z0.1, bText E (G 1) (Z0.2.1 1), bNow E (G 2) (G 3) e0 (Z0.2.1 2), bScene E (G 3) (Z0.2.1 3), bPlan E pl (Z0.2.1 4), bPlan E dr (Z0.2.1 5), bRumour E (G 6) (Z0.2.1 6), bIm E G (Z0.2.1 7), bNow E (G 8) (G 10) e1 (Z0.2.1 8), bNow E (G 9) (G 11) e2 (Z0.2.1 9), bScene E (G 10) (Z0.2.1 10), bScene E (G 11) (Z0.2.1 11), bPool E e0 (Z0.2.2 0), bPool E e1 (Z0.2.2 1), bPool E e2 (Z0.2.2 2)]) (bc := [bGC G (pl 99) (dr 99) Z0.1, bText E (G 1) (Z0.2.1 1), bNow E (G 2) (G 3) e0 (Z0.2.1 2), bScene E (G 3) (Z0.2.1 3), bPlan E pl (Z0.2.1 4), bPlan E dr (Z0.2.1 5), bRumour E (G 6) (Z0.2.1 6), bIm E G (Z0.2.1 7), bNow E (G 8) (G 10) e1 (Z0.2.1 8), bNow E (G 9) (G 11) e2 (Z0.2.1 9), bScene E (G 10) (Z0.2.1 10), bScene E (G 11) (Z0.2.1 11), bPool E e0 (Z0.2.2 0), bPool E e1 (Z0.2.2 1), bPool E e2 (Z0.2.2 2)]) (br := []) [0, 1, 2, 3, 4, 5, 6, 7, 8, 9, 10, 11, 12, 13, 14] rfl rfl (by decide)
  refine g_i (g_runV (As := [.int x1]) (rest := []) ⟨hx, hb, hml, hown, ht⟩ hE (c_X5_isPerson E l G pl dr e0 e1 e2 Z0 x1 _ h) ⟨rfl, rfl⟩ wk_X5_100 wi_X5_isPerson ws_X5_isPerson wn_X5 wc_X5_isPerson yd_X5_isPerson ⟨Nat.le_of_ble_eq_true rfl, Nat.le_of_ble_eq_true rfl⟩ hP hD p1 (ci := 5) rfl rfl rfl rfl rfl hl.1 rfl (lv_room (Nat.le_of_ble_eq_true rfl)) dX5_tells_2 ⟨Nat.zero_le _, Nat.zero_le _⟩) hP hD hS p1 (fun r_1 _ w H locs h hw hP hD hS => ?_)
  subst hw
  clear p1
  have p2 := gB (n := 15) (bs := [bGC G (pl 99) (dr 99) Z0.1, bText E (G 1) (Z0.2.1 1), bNow E (G 2) (G 3) e0 (Z0.2.1 2), bScene E (G 3) (Z0.2.1 3), bPlan E pl (Z0.2.1 4), bPlan E dr (Z0.2.1 5), bRumour E (G 6) (Z0.2.1 6), bIm E G (Z0.2.1 7), bNow E (G 8) (G 10) e1 (Z0.2.1 8), bNow E (G 9) (G 11) e2 (Z0.2.1 9), bScene E (G 10) (Z0.2.1 10), bScene E (G 11) (Z0.2.1 11), bPool E e0 (Z0.2.2 0), bPool E e1 (Z0.2.2 1), bPool E e2 (Z0.2.2 2)]) (bc := [bGC G (pl 99) (dr 99) Z0.1, bText E (G 1) (Z0.2.1 1), bNow E (G 2) (G 3) e0 (Z0.2.1 2), bScene E (G 3) (Z0.2.1 3), bPlan E pl (Z0.2.1 4), bPlan E dr (Z0.2.1 5), bRumour E (G 6) (Z0.2.1 6), bIm E G (Z0.2.1 7), bNow E (G 8) (G 10) e1 (Z0.2.1 8), bNow E (G 9) (G 11) e2 (Z0.2.1 9), bScene E (G 10) (Z0.2.1 10), bScene E (G 11) (Z0.2.1 11), bPool E e0 (Z0.2.2 0), bPool E e1 (Z0.2.2 1), bPool E e2 (Z0.2.2 2)]) (br := []) [0, 1, 2, 3, 4, 5, 6, 7, 8, 9, 10, 11, 12, 13, 14] rfl rfl (by decide)
  have hP := gP_perm p2.symm hP
  have hD := gD_perm p2.symm hD
  clear p2
  have hP : gP E (gcW E G pl dr e0 e1 e2 Z0) H := hP
  have hD : va_D A (gcW E G pl dr e0 e1 e2 Z0) := hD
  refine lv_if_eq (tgt := 29) hx hb dX5_tells_5 (by decide) (fun c_2 => ?_) (fun c_2 => ?_)
  · have h := h.1 c_2
    refine lv_iconst (v := (-1)) hx hb dX5_tells_29 (by decide) ?_
    exact hret (-1) Z0 _ _ _ _ _ h ⟨_, _, _, rfl⟩ hP hD hS dX5_tells_30
  · have h := h.2 c_2
    refine lv_aload_n hx hb dX5_tells_8 rfl (lv_at hl 0 rfl) ?_
    refine lv_iload_n hx hb dX5_tells_9 rfl (lv_at hl 2 rfl) ?_
    have p1 := gB (n := 15) (bs := [bGC G (pl 99) (dr 99) Z0.1, bText E (G 1) (Z0.2.1 1), bNow E (G 2) (G 3) e0 (Z0.2.1 2), bScene E (G 3) (Z0.2.1 3), bPlan E pl (Z0.2.1 4), bPlan E dr (Z0.2.1 5), bRumour E (G 6) (Z0.2.1 6), bIm E G (Z0.2.1 7), bNow E (G 8) (G 10) e1 (Z0.2.1 8), bNow E (G 9) (G 11) e2 (Z0.2.1 9), bScene E (G 10) (Z0.2.1 10), bScene E (G 11) (Z0.2.1 11), bPool E e0 (Z0.2.2 0), bPool E e1 (Z0.2.2 1), bPool E e2 (Z0.2.2 2)]) (bc := [bGC G (pl 99) (dr 99) Z0.1, bText E (G 1) (Z0.2.1 1), bNow E (G 2) (G 3) e0 (Z0.2.1 2), bScene E (G 3) (Z0.2.1 3), bPlan E pl (Z0.2.1 4), bPlan E dr (Z0.2.1 5), bRumour E (G 6) (Z0.2.1 6), bIm E G (Z0.2.1 7), bNow E (G 8) (G 10) e1 (Z0.2.1 8), bNow E (G 9) (G 11) e2 (Z0.2.1 9), bScene E (G 10) (Z0.2.1 10), bScene E (G 11) (Z0.2.1 11), bPool E e0 (Z0.2.2 0), bPool E e1 (Z0.2.2 1), bPool E e2 (Z0.2.2 2)]) (br := []) [0, 1, 2, 3, 4, 5, 6, 7, 8, 9, 10, 11, 12, 13, 14] rfl rfl (by decide)
    refine g_i (g_runV (As := [.int x2]) (rest := []) ⟨hx, hb, hml, hown, ht⟩ hE (c_X5_isPerson E l G pl dr e0 e1 e2 Z0 x2 _ h) ⟨rfl, rfl⟩ wk_X5_100 wi_X5_isPerson ws_X5_isPerson wn_X5 wc_X5_isPerson yd_X5_isPerson ⟨Nat.le_of_ble_eq_true rfl, Nat.le_of_ble_eq_true rfl⟩ hP hD p1 (ci := 5) rfl rfl rfl rfl rfl hl.1 rfl (lv_room (Nat.le_of_ble_eq_true rfl)) dX5_tells_10 ⟨Nat.zero_le _, Nat.zero_le _⟩) hP hD hS p1 (fun r_3 _ w H locs h hw hP hD hS => ?_)
    subst hw
    clear p1
    have p2 := gB (n := 15) (bs := [bGC G (pl 99) (dr 99) Z0.1, bText E (G 1) (Z0.2.1 1), bNow E (G 2) (G 3) e0 (Z0.2.1 2), bScene E (G 3) (Z0.2.1 3), bPlan E pl (Z0.2.1 4), bPlan E dr (Z0.2.1 5), bRumour E (G 6) (Z0.2.1 6), bIm E G (Z0.2.1 7), bNow E (G 8) (G 10) e1 (Z0.2.1 8), bNow E (G 9) (G 11) e2 (Z0.2.1 9), bScene E (G 10) (Z0.2.1 10), bScene E (G 11) (Z0.2.1 11), bPool E e0 (Z0.2.2 0), bPool E e1 (Z0.2.2 1), bPool E e2 (Z0.2.2 2)]) (bc := [bGC G (pl 99) (dr 99) Z0.1, bText E (G 1) (Z0.2.1 1), bNow E (G 2) (G 3) e0 (Z0.2.1 2), bScene E (G 3) (Z0.2.1 3), bPlan E pl (Z0.2.1 4), bPlan E dr (Z0.2.1 5), bRumour E (G 6) (Z0.2.1 6), bIm E G (Z0.2.1 7), bNow E (G 8) (G 10) e1 (Z0.2.1 8), bNow E (G 9) (G 11) e2 (Z0.2.1 9), bScene E (G 10) (Z0.2.1 10), bScene E (G 11) (Z0.2.1 11), bPool E e0 (Z0.2.2 0), bPool E e1 (Z0.2.2 1), bPool E e2 (Z0.2.2 2)]) (br := []) [0, 1, 2, 3, 4, 5, 6, 7, 8, 9, 10, 11, 12, 13, 14] rfl rfl (by decide)
    have hP := gP_perm p2.symm hP
    have hD := gD_perm p2.symm hD
    clear p2
    have hP : gP E (gcW E G pl dr e0 e1 e2 Z0) H := hP
    have hD : va_D A (gcW E G pl dr e0 e1 e2 Z0) := hD
    refine lv_if_eq (tgt := 29) hx hb dX5_tells_13 (by decide) (fun c_4 => ?_) (fun c_4 => ?_)
    · have h := h.1 c_4
      refine lv_iconst (v := (-1)) hx hb dX5_tells_29 (by decide) ?_
      exact hret (-1) Z0 _ _ _ _ _ h ⟨_, _, _, rfl⟩ hP hD hS dX5_tells_30
    · have h := h.2 c_4
      refine lv_iload_n hx hb dX5_tells_16 rfl (lv_at hl 1 rfl) ?_
      refine lv_iload_n hx hb dX5_tells_17 rfl (lv_at hl 2 rfl) ?_
      refine lv_icmp_eq (tgt := 29) hx hb dX5_tells_18 (by decide) (fun c_5 => ?_) (fun c_5 => ?_)
      · have h := h.1 c_5
        refine lv_iconst (v := (-1)) hx hb dX5_tells_29 (by decide) ?_
        exact hret (-1) Z0 _ _ _ _ _ h ⟨_, _, _, rfl⟩ hP hD hS dX5_tells_30
      · have h := h.2 c_5
        refine lv_aload_n hx hb dX5_tells_21 rfl (lv_at hl 0 rfl) ?_
        refine lv_iload_n hx hb dX5_tells_22 rfl (lv_at hl 3 rfl) ?_
        have p1 := gB (n := 15) (bs := [bGC G (pl 99) (dr 99) Z0.1, bText E (G 1) (Z0.2.1 1), bNow E (G 2) (G 3) e0 (Z0.2.1 2), bScene E (G 3) (Z0.2.1 3), bPlan E pl (Z0.2.1 4), bPlan E dr (Z0.2.1 5), bRumour E (G 6) (Z0.2.1 6), bIm E G (Z0.2.1 7), bNow E (G 8) (G 10) e1 (Z0.2.1 8), bNow E (G 9) (G 11) e2 (Z0.2.1 9), bScene E (G 10) (Z0.2.1 10), bScene E (G 11) (Z0.2.1 11), bPool E e0 (Z0.2.2 0), bPool E e1 (Z0.2.2 1), bPool E e2 (Z0.2.2 2)]) (bc := [bGC G (pl 99) (dr 99) Z0.1, bText E (G 1) (Z0.2.1 1), bNow E (G 2) (G 3) e0 (Z0.2.1 2), bScene E (G 3) (Z0.2.1 3), bPlan E pl (Z0.2.1 4), bPlan E dr (Z0.2.1 5), bRumour E (G 6) (Z0.2.1 6), bIm E G (Z0.2.1 7), bNow E (G 8) (G 10) e1 (Z0.2.1 8), bNow E (G 9) (G 11) e2 (Z0.2.1 9), bScene E (G 10) (Z0.2.1 10), bScene E (G 11) (Z0.2.1 11), bPool E e0 (Z0.2.2 0), bPool E e1 (Z0.2.2 1), bPool E e2 (Z0.2.2 2)]) (br := []) [0, 1, 2, 3, 4, 5, 6, 7, 8, 9, 10, 11, 12, 13, 14] rfl rfl (by decide)
        refine g_i (g_runV (As := [.int x3]) (rest := []) ⟨hx, hb, hml, hown, ht⟩ hE (c_X5_isLock E l G pl dr e0 e1 e2 Z0 x3 _ h) ⟨rfl, rfl⟩ wk_X5_71 wi_X5_isLock ws_X5_isLock wn_X5 wc_X5_isLock yd_X5_isLock ⟨Nat.le_of_ble_eq_true rfl, Nat.le_of_ble_eq_true rfl⟩ hP hD p1 (ci := 5) rfl rfl rfl rfl rfl hl.1 rfl (lv_room (Nat.le_of_ble_eq_true rfl)) dX5_tells_23 ⟨Nat.zero_le _, Nat.zero_le _⟩) hP hD hS p1 (fun r_6 _ w H locs h hw hP hD hS => ?_)
        subst hw
        clear p1
        have p2 := gB (n := 15) (bs := [bGC G (pl 99) (dr 99) Z0.1, bText E (G 1) (Z0.2.1 1), bNow E (G 2) (G 3) e0 (Z0.2.1 2), bScene E (G 3) (Z0.2.1 3), bPlan E pl (Z0.2.1 4), bPlan E dr (Z0.2.1 5), bRumour E (G 6) (Z0.2.1 6), bIm E G (Z0.2.1 7), bNow E (G 8) (G 10) e1 (Z0.2.1 8), bNow E (G 9) (G 11) e2 (Z0.2.1 9), bScene E (G 10) (Z0.2.1 10), bScene E (G 11) (Z0.2.1 11), bPool E e0 (Z0.2.2 0), bPool E e1 (Z0.2.2 1), bPool E e2 (Z0.2.2 2)]) (bc := [bGC G (pl 99) (dr 99) Z0.1, bText E (G 1) (Z0.2.1 1), bNow E (G 2) (G 3) e0 (Z0.2.1 2), bScene E (G 3) (Z0.2.1 3), bPlan E pl (Z0.2.1 4), bPlan E dr (Z0.2.1 5), bRumour E (G 6) (Z0.2.1 6), bIm E G (Z0.2.1 7), bNow E (G 8) (G 10) e1 (Z0.2.1 8), bNow E (G 9) (G 11) e2 (Z0.2.1 9), bScene E (G 10) (Z0.2.1 10), bScene E (G 11) (Z0.2.1 11), bPool E e0 (Z0.2.2 0), bPool E e1 (Z0.2.2 1), bPool E e2 (Z0.2.2 2)]) (br := []) [0, 1, 2, 3, 4, 5, 6, 7, 8, 9, 10, 11, 12, 13, 14] rfl rfl (by decide)
        have hP := gP_perm p2.symm hP
        have hD := gD_perm p2.symm hD
        clear p2
        have hP : gP E (gcW E G pl dr e0 e1 e2 Z0) H := hP
        have hD : va_D A (gcW E G pl dr e0 e1 e2 Z0) := hD
        refine lv_if_ne (tgt := 31) hx hb dX5_tells_26 (by decide) (fun c_7 => ?_) (fun c_7 => ?_)
        · have h := h.1 c_7
          refine lv_aload_n hx hb dX5_tells_31 rfl (lv_at hl 0 rfl) ?_
          refine va_get (D := (E.1, E.2.1)) (ci := 5) (v := .ref (G 2 99)) (C := RX5) (T := TX5) (N := 8) hx hb ht wu_X5 hown hK hP 0 rfl rfl 1 (by decide) (ht _ wk_X5_19) (fun _ h9 => h9) rfl dX5_tells_32 ?_
          refine va_get (D := (E.1, E.2.1)) (ci := 0) (v := .ref ((G 3) 99)) (C := RX0) (T := TX0) (N := 3) hx hb ht wu_X0 hown hK hP 3 rfl rfl 0 (by decide) (ht _ wk_X5_75) (fun _ h9 => h9) rfl dX5_tells_35 ?_
          refine lv_astore (lv' := [(4, .ref ((G 3) 99)), (0, .ref (G 0 99)), (1, .int x1), (2, .int x2), (3, .int x3)]) hx hb dX5_tells_38 hl (by decide) rfl (fun ls hl => ?_)
          refine lv_aload hx hb dX5_tells_40 (lv_at hl 0 rfl) ?_
          refine lv_iload_n hx hb dX5_tells_42 rfl (lv_at hl 2 rfl) ?_
          refine lv_iload_n hx hb dX5_tells_43 rfl (lv_at hl 4 rfl) ?_
          have p1 := gB (n := 15) (bs := [bGC G (pl 99) (dr 99) Z0.1, bText E (G 1) (Z0.2.1 1), bNow E (G 2) (G 3) e0 (Z0.2.1 2), bScene E (G 3) (Z0.2.1 3), bPlan E pl (Z0.2.1 4), bPlan E dr (Z0.2.1 5), bRumour E (G 6) (Z0.2.1 6), bIm E G (Z0.2.1 7), bNow E (G 8) (G 10) e1 (Z0.2.1 8), bNow E (G 9) (G 11) e2 (Z0.2.1 9), bScene E (G 10) (Z0.2.1 10), bScene E (G 11) (Z0.2.1 11), bPool E e0 (Z0.2.2 0), bPool E e1 (Z0.2.2 1), bPool E e2 (Z0.2.2 2)]) (bc := [bScene E (G 3) (Z0.2.1 3)]) (br := [bGC G (pl 99) (dr 99) Z0.1, bText E (G 1) (Z0.2.1 1), bNow E (G 2) (G 3) e0 (Z0.2.1 2), bPlan E pl (Z0.2.1 4), bPlan E dr (Z0.2.1 5), bRumour E (G 6) (Z0.2.1 6), bIm E G (Z0.2.1 7), bNow E (G 8) (G 10) e1 (Z0.2.1 8), bNow E (G 9) (G 11) e2 (Z0.2.1 9), bScene E (G 10) (Z0.2.1 10), bScene E (G 11) (Z0.2.1 11), bPool E e0 (Z0.2.2 0), bPool E e1 (Z0.2.2 1), bPool E e2 (Z0.2.2 2)]) [3, 0, 1, 2, 4, 5, 6, 7, 8, 9, 10, 11, 12, 13, 14] rfl rfl (by decide)
          refine g_i (g_runV (As := [.int x1, .int x3]) (rest := []) ⟨hx, hb, hml, hown, ht⟩ hE (c_X3_knows E l (G 3) (Z0.2.1 3) x1 x3 _ h) ⟨rfl, rfl⟩ wk_X5_123 wi_X3_knows ws_X3_knows wn_X3 wc_X3_knows yd_X3_knows ⟨Nat.le_of_ble_eq_true rfl, Nat.le_of_ble_eq_true rfl⟩ hP hD p1 (ci := 3) rfl rfl rfl rfl rfl hl.1 rfl (lv_room (Nat.le_of_ble_eq_true rfl)) dX5_tells_44 ⟨Nat.zero_le _, Nat.zero_le _⟩) hP hD hS p1 (fun r_8 _ w H locs h hw hP hD hS => ?_)
          subst hw
          clear p1
          have p2 := gB (n := 15) (bs := [bGC G (pl 99) (dr 99) Z0.1, bText E (G 1) (Z0.2.1 1), bNow E (G 2) (G 3) e0 (Z0.2.1 2), bScene E (G 3) (Z0.2.1 3), bPlan E pl (Z0.2.1 4), bPlan E dr (Z0.2.1 5), bRumour E (G 6) (Z0.2.1 6), bIm E G (Z0.2.1 7), bNow E (G 8) (G 10) e1 (Z0.2.1 8), bNow E (G 9) (G 11) e2 (Z0.2.1 9), bScene E (G 10) (Z0.2.1 10), bScene E (G 11) (Z0.2.1 11), bPool E e0 (Z0.2.2 0), bPool E e1 (Z0.2.2 1), bPool E e2 (Z0.2.2 2)]) (bc := [bScene E (G 3) (Z0.2.1 3)]) (br := [bGC G (pl 99) (dr 99) Z0.1, bText E (G 1) (Z0.2.1 1), bNow E (G 2) (G 3) e0 (Z0.2.1 2), bPlan E pl (Z0.2.1 4), bPlan E dr (Z0.2.1 5), bRumour E (G 6) (Z0.2.1 6), bIm E G (Z0.2.1 7), bNow E (G 8) (G 10) e1 (Z0.2.1 8), bNow E (G 9) (G 11) e2 (Z0.2.1 9), bScene E (G 10) (Z0.2.1 10), bScene E (G 11) (Z0.2.1 11), bPool E e0 (Z0.2.2 0), bPool E e1 (Z0.2.2 1), bPool E e2 (Z0.2.2 2)]) [3, 0, 1, 2, 4, 5, 6, 7, 8, 9, 10, 11, 12, 13, 14] rfl rfl (by decide)
          have hP := gP_perm p2.symm hP
          have hD := gD_perm p2.symm hD
          clear p2
          have hP : gP E (gcW E G pl dr e0 e1 e2 Z0) H := hP
          have hD : va_D A (gcW E G pl dr e0 e1 e2 Z0) := hD
          refine lv_if_eq (tgt := 60) hx hb dX5_tells_47 (by decide) (fun c_9 => ?_) (fun c_9 => ?_)
          · have h := h.1 c_9
            refine lv_bipush (v := (-2)) hx hb dX5_tells_60 (by decide) ?_
            exact hret (-2) Z0 _ _ _ _ _ h ⟨_, _, _, rfl⟩ hP hD hS dX5_tells_62
          · have h := h.2 c_9
            refine lv_aload hx hb dX5_tells_50 (lv_at hl 0 rfl) ?_
            refine lv_iload_n hx hb dX5_tells_52 rfl (lv_at hl 3 rfl) ?_
            refine lv_iload_n hx hb dX5_tells_53 rfl (lv_at hl 4 rfl) ?_
            have p1 := gB (n := 15) (bs := [bGC G (pl 99) (dr 99) Z0.1, bText E (G 1) (Z0.2.1 1), bNow E (G 2) (G 3) e0 (Z0.2.1 2), bScene E (G 3) (Z0.2.1 3), bPlan E pl (Z0.2.1 4), bPlan E dr (Z0.2.1 5), bRumour E (G 6) (Z0.2.1 6), bIm E G (Z0.2.1 7), bNow E (G 8) (G 10) e1 (Z0.2.1 8), bNow E (G 9) (G 11) e2 (Z0.2.1 9), bScene E (G 10) (Z0.2.1 10), bScene E (G 11) (Z0.2.1 11), bPool E e0 (Z0.2.2 0), bPool E e1 (Z0.2.2 1), bPool E e2 (Z0.2.2 2)]) (bc := [bScene E (G 3) (Z0.2.1 3)]) (br := [bGC G (pl 99) (dr 99) Z0.1, bText E (G 1) (Z0.2.1 1), bNow E (G 2) (G 3) e0 (Z0.2.1 2), bPlan E pl (Z0.2.1 4), bPlan E dr (Z0.2.1 5), bRumour E (G 6) (Z0.2.1 6), bIm E G (Z0.2.1 7), bNow E (G 8) (G 10) e1 (Z0.2.1 8), bNow E (G 9) (G 11) e2 (Z0.2.1 9), bScene E (G 10) (Z0.2.1 10), bScene E (G 11) (Z0.2.1 11), bPool E e0 (Z0.2.2 0), bPool E e1 (Z0.2.2 1), bPool E e2 (Z0.2.2 2)]) [3, 0, 1, 2, 4, 5, 6, 7, 8, 9, 10, 11, 12, 13, 14] rfl rfl (by decide)
            refine g_i (g_runV (As := [.int x2, .int x3]) (rest := []) ⟨hx, hb, hml, hown, ht⟩ hE (c_X3_knows E l (G 3) (Z0.2.1 3) x2 x3 _ h) ⟨rfl, rfl⟩ wk_X5_123 wi_X3_knows ws_X3_knows wn_X3 wc_X3_knows yd_X3_knows ⟨Nat.le_of_ble_eq_true rfl, Nat.le_of_ble_eq_true rfl⟩ hP hD p1 (ci := 3) rfl rfl rfl rfl rfl hl.1 rfl (lv_room (Nat.le_of_ble_eq_true rfl)) dX5_tells_54 ⟨Nat.zero_le _, Nat.zero_le _⟩) hP hD hS p1 (fun r_10 _ w H locs h hw hP hD hS => ?_)
            subst hw
            clear p1
            have p2 := gB (n := 15) (bs := [bGC G (pl 99) (dr 99) Z0.1, bText E (G 1) (Z0.2.1 1), bNow E (G 2) (G 3) e0 (Z0.2.1 2), bScene E (G 3) (Z0.2.1 3), bPlan E pl (Z0.2.1 4), bPlan E dr (Z0.2.1 5), bRumour E (G 6) (Z0.2.1 6), bIm E G (Z0.2.1 7), bNow E (G 8) (G 10) e1 (Z0.2.1 8), bNow E (G 9) (G 11) e2 (Z0.2.1 9), bScene E (G 10) (Z0.2.1 10), bScene E (G 11) (Z0.2.1 11), bPool E e0 (Z0.2.2 0), bPool E e1 (Z0.2.2 1), bPool E e2 (Z0.2.2 2)]) (bc := [bScene E (G 3) (Z0.2.1 3)]) (br := [bGC G (pl 99) (dr 99) Z0.1, bText E (G 1) (Z0.2.1 1), bNow E (G 2) (G 3) e0 (Z0.2.1 2), bPlan E pl (Z0.2.1 4), bPlan E dr (Z0.2.1 5), bRumour E (G 6) (Z0.2.1 6), bIm E G (Z0.2.1 7), bNow E (G 8) (G 10) e1 (Z0.2.1 8), bNow E (G 9) (G 11) e2 (Z0.2.1 9), bScene E (G 10) (Z0.2.1 10), bScene E (G 11) (Z0.2.1 11), bPool E e0 (Z0.2.2 0), bPool E e1 (Z0.2.2 1), bPool E e2 (Z0.2.2 2)]) [3, 0, 1, 2, 4, 5, 6, 7, 8, 9, 10, 11, 12, 13, 14] rfl rfl (by decide)
            have hP := gP_perm p2.symm hP
            have hD := gD_perm p2.symm hD
            clear p2
            have hP : gP E (gcW E G pl dr e0 e1 e2 Z0) H := hP
            have hD : va_D A (gcW E G pl dr e0 e1 e2 Z0) := hD
            refine lv_if_eq (tgt := 63) hx hb dX5_tells_57 (by decide) (fun c_11 => ?_) (fun c_11 => ?_)
            · have h := h.1 c_11
              refine lv_aload_n hx hb dX5_tells_63 rfl (lv_at hl 1 rfl) ?_
              refine va_get (D := (E.1, E.2.1)) (ci := 5) (v := .ref (G 2 99)) (C := RX5) (T := TX5) (N := 8) hx hb ht wu_X5 hown hK hP 0 rfl rfl 1 (by decide) (ht _ wk_X5_19) (fun _ h9 => h9) rfl dX5_tells_64 ?_
              have p1 := gB (n := 15) (bs := [bGC G (pl 99) (dr 99) Z0.1, bText E (G 1) (Z0.2.1 1), bNow E (G 2) (G 3) e0 (Z0.2.1 2), bScene E (G 3) (Z0.2.1 3), bPlan E pl (Z0.2.1 4), bPlan E dr (Z0.2.1 5), bRumour E (G 6) (Z0.2.1 6), bIm E G (Z0.2.1 7), bNow E (G 8) (G 10) e1 (Z0.2.1 8), bNow E (G 9) (G 11) e2 (Z0.2.1 9), bScene E (G 10) (Z0.2.1 10), bScene E (G 11) (Z0.2.1 11), bPool E e0 (Z0.2.2 0), bPool E e1 (Z0.2.2 1), bPool E e2 (Z0.2.2 2)]) (bc := [bNow E (G 2) (G 3) e0 (Z0.2.1 2), bScene E (G 3) (Z0.2.1 3), bPool E e0 (Z0.2.2 0)]) (br := [bGC G (pl 99) (dr 99) Z0.1, bText E (G 1) (Z0.2.1 1), bPlan E pl (Z0.2.1 4), bPlan E dr (Z0.2.1 5), bRumour E (G 6) (Z0.2.1 6), bIm E G (Z0.2.1 7), bNow E (G 8) (G 10) e1 (Z0.2.1 8), bNow E (G 9) (G 11) e2 (Z0.2.1 9), bScene E (G 10) (Z0.2.1 10), bScene E (G 11) (Z0.2.1 11), bPool E e1 (Z0.2.2 1), bPool E e2 (Z0.2.2 2)]) [2, 3, 12, 0, 1, 4, 5, 6, 7, 8, 9, 10, 11, 13, 14] rfl rfl (by decide)
              refine g_v (g_runV (As := []) (rest := []) ⟨hx, hb, hml, hown, ht⟩ hE (c_X0_remember E l (G 2) (G 3) e0 (Z0.2.1 2) (Z0.2.1 3) (Z0.2.2 0) _ h) ⟨rfl, rfl⟩ wk_X5_126 wi_X0_remember ws_X0_remember wn_X0 wc_X0_remember yd_X0_remember ⟨Nat.le_of_ble_eq_true rfl, Nat.le_of_ble_eq_true rfl⟩ hP hD p1 (ci := 0) rfl rfl rfl rfl rfl hl.1 rfl (lv_room (Nat.le_of_ble_eq_true rfl)) dX5_tells_67 ⟨Nat.zero_le _, Nat.zero_le _⟩) hP hD hS p1 (fun u w H locs h hw hP hD hS => ?_)
              obtain ⟨S_12, S_13, O_14⟩ := u
              obtain ⟨e_15, rfl⟩ := hw
              clear p1
              have p2 := gB (n := 15) (bs := [bGC G (pl 99) (dr 99) Z0.1, bText E (G 1) (Z0.2.1 1), bNow E (G 2) (G 3) e_15 S_12, bScene E (G 3) S_13, bPlan E pl (Z0.2.1 4), bPlan E dr (Z0.2.1 5), bRumour E (G 6) (Z0.2.1 6), bIm E G (Z0.2.1 7), bNow E (G 8) (G 10) e1 (Z0.2.1 8), bNow E (G 9) (G 11) e2 (Z0.2.1 9), bScene E (G 10) (Z0.2.1 10), bScene E (G 11) (Z0.2.1 11), bPool E e_15 O_14, bPool E e1 (Z0.2.2 1), bPool E e2 (Z0.2.2 2)]) (bc := [bNow E (G 2) (G 3) e_15 S_12, bScene E (G 3) S_13, bPool E e_15 O_14]) (br := [bGC G (pl 99) (dr 99) Z0.1, bText E (G 1) (Z0.2.1 1), bPlan E pl (Z0.2.1 4), bPlan E dr (Z0.2.1 5), bRumour E (G 6) (Z0.2.1 6), bIm E G (Z0.2.1 7), bNow E (G 8) (G 10) e1 (Z0.2.1 8), bNow E (G 9) (G 11) e2 (Z0.2.1 9), bScene E (G 10) (Z0.2.1 10), bScene E (G 11) (Z0.2.1 11), bPool E e1 (Z0.2.2 1), bPool E e2 (Z0.2.2 2)]) [2, 3, 12, 0, 1, 4, 5, 6, 7, 8, 9, 10, 11, 13, 14] rfl rfl (by decide)
              have hP := gP_perm p2.symm hP
              have hD := gD_perm p2.symm hD
              clear p2
              obtain ⟨Z_16, eZ_16⟩ : ∃ z : GC, z = (gpo (gx (gx Z0 2 S_12) 3 S_13) 0 O_14) := ⟨_, rfl⟩
              have h := h Z_16 eZ_16
              have hP : gP E (gcW E G pl dr e_15 e1 e2 Z_16) H := by rw [eZ_16]; exact hP
              have hD : va_D A (gcW E G pl dr e_15 e1 e2 Z_16) := by rw [eZ_16]; exact hD
              refine lv_aload hx hb dX5_tells_70 (lv_at hl 0 rfl) ?_
              refine va_get (D := (E.1, E.2.1)) (ci := 3) (v := .ref ((G 3) 2)) (C := RX3) (T := TX3) (N := 5) hx hb ht wu_X3 hown hK hP 5 rfl rfl 2 (by decide) (ht _ wk_X5_88) (fun _ h9 => h9) rfl dX5_tells_72 ?_
              refine lv_iload_n hx hb dX5_tells_75 rfl (lv_at hl 4 rfl) ?_
              refine lv_dup2_11 hx hb dX5_tells_76 rfl rfl ?_
              refine va_iald hx hb hK hP 8 0 rfl rfl h.1 dX5_tells_77 ?_
              have h := h.2
              refine lv_iconst (v := 1) hx hb dX5_tells_78 (by decide) ?_
              refine lv_iload_n hx hb dX5_tells_79 rfl (lv_at hl 3 rfl) ?_
              refine lv_ishl hx hb dX5_tells_80 ?_
              refine lv_ior hx hb dX5_tells_81 ?_
              refine va_iast hx hb hK hP hD hS 8 0 rfl rfl h.1 dX5_tells_82 (fun H locs hP hD hS => ?_)
              have h := h.2
              have hP : gP E (gcW E G pl dr e_15 e1 e2 (gx Z_16 3 (pa (Z_16.2.1 3) 2 (x3.toNatClampNeg) (((Z_16.2.1 3).2 2 x3.toNatClampNeg) ||| ((1 : Int32) <<< (x2 &&& 31)))))) H := hP
              have hD : va_D A (gcW E G pl dr e_15 e1 e2 (gx Z_16 3 (pa (Z_16.2.1 3) 2 (x3.toNatClampNeg) (((Z_16.2.1 3).2 2 x3.toNatClampNeg) ||| ((1 : Int32) <<< (x2 &&& 31)))))) := hD
              obtain ⟨Z_17, eZ_17⟩ : ∃ z : GC, z = (gx Z_16 3 (pa (Z_16.2.1 3) 2 (x3.toNatClampNeg) (((Z_16.2.1 3).2 2 x3.toNatClampNeg) ||| ((1 : Int32) <<< (x2 &&& 31))))) := ⟨_, rfl⟩
              have h := h Z_17 eZ_17
              have hP : gP E (gcW E G pl dr e_15 e1 e2 Z_17) H := by rw [eZ_17]; exact hP
              have hD : va_D A (gcW E G pl dr e_15 e1 e2 Z_17) := by rw [eZ_17]; exact hD
              refine lv_aload hx hb dX5_tells_83 (lv_at hl 0 rfl) ?_
              refine lv_iload_n hx hb dX5_tells_85 rfl (lv_at hl 4 rfl) ?_
              have p1 := gB (n := 15) (bs := [bGC G (pl 99) (dr 99) Z_17.1, bText E (G 1) (Z_17.2.1 1), bNow E (G 2) (G 3) e_15 (Z_17.2.1 2), bScene E (G 3) (Z_17.2.1 3), bPlan E pl (Z_17.2.1 4), bPlan E dr (Z_17.2.1 5), bRumour E (G 6) (Z_17.2.1 6), bIm E G (Z_17.2.1 7), bNow E (G 8) (G 10) e1 (Z_17.2.1 8), bNow E (G 9) (G 11) e2 (Z_17.2.1 9), bScene E (G 10) (Z_17.2.1 10), bScene E (G 11) (Z_17.2.1 11), bPool E e_15 (Z_17.2.2 0), bPool E e1 (Z_17.2.2 1), bPool E e2 (Z_17.2.2 2)]) (bc := [bScene E (G 3) (Z_17.2.1 3)]) (br := [bGC G (pl 99) (dr 99) Z_17.1, bText E (G 1) (Z_17.2.1 1), bNow E (G 2) (G 3) e_15 (Z_17.2.1 2), bPlan E pl (Z_17.2.1 4), bPlan E dr (Z_17.2.1 5), bRumour E (G 6) (Z_17.2.1 6), bIm E G (Z_17.2.1 7), bNow E (G 8) (G 10) e1 (Z_17.2.1 8), bNow E (G 9) (G 11) e2 (Z_17.2.1 9), bScene E (G 10) (Z_17.2.1 10), bScene E (G 11) (Z_17.2.1 11), bPool E e_15 (Z_17.2.2 0), bPool E e1 (Z_17.2.2 1), bPool E e2 (Z_17.2.2 2)]) [3, 0, 1, 2, 4, 5, 6, 7, 8, 9, 10, 11, 12, 13, 14] rfl rfl (by decide)
              refine g_i (g_runV (As := [.int x3]) (rest := []) ⟨hx, hb, hml, hown, ht⟩ hE (c_X3_knowerCount E l (G 3) (Z_17.2.1 3) x3 _ h) ⟨rfl, rfl⟩ wk_X5_150 wi_X3_knowerCount ws_X3_knowerCount wn_X3 wc_X3_knowerCount yd_X3_knowerCount ⟨Nat.le_of_ble_eq_true rfl, Nat.le_of_ble_eq_true rfl⟩ hP hD p1 (ci := 3) rfl rfl rfl rfl rfl hl.1 rfl (lv_room (Nat.le_of_ble_eq_true rfl)) dX5_tells_86 ⟨Nat.zero_le _, Nat.zero_le _⟩) hP hD hS p1 (fun r_18 _ w H locs h hw hP hD hS => ?_)
              subst hw
              clear p1
              have p2 := gB (n := 15) (bs := [bGC G (pl 99) (dr 99) Z_17.1, bText E (G 1) (Z_17.2.1 1), bNow E (G 2) (G 3) e_15 (Z_17.2.1 2), bScene E (G 3) (Z_17.2.1 3), bPlan E pl (Z_17.2.1 4), bPlan E dr (Z_17.2.1 5), bRumour E (G 6) (Z_17.2.1 6), bIm E G (Z_17.2.1 7), bNow E (G 8) (G 10) e1 (Z_17.2.1 8), bNow E (G 9) (G 11) e2 (Z_17.2.1 9), bScene E (G 10) (Z_17.2.1 10), bScene E (G 11) (Z_17.2.1 11), bPool E e_15 (Z_17.2.2 0), bPool E e1 (Z_17.2.2 1), bPool E e2 (Z_17.2.2 2)]) (bc := [bScene E (G 3) (Z_17.2.1 3)]) (br := [bGC G (pl 99) (dr 99) Z_17.1, bText E (G 1) (Z_17.2.1 1), bNow E (G 2) (G 3) e_15 (Z_17.2.1 2), bPlan E pl (Z_17.2.1 4), bPlan E dr (Z_17.2.1 5), bRumour E (G 6) (Z_17.2.1 6), bIm E G (Z_17.2.1 7), bNow E (G 8) (G 10) e1 (Z_17.2.1 8), bNow E (G 9) (G 11) e2 (Z_17.2.1 9), bScene E (G 10) (Z_17.2.1 10), bScene E (G 11) (Z_17.2.1 11), bPool E e_15 (Z_17.2.2 0), bPool E e1 (Z_17.2.2 1), bPool E e2 (Z_17.2.2 2)]) [3, 0, 1, 2, 4, 5, 6, 7, 8, 9, 10, 11, 12, 13, 14] rfl rfl (by decide)
              have hP := gP_perm p2.symm hP
              have hD := gD_perm p2.symm hD
              clear p2
              have hP : gP E (gcW E G pl dr e_15 e1 e2 Z_17) H := hP
              have hD : va_D A (gcW E G pl dr e_15 e1 e2 Z_17) := hD
              exact hret r_18 Z_17 _ _ _ _ _ h ⟨_, _, _, rfl⟩ hP hD hS dX5_tells_89
            · have h := h.2 c_11
              refine lv_bipush (v := (-2)) hx hb dX5_tells_60 (by decide) ?_
              exact hret (-2) Z0 _ _ _ _ _ h ⟨_, _, _, rfl⟩ hP hD hS dX5_tells_62
        · have h := h.2 c_7
          refine lv_iconst (v := (-1)) hx hb dX5_tells_29 (by decide) ?_
          exact hret (-1) Z0 _ _ _ _ _ h ⟨_, _, _, rfl⟩ hP hD hS dX5_tells_30
theorem dX5_changes_0 : decode cX5_changes 0 = .ok (.aload_n 0, 1) := by decide +kernel
theorem dX5_changes_1 : decode cX5_changes 1 = .ok (.iload_n 1, 1) := by decide +kernel
theorem dX5_changes_2 : decode cX5_changes 2 = .ok (.invokevirtual 100, 3) := by decide +kernel
theorem dX5_changes_5 : decode cX5_changes 5 = .ok (.ifCond .eq 10, 3) := by decide +kernel
theorem dX5_changes_8 : decode cX5_changes 8 = .ok (.iload_n 2, 1) := by decide +kernel
theorem dX5_changes_9 : decode cX5_changes 9 = .ok (.invokestatic 136, 3) := by decide +kernel
theorem dX5_changes_12 : decode cX5_changes 12 = .ok (.ifCond .ne 5, 3) := by decide +kernel
theorem dX5_changes_15 : decode cX5_changes 15 = .ok (.iconst (-1), 1) := by decide +kernel
theorem dX5_changes_16 : decode cX5_changes 16 = .ok (.ireturn, 1) := by decide +kernel
theorem dX5_changes_17 : decode cX5_changes 17 = .ok (.aload_n 0, 1) := by decide +kernel
theorem dX5_changes_18 : decode cX5_changes 18 = .ok (.getfield 19, 3) := by decide +kernel
theorem dX5_changes_21 : decode cX5_changes 21 = .ok (.getfield 75, 3) := by decide +kernel
theorem dX5_changes_24 : decode cX5_changes 24 = .ok (.astore_n 3, 1) := by decide +kernel
theorem dX5_changes_25 : decode cX5_changes 25 = .ok (.aload_n 3, 1) := by decide +kernel
theorem dX5_changes_26 : decode cX5_changes 26 = .ok (.invokevirtual 119, 3) := by decide +kernel
theorem dX5_changes_29 : decode cX5_changes 29 = .ok (.ifCond .eq 15, 3) := by decide +kernel
theorem dX5_changes_32 : decode cX5_changes 32 = .ok (.aload_n 3, 1) := by decide +kernel
theorem dX5_changes_33 : decode cX5_changes 33 = .ok (.iload_n 1, 1) := by decide +kernel
theorem dX5_changes_34 : decode cX5_changes 34 = .ok (.aload_n 3, 1) := by decide +kernel
theorem dX5_changes_35 : decode cX5_changes 35 = .ok (.getfield 129, 3) := by decide +kernel
theorem dX5_changes_38 : decode cX5_changes 38 = .ok (.invokevirtual 123, 3) := by decide +kernel
theorem dX5_changes_41 : decode cX5_changes 41 = .ok (.ifCond .ne 6, 3) := by decide +kernel
theorem dX5_changes_44 : decode cX5_changes 44 = .ok (.bipush (-2), 2) := by decide +kernel
theorem dX5_changes_46 : decode cX5_changes 46 = .ok (.ireturn, 1) := by decide +kernel
theorem dX5_changes_47 : decode cX5_changes 47 = .ok (.aload_n 0, 1) := by decide +kernel
theorem dX5_changes_48 : decode cX5_changes 48 = .ok (.getfield 19, 3) := by decide +kernel
theorem dX5_changes_51 : decode cX5_changes 51 = .ok (.invokevirtual 126, 3) := by decide +kernel
theorem dX5_changes_54 : decode cX5_changes 54 = .ok (.aload_n 3, 1) := by decide +kernel
theorem dX5_changes_55 : decode cX5_changes 55 = .ok (.iload_n 1, 1) := by decide +kernel
theorem dX5_changes_56 : decode cX5_changes 56 = .ok (.iload_n 2, 1) := by decide +kernel
theorem dX5_changes_57 : decode cX5_changes 57 = .ok (.invokevirtual 153, 3) := by decide +kernel
theorem dX5_changes_60 : decode cX5_changes 60 = .ok (.ireturn, 1) := by decide +kernel
set_option maxHeartbeats 4000000 in
set_option maxRecDepth 100000 in
theorem c_X5_changes (E : GE) (l : Launch) (G : Nat → Nat → Nat) (pl dr : Nat → Nat) (e0 e1 e2 : Nat → Nat → Nat) (Z0 : GC) (x1 : Int32) (x2 : Int32) (post : Int32 → GC → Prop) (h : wp_X5_changes Z0 x1 x2 post) : Met l yX5_changes (wz yX5_changes cX5_changes 4 (some .int)) { frames := 3, cells := 0, slots := 0, locals := 81 } (gPc E [.ref (G 0 99), .int x1, .int x2] (gcW E G pl dr e0 e1 e2 Z0)) (gQi E (gcW E G pl dr e0 e1 e2 Z0) (fun r (u : GC) => post r u) (fun (u : GC) w => ∃ (pl dr : Nat → Nat) (e0 : Nat → Nat → Nat), w = gcW E G pl dr e0 e1 e2 u)) 0 0 (gIn (gcW E G pl dr e0 e1 e2 Z0)) := by
  unfold wp_X5_changes at h
  refine g_of_i (by decide) (Nat.le_of_ble_eq_true rfl) ?_
  intro p e s m below meth c A Q hx hb hml hown ht hE hP hD hret ls hl
  have hK := hE.1
  have hS : va_S A s.heap s.heap [] := va_S.rf
  have hl : lv_has ls 4 [(0, .ref (G 0 99)), (1, .int x1), (2, .int x2)] := hl
  refine lv_aload_n hx hb dX5_changes_0 rfl (lv_at hl 0 rfl) ?_
  refine lv_iload_n hx hb dX5_changes_1 rfl (lv_at hl 1 rfl) ?_
  have p1 := gB (n := 15) (bs := [bGC G (pl 99) (dr 99) Z0.1, bText E (G 1) (Z0.2.1 1), bNow E (G 2) (G 3) e0 (Z0.2.1 2), bScene E (G 3) (Z0.2.1 3), bPlan E pl (Z0.2.1 4), bPlan E dr (Z0.2.1 5), bRumour E (G 6) (Z0.2.1 6), bIm E G (Z0.2.1 7), bNow E (G 8) (G 10) e1 (Z0.2.1 8), bNow E (G 9) (G 11) e2 (Z0.2.1 9), bScene E (G 10) (Z0.2.1 10), bScene E (G 11) (Z0.2.1 11), bPool E e0 (Z0.2.2 0), bPool E e1 (Z0.2.2 1), bPool E e2 (Z0.2.2 2)]) (bc := [bGC G (pl 99) (dr 99) Z0.1, bText E (G 1) (Z0.2.1 1), bNow E (G 2) (G 3) e0 (Z0.2.1 2), bScene E (G 3) (Z0.2.1 3), bPlan E pl (Z0.2.1 4), bPlan E dr (Z0.2.1 5), bRumour E (G 6) (Z0.2.1 6), bIm E G (Z0.2.1 7), bNow E (G 8) (G 10) e1 (Z0.2.1 8), bNow E (G 9) (G 11) e2 (Z0.2.1 9), bScene E (G 10) (Z0.2.1 10), bScene E (G 11) (Z0.2.1 11), bPool E e0 (Z0.2.2 0), bPool E e1 (Z0.2.2 1), bPool E e2 (Z0.2.2 2)]) (br := []) [0, 1, 2, 3, 4, 5, 6, 7, 8, 9, 10, 11, 12, 13, 14] rfl rfl (by decide)
  refine g_i (g_runV (As := [.int x1]) (rest := []) ⟨hx, hb, hml, hown, ht⟩ hE (c_X5_isPerson E l G pl dr e0 e1 e2 Z0 x1 _ h) ⟨rfl, rfl⟩ wk_X5_100 wi_X5_isPerson ws_X5_isPerson wn_X5 wc_X5_isPerson yd_X5_isPerson ⟨Nat.le_of_ble_eq_true rfl, Nat.le_of_ble_eq_true rfl⟩ hP hD p1 (ci := 5) rfl rfl rfl rfl rfl hl.1 rfl (lv_room (Nat.le_of_ble_eq_true rfl)) dX5_changes_2 ⟨Nat.zero_le _, Nat.zero_le _⟩) hP hD hS p1 (fun r_1 _ w H locs h hw hP hD hS => ?_)
  subst hw
  clear p1
  have p2 := gB (n := 15) (bs := [bGC G (pl 99) (dr 99) Z0.1, bText E (G 1) (Z0.2.1 1), bNow E (G 2) (G 3) e0 (Z0.2.1 2), bScene E (G 3) (Z0.2.1 3), bPlan E pl (Z0.2.1 4), bPlan E dr (Z0.2.1 5), bRumour E (G 6) (Z0.2.1 6), bIm E G (Z0.2.1 7), bNow E (G 8) (G 10) e1 (Z0.2.1 8), bNow E (G 9) (G 11) e2 (Z0.2.1 9), bScene E (G 10) (Z0.2.1 10), bScene E (G 11) (Z0.2.1 11), bPool E e0 (Z0.2.2 0), bPool E e1 (Z0.2.2 1), bPool E e2 (Z0.2.2 2)]) (bc := [bGC G (pl 99) (dr 99) Z0.1, bText E (G 1) (Z0.2.1 1), bNow E (G 2) (G 3) e0 (Z0.2.1 2), bScene E (G 3) (Z0.2.1 3), bPlan E pl (Z0.2.1 4), bPlan E dr (Z0.2.1 5), bRumour E (G 6) (Z0.2.1 6), bIm E G (Z0.2.1 7), bNow E (G 8) (G 10) e1 (Z0.2.1 8), bNow E (G 9) (G 11) e2 (Z0.2.1 9), bScene E (G 10) (Z0.2.1 10), bScene E (G 11) (Z0.2.1 11), bPool E e0 (Z0.2.2 0), bPool E e1 (Z0.2.2 1), bPool E e2 (Z0.2.2 2)]) (br := []) [0, 1, 2, 3, 4, 5, 6, 7, 8, 9, 10, 11, 12, 13, 14] rfl rfl (by decide)
  have hP := gP_perm p2.symm hP
  have hD := gD_perm p2.symm hD
  clear p2
  have hP : gP E (gcW E G pl dr e0 e1 e2 Z0) H := hP
  have hD : va_D A (gcW E G pl dr e0 e1 e2 Z0) := hD
  refine lv_if_eq (tgt := 15) hx hb dX5_changes_5 (by decide) (fun c_2 => ?_) (fun c_2 => ?_)
  · have h := h.1 c_2
    refine lv_iconst (v := (-1)) hx hb dX5_changes_15 (by decide) ?_
    exact hret (-1) Z0 _ _ _ _ _ h ⟨_, _, _, rfl⟩ hP hD hS dX5_changes_16
  · have h := h.2 c_2
    refine lv_iload_n hx hb dX5_changes_8 rfl (lv_at hl 2 rfl) ?_
    have p1 := gB (n := 15) (bs := [bGC G (pl 99) (dr 99) Z0.1, bText E (G 1) (Z0.2.1 1), bNow E (G 2) (G 3) e0 (Z0.2.1 2), bScene E (G 3) (Z0.2.1 3), bPlan E pl (Z0.2.1 4), bPlan E dr (Z0.2.1 5), bRumour E (G 6) (Z0.2.1 6), bIm E G (Z0.2.1 7), bNow E (G 8) (G 10) e1 (Z0.2.1 8), bNow E (G 9) (G 11) e2 (Z0.2.1 9), bScene E (G 10) (Z0.2.1 10), bScene E (G 11) (Z0.2.1 11), bPool E e0 (Z0.2.2 0), bPool E e1 (Z0.2.2 1), bPool E e2 (Z0.2.2 2)]) (bc := []) (br := [bGC G (pl 99) (dr 99) Z0.1, bText E (G 1) (Z0.2.1 1), bNow E (G 2) (G 3) e0 (Z0.2.1 2), bScene E (G 3) (Z0.2.1 3), bPlan E pl (Z0.2.1 4), bPlan E dr (Z0.2.1 5), bRumour E (G 6) (Z0.2.1 6), bIm E G (Z0.2.1 7), bNow E (G 8) (G 10) e1 (Z0.2.1 8), bNow E (G 9) (G 11) e2 (Z0.2.1 9), bScene E (G 10) (Z0.2.1 10), bScene E (G 11) (Z0.2.1 11), bPool E e0 (Z0.2.2 0), bPool E e1 (Z0.2.2 1), bPool E e2 (Z0.2.2 2)]) [0, 1, 2, 3, 4, 5, 6, 7, 8, 9, 10, 11, 12, 13, 14] rfl rfl (by decide)
    refine g_i (g_runS (As := [.int x2]) (rest := []) ⟨hx, hb, hml, hown, ht⟩ hE (c_X5_isNumber E l x2 _ h) ⟨rfl, rfl⟩ wk_X5_136 wt_X5_isNumber wn_X5 wc_X5_isNumber yd_X5_isNumber ⟨Nat.le_of_ble_eq_true rfl, Nat.le_of_ble_eq_true rfl⟩ hP hD p1 rfl rfl hl.1 rfl (lv_room (Nat.le_of_ble_eq_true rfl)) dX5_changes_9 ⟨Nat.zero_le _, Nat.zero_le _⟩) hP hD hS p1 (fun r_3 _ w H locs h hw hP hD hS => ?_)
    subst hw
    clear p1
    have p2 := gB (n := 15) (bs := [bGC G (pl 99) (dr 99) Z0.1, bText E (G 1) (Z0.2.1 1), bNow E (G 2) (G 3) e0 (Z0.2.1 2), bScene E (G 3) (Z0.2.1 3), bPlan E pl (Z0.2.1 4), bPlan E dr (Z0.2.1 5), bRumour E (G 6) (Z0.2.1 6), bIm E G (Z0.2.1 7), bNow E (G 8) (G 10) e1 (Z0.2.1 8), bNow E (G 9) (G 11) e2 (Z0.2.1 9), bScene E (G 10) (Z0.2.1 10), bScene E (G 11) (Z0.2.1 11), bPool E e0 (Z0.2.2 0), bPool E e1 (Z0.2.2 1), bPool E e2 (Z0.2.2 2)]) (bc := []) (br := [bGC G (pl 99) (dr 99) Z0.1, bText E (G 1) (Z0.2.1 1), bNow E (G 2) (G 3) e0 (Z0.2.1 2), bScene E (G 3) (Z0.2.1 3), bPlan E pl (Z0.2.1 4), bPlan E dr (Z0.2.1 5), bRumour E (G 6) (Z0.2.1 6), bIm E G (Z0.2.1 7), bNow E (G 8) (G 10) e1 (Z0.2.1 8), bNow E (G 9) (G 11) e2 (Z0.2.1 9), bScene E (G 10) (Z0.2.1 10), bScene E (G 11) (Z0.2.1 11), bPool E e0 (Z0.2.2 0), bPool E e1 (Z0.2.2 1), bPool E e2 (Z0.2.2 2)]) [0, 1, 2, 3, 4, 5, 6, 7, 8, 9, 10, 11, 12, 13, 14] rfl rfl (by decide)
    have hP := gP_perm p2.symm hP
    have hD := gD_perm p2.symm hD
    clear p2
    have hP : gP E (gcW E G pl dr e0 e1 e2 Z0) H := hP
    have hD : va_D A (gcW E G pl dr e0 e1 e2 Z0) := hD
    refine lv_if_ne (tgt := 17) hx hb dX5_changes_12 (by decide) (fun c_4 => ?_) (fun c_4 => ?_)
    · have h := h.1 c_4
      refine lv_aload_n hx hb dX5_changes_17 rfl (lv_at hl 0 rfl) ?_
      refine va_get (D := (E.1, E.2.1)) (ci := 5) (v := .ref (G 2 99)) (C := RX5) (T := TX5) (N := 8) hx hb ht wu_X5 hown hK hP 0 rfl rfl 1 (by decide) (ht _ wk_X5_19) (fun _ h9 => h9) rfl dX5_changes_18 ?_
      refine va_get (D := (E.1, E.2.1)) (ci := 0) (v := .ref ((G 3) 99)) (C := RX0) (T := TX0) (N := 3) hx hb ht wu_X0 hown hK hP 3 rfl rfl 0 (by decide) (ht _ wk_X5_75) (fun _ h9 => h9) rfl dX5_changes_21 ?_
      refine lv_astore_n (lv' := [(3, .ref ((G 3) 99)), (0, .ref (G 0 99)), (1, .int x1), (2, .int x2)]) hx hb dX5_changes_24 rfl hl (by decide) rfl (fun ls hl => ?_)
      refine lv_aload_n hx hb dX5_changes_25 rfl (lv_at hl 0 rfl) ?_
      have p1 := gB (n := 15) (bs := [bGC G (pl 99) (dr 99) Z0.1, bText E (G 1) (Z0.2.1 1), bNow E (G 2) (G 3) e0 (Z0.2.1 2), bScene E (G 3) (Z0.2.1 3), bPlan E pl (Z0.2.1 4), bPlan E dr (Z0.2.1 5), bRumour E (G 6) (Z0.2.1 6), bIm E G (Z0.2.1 7), bNow E (G 8) (G 10) e1 (Z0.2.1 8), bNow E (G 9) (G 11) e2 (Z0.2.1 9), bScene E (G 10) (Z0.2.1 10), bScene E (G 11) (Z0.2.1 11), bPool E e0 (Z0.2.2 0), bPool E e1 (Z0.2.2 1), bPool E e2 (Z0.2.2 2)]) (bc := [bScene E (G 3) (Z0.2.1 3)]) (br := [bGC G (pl 99) (dr 99) Z0.1, bText E (G 1) (Z0.2.1 1), bNow E (G 2) (G 3) e0 (Z0.2.1 2), bPlan E pl (Z0.2.1 4), bPlan E dr (Z0.2.1 5), bRumour E (G 6) (Z0.2.1 6), bIm E G (Z0.2.1 7), bNow E (G 8) (G 10) e1 (Z0.2.1 8), bNow E (G 9) (G 11) e2 (Z0.2.1 9), bScene E (G 10) (Z0.2.1 10), bScene E (G 11) (Z0.2.1 11), bPool E e0 (Z0.2.2 0), bPool E e1 (Z0.2.2 1), bPool E e2 (Z0.2.2 2)]) [3, 0, 1, 2, 4, 5, 6, 7, 8, 9, 10, 11, 12, 13, 14] rfl rfl (by decide)
      refine g_i (g_runV (As := []) (rest := []) ⟨hx, hb, hml, hown, ht⟩ hE (c_X3_isOpen E l (G 3) (Z0.2.1 3) _ h) ⟨rfl, rfl⟩ wk_X5_119 wi_X3_isOpen ws_X3_isOpen wn_X3 wc_X3_isOpen yd_X3_isOpen ⟨Nat.le_of_ble_eq_true rfl, Nat.le_of_ble_eq_true rfl⟩ hP hD p1 (ci := 3) rfl rfl rfl rfl rfl hl.1 rfl (lv_room (Nat.le_of_ble_eq_true rfl)) dX5_changes_26 ⟨Nat.zero_le _, Nat.zero_le _⟩) hP hD hS p1 (fun r_5 _ w H locs h hw hP hD hS => ?_)
      subst hw
      clear p1
      have p2 := gB (n := 15) (bs := [bGC G (pl 99) (dr 99) Z0.1, bText E (G 1) (Z0.2.1 1), bNow E (G 2) (G 3) e0 (Z0.2.1 2), bScene E (G 3) (Z0.2.1 3), bPlan E pl (Z0.2.1 4), bPlan E dr (Z0.2.1 5), bRumour E (G 6) (Z0.2.1 6), bIm E G (Z0.2.1 7), bNow E (G 8) (G 10) e1 (Z0.2.1 8), bNow E (G 9) (G 11) e2 (Z0.2.1 9), bScene E (G 10) (Z0.2.1 10), bScene E (G 11) (Z0.2.1 11), bPool E e0 (Z0.2.2 0), bPool E e1 (Z0.2.2 1), bPool E e2 (Z0.2.2 2)]) (bc := [bScene E (G 3) (Z0.2.1 3)]) (br := [bGC G (pl 99) (dr 99) Z0.1, bText E (G 1) (Z0.2.1 1), bNow E (G 2) (G 3) e0 (Z0.2.1 2), bPlan E pl (Z0.2.1 4), bPlan E dr (Z0.2.1 5), bRumour E (G 6) (Z0.2.1 6), bIm E G (Z0.2.1 7), bNow E (G 8) (G 10) e1 (Z0.2.1 8), bNow E (G 9) (G 11) e2 (Z0.2.1 9), bScene E (G 10) (Z0.2.1 10), bScene E (G 11) (Z0.2.1 11), bPool E e0 (Z0.2.2 0), bPool E e1 (Z0.2.2 1), bPool E e2 (Z0.2.2 2)]) [3, 0, 1, 2, 4, 5, 6, 7, 8, 9, 10, 11, 12, 13, 14] rfl rfl (by decide)
      have hP := gP_perm p2.symm hP
      have hD := gD_perm p2.symm hD
      clear p2
      have hP : gP E (gcW E G pl dr e0 e1 e2 Z0) H := hP
      have hD : va_D A (gcW E G pl dr e0 e1 e2 Z0) := hD
      refine lv_if_eq (tgt := 44) hx hb dX5_changes_29 (by decide) (fun c_6 => ?_) (fun c_6 => ?_)
      · have h := h.1 c_6
        refine lv_bipush (v := (-2)) hx hb dX5_changes_44 (by decide) ?_
        exact hret (-2) Z0 _ _ _ _ _ h ⟨_, _, _, rfl⟩ hP hD hS dX5_changes_46
      · have h := h.2 c_6
        refine lv_aload_n hx hb dX5_changes_32 rfl (lv_at hl 0 rfl) ?_
        refine lv_iload_n hx hb dX5_changes_33 rfl (lv_at hl 2 rfl) ?_
        refine lv_aload_n hx hb dX5_changes_34 rfl (lv_at hl 0 rfl) ?_
        refine va_get (D := (E.1, E.2.1)) (ci := 3) (v := .int ((Z0.2.1 3).1 4)) (C := RX3) (T := TX3) (N := 5) hx hb ht wu_X3 hown hK hP 5 rfl rfl 4 (by decide) (ht _ wk_X5_129) (fun _ h9 => h9) rfl dX5_changes_35 ?_
        have p1 := gB (n := 15) (bs := [bGC G (pl 99) (dr 99) Z0.1, bText E (G 1) (Z0.2.1 1), bNow E (G 2) (G 3) e0 (Z0.2.1 2), bScene E (G 3) (Z0.2.1 3), bPlan E pl (Z0.2.1 4), bPlan E dr (Z0.2.1 5), bRumour E (G 6) (Z0.2.1 6), bIm E G (Z0.2.1 7), bNow E (G 8) (G 10) e1 (Z0.2.1 8), bNow E (G 9) (G 11) e2 (Z0.2.1 9), bScene E (G 10) (Z0.2.1 10), bScene E (G 11) (Z0.2.1 11), bPool E e0 (Z0.2.2 0), bPool E e1 (Z0.2.2 1), bPool E e2 (Z0.2.2 2)]) (bc := [bScene E (G 3) (Z0.2.1 3)]) (br := [bGC G (pl 99) (dr 99) Z0.1, bText E (G 1) (Z0.2.1 1), bNow E (G 2) (G 3) e0 (Z0.2.1 2), bPlan E pl (Z0.2.1 4), bPlan E dr (Z0.2.1 5), bRumour E (G 6) (Z0.2.1 6), bIm E G (Z0.2.1 7), bNow E (G 8) (G 10) e1 (Z0.2.1 8), bNow E (G 9) (G 11) e2 (Z0.2.1 9), bScene E (G 10) (Z0.2.1 10), bScene E (G 11) (Z0.2.1 11), bPool E e0 (Z0.2.2 0), bPool E e1 (Z0.2.2 1), bPool E e2 (Z0.2.2 2)]) [3, 0, 1, 2, 4, 5, 6, 7, 8, 9, 10, 11, 12, 13, 14] rfl rfl (by decide)
        refine g_i (g_runV (As := [.int x1, .int ((Z0.2.1 3).1 4)]) (rest := []) ⟨hx, hb, hml, hown, ht⟩ hE (c_X3_knows E l (G 3) (Z0.2.1 3) x1 ((Z0.2.1 3).1 4) _ h) ⟨rfl, rfl⟩ wk_X5_123 wi_X3_knows ws_X3_knows wn_X3 wc_X3_knows yd_X3_knows ⟨Nat.le_of_ble_eq_true rfl, Nat.le_of_ble_eq_true rfl⟩ hP hD p1 (ci := 3) rfl rfl rfl rfl rfl hl.1 rfl (lv_room (Nat.le_of_ble_eq_true rfl)) dX5_changes_38 ⟨Nat.zero_le _, Nat.zero_le _⟩) hP hD hS p1 (fun r_7 _ w H locs h hw hP hD hS => ?_)
        subst hw
        clear p1
        have p2 := gB (n := 15) (bs := [bGC G (pl 99) (dr 99) Z0.1, bText E (G 1) (Z0.2.1 1), bNow E (G 2) (G 3) e0 (Z0.2.1 2), bScene E (G 3) (Z0.2.1 3), bPlan E pl (Z0.2.1 4), bPlan E dr (Z0.2.1 5), bRumour E (G 6) (Z0.2.1 6), bIm E G (Z0.2.1 7), bNow E (G 8) (G 10) e1 (Z0.2.1 8), bNow E (G 9) (G 11) e2 (Z0.2.1 9), bScene E (G 10) (Z0.2.1 10), bScene E (G 11) (Z0.2.1 11), bPool E e0 (Z0.2.2 0), bPool E e1 (Z0.2.2 1), bPool E e2 (Z0.2.2 2)]) (bc := [bScene E (G 3) (Z0.2.1 3)]) (br := [bGC G (pl 99) (dr 99) Z0.1, bText E (G 1) (Z0.2.1 1), bNow E (G 2) (G 3) e0 (Z0.2.1 2), bPlan E pl (Z0.2.1 4), bPlan E dr (Z0.2.1 5), bRumour E (G 6) (Z0.2.1 6), bIm E G (Z0.2.1 7), bNow E (G 8) (G 10) e1 (Z0.2.1 8), bNow E (G 9) (G 11) e2 (Z0.2.1 9), bScene E (G 10) (Z0.2.1 10), bScene E (G 11) (Z0.2.1 11), bPool E e0 (Z0.2.2 0), bPool E e1 (Z0.2.2 1), bPool E e2 (Z0.2.2 2)]) [3, 0, 1, 2, 4, 5, 6, 7, 8, 9, 10, 11, 12, 13, 14] rfl rfl (by decide)
        have hP := gP_perm p2.symm hP
        have hD := gD_perm p2.symm hD
        clear p2
        have hP : gP E (gcW E G pl dr e0 e1 e2 Z0) H := hP
        have hD : va_D A (gcW E G pl dr e0 e1 e2 Z0) := hD
        refine lv_if_ne (tgt := 47) hx hb dX5_changes_41 (by decide) (fun c_8 => ?_) (fun c_8 => ?_)
        · have h := h.1 c_8
          refine lv_aload_n hx hb dX5_changes_47 rfl (lv_at hl 1 rfl) ?_
          refine va_get (D := (E.1, E.2.1)) (ci := 5) (v := .ref (G 2 99)) (C := RX5) (T := TX5) (N := 8) hx hb ht wu_X5 hown hK hP 0 rfl rfl 1 (by decide) (ht _ wk_X5_19) (fun _ h9 => h9) rfl dX5_changes_48 ?_
          have p1 := gB (n := 15) (bs := [bGC G (pl 99) (dr 99) Z0.1, bText E (G 1) (Z0.2.1 1), bNow E (G 2) (G 3) e0 (Z0.2.1 2), bScene E (G 3) (Z0.2.1 3), bPlan E pl (Z0.2.1 4), bPlan E dr (Z0.2.1 5), bRumour E (G 6) (Z0.2.1 6), bIm E G (Z0.2.1 7), bNow E (G 8) (G 10) e1 (Z0.2.1 8), bNow E (G 9) (G 11) e2 (Z0.2.1 9), bScene E (G 10) (Z0.2.1 10), bScene E (G 11) (Z0.2.1 11), bPool E e0 (Z0.2.2 0), bPool E e1 (Z0.2.2 1), bPool E e2 (Z0.2.2 2)]) (bc := [bNow E (G 2) (G 3) e0 (Z0.2.1 2), bScene E (G 3) (Z0.2.1 3), bPool E e0 (Z0.2.2 0)]) (br := [bGC G (pl 99) (dr 99) Z0.1, bText E (G 1) (Z0.2.1 1), bPlan E pl (Z0.2.1 4), bPlan E dr (Z0.2.1 5), bRumour E (G 6) (Z0.2.1 6), bIm E G (Z0.2.1 7), bNow E (G 8) (G 10) e1 (Z0.2.1 8), bNow E (G 9) (G 11) e2 (Z0.2.1 9), bScene E (G 10) (Z0.2.1 10), bScene E (G 11) (Z0.2.1 11), bPool E e1 (Z0.2.2 1), bPool E e2 (Z0.2.2 2)]) [2, 3, 12, 0, 1, 4, 5, 6, 7, 8, 9, 10, 11, 13, 14] rfl rfl (by decide)
          refine g_v (g_runV (As := []) (rest := []) ⟨hx, hb, hml, hown, ht⟩ hE (c_X0_remember E l (G 2) (G 3) e0 (Z0.2.1 2) (Z0.2.1 3) (Z0.2.2 0) _ h) ⟨rfl, rfl⟩ wk_X5_126 wi_X0_remember ws_X0_remember wn_X0 wc_X0_remember yd_X0_remember ⟨Nat.le_of_ble_eq_true rfl, Nat.le_of_ble_eq_true rfl⟩ hP hD p1 (ci := 0) rfl rfl rfl rfl rfl hl.1 rfl (lv_room (Nat.le_of_ble_eq_true rfl)) dX5_changes_51 ⟨Nat.zero_le _, Nat.zero_le _⟩) hP hD hS p1 (fun u w H locs h hw hP hD hS => ?_)
          obtain ⟨S_9, S_10, O_11⟩ := u
          obtain ⟨e_12, rfl⟩ := hw
          clear p1
          have p2 := gB (n := 15) (bs := [bGC G (pl 99) (dr 99) Z0.1, bText E (G 1) (Z0.2.1 1), bNow E (G 2) (G 3) e_12 S_9, bScene E (G 3) S_10, bPlan E pl (Z0.2.1 4), bPlan E dr (Z0.2.1 5), bRumour E (G 6) (Z0.2.1 6), bIm E G (Z0.2.1 7), bNow E (G 8) (G 10) e1 (Z0.2.1 8), bNow E (G 9) (G 11) e2 (Z0.2.1 9), bScene E (G 10) (Z0.2.1 10), bScene E (G 11) (Z0.2.1 11), bPool E e_12 O_11, bPool E e1 (Z0.2.2 1), bPool E e2 (Z0.2.2 2)]) (bc := [bNow E (G 2) (G 3) e_12 S_9, bScene E (G 3) S_10, bPool E e_12 O_11]) (br := [bGC G (pl 99) (dr 99) Z0.1, bText E (G 1) (Z0.2.1 1), bPlan E pl (Z0.2.1 4), bPlan E dr (Z0.2.1 5), bRumour E (G 6) (Z0.2.1 6), bIm E G (Z0.2.1 7), bNow E (G 8) (G 10) e1 (Z0.2.1 8), bNow E (G 9) (G 11) e2 (Z0.2.1 9), bScene E (G 10) (Z0.2.1 10), bScene E (G 11) (Z0.2.1 11), bPool E e1 (Z0.2.2 1), bPool E e2 (Z0.2.2 2)]) [2, 3, 12, 0, 1, 4, 5, 6, 7, 8, 9, 10, 11, 13, 14] rfl rfl (by decide)
          have hP := gP_perm p2.symm hP
          have hD := gD_perm p2.symm hD
          clear p2
          obtain ⟨Z_13, eZ_13⟩ : ∃ z : GC, z = (gpo (gx (gx Z0 2 S_9) 3 S_10) 0 O_11) := ⟨_, rfl⟩
          have h := h Z_13 eZ_13
          have hP : gP E (gcW E G pl dr e_12 e1 e2 Z_13) H := by rw [eZ_13]; exact hP
          have hD : va_D A (gcW E G pl dr e_12 e1 e2 Z_13) := by rw [eZ_13]; exact hD
          refine lv_aload_n hx hb dX5_changes_54 rfl (lv_at hl 0 rfl) ?_
          refine lv_iload_n hx hb dX5_changes_55 rfl (lv_at hl 2 rfl) ?_
          refine lv_iload_n hx hb dX5_changes_56 rfl (lv_at hl 3 rfl) ?_
          have p1 := gB (n := 15) (bs := [bGC G (pl 99) (dr 99) Z_13.1, bText E (G 1) (Z_13.2.1 1), bNow E (G 2) (G 3) e_12 (Z_13.2.1 2), bScene E (G 3) (Z_13.2.1 3), bPlan E pl (Z_13.2.1 4), bPlan E dr (Z_13.2.1 5), bRumour E (G 6) (Z_13.2.1 6), bIm E G (Z_13.2.1 7), bNow E (G 8) (G 10) e1 (Z_13.2.1 8), bNow E (G 9) (G 11) e2 (Z_13.2.1 9), bScene E (G 10) (Z_13.2.1 10), bScene E (G 11) (Z_13.2.1 11), bPool E e_12 (Z_13.2.2 0), bPool E e1 (Z_13.2.2 1), bPool E e2 (Z_13.2.2 2)]) (bc := [bScene E (G 3) (Z_13.2.1 3)]) (br := [bGC G (pl 99) (dr 99) Z_13.1, bText E (G 1) (Z_13.2.1 1), bNow E (G 2) (G 3) e_12 (Z_13.2.1 2), bPlan E pl (Z_13.2.1 4), bPlan E dr (Z_13.2.1 5), bRumour E (G 6) (Z_13.2.1 6), bIm E G (Z_13.2.1 7), bNow E (G 8) (G 10) e1 (Z_13.2.1 8), bNow E (G 9) (G 11) e2 (Z_13.2.1 9), bScene E (G 10) (Z_13.2.1 10), bScene E (G 11) (Z_13.2.1 11), bPool E e_12 (Z_13.2.2 0), bPool E e1 (Z_13.2.2 1), bPool E e2 (Z_13.2.2 2)]) [3, 0, 1, 2, 4, 5, 6, 7, 8, 9, 10, 11, 12, 13, 14] rfl rfl (by decide)
          refine g_i (g_runV (As := [.int x1, .int x2]) (rest := []) ⟨hx, hb, hml, hown, ht⟩ hE (c_X3_giveCode E l (G 3) (Z_13.2.1 3) x1 x2 _ h) ⟨rfl, rfl⟩ wk_X5_153 wi_X3_giveCode ws_X3_giveCode wn_X3 wc_X3_giveCode yd_X3_giveCode ⟨Nat.le_of_ble_eq_true rfl, Nat.le_of_ble_eq_true rfl⟩ hP hD p1 (ci := 3) rfl rfl rfl rfl rfl hl.1 rfl (lv_room (Nat.le_of_ble_eq_true rfl)) dX5_changes_57 ⟨Nat.zero_le _, Nat.zero_le _⟩) hP hD hS p1 (fun r_14 S_15 w H locs h hw hP hD hS => ?_)
          subst hw
          clear p1
          have p2 := gB (n := 15) (bs := [bGC G (pl 99) (dr 99) Z_13.1, bText E (G 1) (Z_13.2.1 1), bNow E (G 2) (G 3) e_12 (Z_13.2.1 2), bScene E (G 3) S_15, bPlan E pl (Z_13.2.1 4), bPlan E dr (Z_13.2.1 5), bRumour E (G 6) (Z_13.2.1 6), bIm E G (Z_13.2.1 7), bNow E (G 8) (G 10) e1 (Z_13.2.1 8), bNow E (G 9) (G 11) e2 (Z_13.2.1 9), bScene E (G 10) (Z_13.2.1 10), bScene E (G 11) (Z_13.2.1 11), bPool E e_12 (Z_13.2.2 0), bPool E e1 (Z_13.2.2 1), bPool E e2 (Z_13.2.2 2)]) (bc := [bScene E (G 3) S_15]) (br := [bGC G (pl 99) (dr 99) Z_13.1, bText E (G 1) (Z_13.2.1 1), bNow E (G 2) (G 3) e_12 (Z_13.2.1 2), bPlan E pl (Z_13.2.1 4), bPlan E dr (Z_13.2.1 5), bRumour E (G 6) (Z_13.2.1 6), bIm E G (Z_13.2.1 7), bNow E (G 8) (G 10) e1 (Z_13.2.1 8), bNow E (G 9) (G 11) e2 (Z_13.2.1 9), bScene E (G 10) (Z_13.2.1 10), bScene E (G 11) (Z_13.2.1 11), bPool E e_12 (Z_13.2.2 0), bPool E e1 (Z_13.2.2 1), bPool E e2 (Z_13.2.2 2)]) [3, 0, 1, 2, 4, 5, 6, 7, 8, 9, 10, 11, 12, 13, 14] rfl rfl (by decide)
          have hP := gP_perm p2.symm hP
          have hD := gD_perm p2.symm hD
          clear p2
          obtain ⟨Z_16, eZ_16⟩ : ∃ z : GC, z = (gx Z_13 3 S_15) := ⟨_, rfl⟩
          have h := h Z_16 eZ_16
          have hP : gP E (gcW E G pl dr e_12 e1 e2 Z_16) H := by rw [eZ_16]; exact hP
          have hD : va_D A (gcW E G pl dr e_12 e1 e2 Z_16) := by rw [eZ_16]; exact hD
          exact hret r_14 Z_16 _ _ _ _ _ h ⟨_, _, _, rfl⟩ hP hD hS dX5_changes_60
        · have h := h.2 c_8
          refine lv_bipush (v := (-2)) hx hb dX5_changes_44 (by decide) ?_
          exact hret (-2) Z0 _ _ _ _ _ h ⟨_, _, _, rfl⟩ hP hD hS dX5_changes_46
    · have h := h.2 c_4
      refine lv_iconst (v := (-1)) hx hb dX5_changes_15 (by decide) ?_
      exact hret (-1) Z0 _ _ _ _ _ h ⟨_, _, _, rfl⟩ hP hD hS dX5_changes_16
theorem dX5_tries_0 : decode cX5_tries 0 = .ok (.aload_n 0, 1) := by decide +kernel
theorem dX5_tries_1 : decode cX5_tries 1 = .ok (.iload_n 1, 1) := by decide +kernel
theorem dX5_tries_2 : decode cX5_tries 2 = .ok (.invokevirtual 71, 3) := by decide +kernel
theorem dX5_tries_5 : decode cX5_tries 5 = .ok (.ifCond .eq 10, 3) := by decide +kernel
theorem dX5_tries_8 : decode cX5_tries 8 = .ok (.iload_n 2, 1) := by decide +kernel
theorem dX5_tries_9 : decode cX5_tries 9 = .ok (.invokestatic 136, 3) := by decide +kernel
theorem dX5_tries_12 : decode cX5_tries 12 = .ok (.ifCond .ne 5, 3) := by decide +kernel
theorem dX5_tries_15 : decode cX5_tries 15 = .ok (.iconst (-1), 1) := by decide +kernel
theorem dX5_tries_16 : decode cX5_tries 16 = .ok (.ireturn, 1) := by decide +kernel
theorem dX5_tries_17 : decode cX5_tries 17 = .ok (.aload_n 0, 1) := by decide +kernel
theorem dX5_tries_18 : decode cX5_tries 18 = .ok (.getfield 19, 3) := by decide +kernel
theorem dX5_tries_21 : decode cX5_tries 21 = .ok (.getfield 75, 3) := by decide +kernel
theorem dX5_tries_24 : decode cX5_tries 24 = .ok (.astore_n 3, 1) := by decide +kernel
theorem dX5_tries_25 : decode cX5_tries 25 = .ok (.aload_n 3, 1) := by decide +kernel
theorem dX5_tries_26 : decode cX5_tries 26 = .ok (.invokevirtual 119, 3) := by decide +kernel
theorem dX5_tries_29 : decode cX5_tries 29 = .ok (.ifCond .ne 11, 3) := by decide +kernel
theorem dX5_tries_32 : decode cX5_tries 32 = .ok (.aload_n 3, 1) := by decide +kernel
theorem dX5_tries_33 : decode cX5_tries 33 = .ok (.iload_n 1, 1) := by decide +kernel
theorem dX5_tries_34 : decode cX5_tries 34 = .ok (.invokevirtual 91, 3) := by decide +kernel
theorem dX5_tries_37 : decode cX5_tries 37 = .ok (.ifCond .ne 6, 3) := by decide +kernel
theorem dX5_tries_40 : decode cX5_tries 40 = .ok (.bipush (-2), 2) := by decide +kernel
theorem dX5_tries_42 : decode cX5_tries 42 = .ok (.ireturn, 1) := by decide +kernel
theorem dX5_tries_43 : decode cX5_tries 43 = .ok (.aload_n 0, 1) := by decide +kernel
theorem dX5_tries_44 : decode cX5_tries 44 = .ok (.getfield 19, 3) := by decide +kernel
theorem dX5_tries_47 : decode cX5_tries 47 = .ok (.invokevirtual 126, 3) := by decide +kernel
theorem dX5_tries_50 : decode cX5_tries 50 = .ok (.aload_n 3, 1) := by decide +kernel
theorem dX5_tries_51 : decode cX5_tries 51 = .ok (.getfield 85, 3) := by decide +kernel
theorem dX5_tries_54 : decode cX5_tries 54 = .ok (.iload_n 1, 1) := by decide +kernel
theorem dX5_tries_55 : decode cX5_tries 55 = .ok (.iload_n 2, 1) := by decide +kernel
theorem dX5_tries_56 : decode cX5_tries 56 = .ok (.iastore, 1) := by decide +kernel
theorem dX5_tries_57 : decode cX5_tries 57 = .ok (.iload_n 2, 1) := by decide +kernel
theorem dX5_tries_58 : decode cX5_tries 58 = .ok (.aload_n 3, 1) := by decide +kernel
theorem dX5_tries_59 : decode cX5_tries 59 = .ok (.getfield 79, 3) := by decide +kernel
theorem dX5_tries_62 : decode cX5_tries 62 = .ok (.iload_n 1, 1) := by decide +kernel
theorem dX5_tries_63 : decode cX5_tries 63 = .ok (.iaload, 1) := by decide +kernel
theorem dX5_tries_64 : decode cX5_tries 64 = .ok (.invokestatic 156, 3) := by decide +kernel
theorem dX5_tries_67 : decode cX5_tries 67 = .ok (.istore 4, 2) := by decide +kernel
theorem dX5_tries_69 : decode cX5_tries 69 = .ok (.iload 4, 2) := by decide +kernel
theorem dX5_tries_71 : decode cX5_tries 71 = .ok (.iconst 3, 1) := by decide +kernel
theorem dX5_tries_72 : decode cX5_tries 72 = .ok (.if_icmp .ne 8, 3) := by decide +kernel
theorem dX5_tries_75 : decode cX5_tries 75 = .ok (.aload_n 3, 1) := by decide +kernel
theorem dX5_tries_76 : decode cX5_tries 76 = .ok (.iload_n 1, 1) := by decide +kernel
theorem dX5_tries_77 : decode cX5_tries 77 = .ok (.putfield 129, 3) := by decide +kernel
theorem dX5_tries_80 : decode cX5_tries 80 = .ok (.iload 4, 2) := by decide +kernel
theorem dX5_tries_82 : decode cX5_tries 82 = .ok (.ireturn, 1) := by decide +kernel
set_option maxHeartbeats 4000000 in
set_option maxRecDepth 100000 in
theorem c_X5_tries (E : GE) (l : Launch) (G : Nat → Nat → Nat) (pl dr : Nat → Nat) (e0 e1 e2 : Nat → Nat → Nat) (Z0 : GC) (x1 : Int32) (x2 : Int32) (post : Int32 → GC → Prop) (h : wp_X5_tries Z0 x1 x2 post) : Met l yX5_tries (wz yX5_tries cX5_tries 5 (some .int)) { frames := 3, cells := 0, slots := 0, locals := 81 } (gPc E [.ref (G 0 99), .int x1, .int x2] (gcW E G pl dr e0 e1 e2 Z0)) (gQi E (gcW E G pl dr e0 e1 e2 Z0) (fun r (u : GC) => post r u) (fun (u : GC) w => ∃ (pl dr : Nat → Nat) (e0 : Nat → Nat → Nat), w = gcW E G pl dr e0 e1 e2 u)) 0 0 (gIn (gcW E G pl dr e0 e1 e2 Z0)) := by
  unfold wp_X5_tries at h
  refine g_of_i (by decide) (Nat.le_of_ble_eq_true rfl) ?_
  intro p e s m below meth c A Q hx hb hml hown ht hE hP hD hret ls hl
  have hK := hE.1
  have hS : va_S A s.heap s.heap [] := va_S.rf
  have hl : lv_has ls 5 [(0, .ref (G 0 99)), (1, .int x1), (2, .int x2)] := hl
  refine lv_aload_n hx hb dX5_tries_0 rfl (lv_at hl 0 rfl) ?_
  refine lv_iload_n hx hb dX5_tries_1 rfl (lv_at hl 1 rfl) ?_
  have p1 := gB (n := 15) (bs := [bGC G (pl 99) (dr 99) Z0.1, bText E (G 1) (Z0.2.1 1), bNow E (G 2) (G 3) e0 (Z0.2.1 2), bScene E (G 3) (Z0.2.1 3), bPlan E pl (Z0.2.1 4), bPlan E dr (Z0.2.1 5), bRumour E (G 6) (Z0.2.1 6), bIm E G (Z0.2.1 7), bNow E (G 8) (G 10) e1 (Z0.2.1 8), bNow E (G 9) (G 11) e2 (Z0.2.1 9), bScene E (G 10) (Z0.2.1 10), bScene E (G 11) (Z0.2.1 11), bPool E e0 (Z0.2.2 0), bPool E e1 (Z0.2.2 1), bPool E e2 (Z0.2.2 2)]) (bc := [bGC G (pl 99) (dr 99) Z0.1, bText E (G 1) (Z0.2.1 1), bNow E (G 2) (G 3) e0 (Z0.2.1 2), bScene E (G 3) (Z0.2.1 3), bPlan E pl (Z0.2.1 4), bPlan E dr (Z0.2.1 5), bRumour E (G 6) (Z0.2.1 6), bIm E G (Z0.2.1 7), bNow E (G 8) (G 10) e1 (Z0.2.1 8), bNow E (G 9) (G 11) e2 (Z0.2.1 9), bScene E (G 10) (Z0.2.1 10), bScene E (G 11) (Z0.2.1 11), bPool E e0 (Z0.2.2 0), bPool E e1 (Z0.2.2 1), bPool E e2 (Z0.2.2 2)]) (br := []) [0, 1, 2, 3, 4, 5, 6, 7, 8, 9, 10, 11, 12, 13, 14] rfl rfl (by decide)
  refine g_i (g_runV (As := [.int x1]) (rest := []) ⟨hx, hb, hml, hown, ht⟩ hE (c_X5_isLock E l G pl dr e0 e1 e2 Z0 x1 _ h) ⟨rfl, rfl⟩ wk_X5_71 wi_X5_isLock ws_X5_isLock wn_X5 wc_X5_isLock yd_X5_isLock ⟨Nat.le_of_ble_eq_true rfl, Nat.le_of_ble_eq_true rfl⟩ hP hD p1 (ci := 5) rfl rfl rfl rfl rfl hl.1 rfl (lv_room (Nat.le_of_ble_eq_true rfl)) dX5_tries_2 ⟨Nat.zero_le _, Nat.zero_le _⟩) hP hD hS p1 (fun r_1 _ w H locs h hw hP hD hS => ?_)
  subst hw
  clear p1
  have p2 := gB (n := 15) (bs := [bGC G (pl 99) (dr 99) Z0.1, bText E (G 1) (Z0.2.1 1), bNow E (G 2) (G 3) e0 (Z0.2.1 2), bScene E (G 3) (Z0.2.1 3), bPlan E pl (Z0.2.1 4), bPlan E dr (Z0.2.1 5), bRumour E (G 6) (Z0.2.1 6), bIm E G (Z0.2.1 7), bNow E (G 8) (G 10) e1 (Z0.2.1 8), bNow E (G 9) (G 11) e2 (Z0.2.1 9), bScene E (G 10) (Z0.2.1 10), bScene E (G 11) (Z0.2.1 11), bPool E e0 (Z0.2.2 0), bPool E e1 (Z0.2.2 1), bPool E e2 (Z0.2.2 2)]) (bc := [bGC G (pl 99) (dr 99) Z0.1, bText E (G 1) (Z0.2.1 1), bNow E (G 2) (G 3) e0 (Z0.2.1 2), bScene E (G 3) (Z0.2.1 3), bPlan E pl (Z0.2.1 4), bPlan E dr (Z0.2.1 5), bRumour E (G 6) (Z0.2.1 6), bIm E G (Z0.2.1 7), bNow E (G 8) (G 10) e1 (Z0.2.1 8), bNow E (G 9) (G 11) e2 (Z0.2.1 9), bScene E (G 10) (Z0.2.1 10), bScene E (G 11) (Z0.2.1 11), bPool E e0 (Z0.2.2 0), bPool E e1 (Z0.2.2 1), bPool E e2 (Z0.2.2 2)]) (br := []) [0, 1, 2, 3, 4, 5, 6, 7, 8, 9, 10, 11, 12, 13, 14] rfl rfl (by decide)
  have hP := gP_perm p2.symm hP
  have hD := gD_perm p2.symm hD
  clear p2
  have hP : gP E (gcW E G pl dr e0 e1 e2 Z0) H := hP
  have hD : va_D A (gcW E G pl dr e0 e1 e2 Z0) := hD
  refine lv_if_eq (tgt := 15) hx hb dX5_tries_5 (by decide) (fun c_2 => ?_) (fun c_2 => ?_)
  · have h := h.1 c_2
    refine lv_iconst (v := (-1)) hx hb dX5_tries_15 (by decide) ?_
    exact hret (-1) Z0 _ _ _ _ _ h ⟨_, _, _, rfl⟩ hP hD hS dX5_tries_16
  · have h := h.2 c_2
    refine lv_iload_n hx hb dX5_tries_8 rfl (lv_at hl 2 rfl) ?_
    have p1 := gB (n := 15) (bs := [bGC G (pl 99) (dr 99) Z0.1, bText E (G 1) (Z0.2.1 1), bNow E (G 2) (G 3) e0 (Z0.2.1 2), bScene E (G 3) (Z0.2.1 3), bPlan E pl (Z0.2.1 4), bPlan E dr (Z0.2.1 5), bRumour E (G 6) (Z0.2.1 6), bIm E G (Z0.2.1 7), bNow E (G 8) (G 10) e1 (Z0.2.1 8), bNow E (G 9) (G 11) e2 (Z0.2.1 9), bScene E (G 10) (Z0.2.1 10), bScene E (G 11) (Z0.2.1 11), bPool E e0 (Z0.2.2 0), bPool E e1 (Z0.2.2 1), bPool E e2 (Z0.2.2 2)]) (bc := []) (br := [bGC G (pl 99) (dr 99) Z0.1, bText E (G 1) (Z0.2.1 1), bNow E (G 2) (G 3) e0 (Z0.2.1 2), bScene E (G 3) (Z0.2.1 3), bPlan E pl (Z0.2.1 4), bPlan E dr (Z0.2.1 5), bRumour E (G 6) (Z0.2.1 6), bIm E G (Z0.2.1 7), bNow E (G 8) (G 10) e1 (Z0.2.1 8), bNow E (G 9) (G 11) e2 (Z0.2.1 9), bScene E (G 10) (Z0.2.1 10), bScene E (G 11) (Z0.2.1 11), bPool E e0 (Z0.2.2 0), bPool E e1 (Z0.2.2 1), bPool E e2 (Z0.2.2 2)]) [0, 1, 2, 3, 4, 5, 6, 7, 8, 9, 10, 11, 12, 13, 14] rfl rfl (by decide)
    refine g_i (g_runS (As := [.int x2]) (rest := []) ⟨hx, hb, hml, hown, ht⟩ hE (c_X5_isNumber E l x2 _ h) ⟨rfl, rfl⟩ wk_X5_136 wt_X5_isNumber wn_X5 wc_X5_isNumber yd_X5_isNumber ⟨Nat.le_of_ble_eq_true rfl, Nat.le_of_ble_eq_true rfl⟩ hP hD p1 rfl rfl hl.1 rfl (lv_room (Nat.le_of_ble_eq_true rfl)) dX5_tries_9 ⟨Nat.zero_le _, Nat.zero_le _⟩) hP hD hS p1 (fun r_3 _ w H locs h hw hP hD hS => ?_)
    subst hw
    clear p1
    have p2 := gB (n := 15) (bs := [bGC G (pl 99) (dr 99) Z0.1, bText E (G 1) (Z0.2.1 1), bNow E (G 2) (G 3) e0 (Z0.2.1 2), bScene E (G 3) (Z0.2.1 3), bPlan E pl (Z0.2.1 4), bPlan E dr (Z0.2.1 5), bRumour E (G 6) (Z0.2.1 6), bIm E G (Z0.2.1 7), bNow E (G 8) (G 10) e1 (Z0.2.1 8), bNow E (G 9) (G 11) e2 (Z0.2.1 9), bScene E (G 10) (Z0.2.1 10), bScene E (G 11) (Z0.2.1 11), bPool E e0 (Z0.2.2 0), bPool E e1 (Z0.2.2 1), bPool E e2 (Z0.2.2 2)]) (bc := []) (br := [bGC G (pl 99) (dr 99) Z0.1, bText E (G 1) (Z0.2.1 1), bNow E (G 2) (G 3) e0 (Z0.2.1 2), bScene E (G 3) (Z0.2.1 3), bPlan E pl (Z0.2.1 4), bPlan E dr (Z0.2.1 5), bRumour E (G 6) (Z0.2.1 6), bIm E G (Z0.2.1 7), bNow E (G 8) (G 10) e1 (Z0.2.1 8), bNow E (G 9) (G 11) e2 (Z0.2.1 9), bScene E (G 10) (Z0.2.1 10), bScene E (G 11) (Z0.2.1 11), bPool E e0 (Z0.2.2 0), bPool E e1 (Z0.2.2 1), bPool E e2 (Z0.2.2 2)]) [0, 1, 2, 3, 4, 5, 6, 7, 8, 9, 10, 11, 12, 13, 14] rfl rfl (by decide)
    have hP := gP_perm p2.symm hP
    have hD := gD_perm p2.symm hD
    clear p2
    have hP : gP E (gcW E G pl dr e0 e1 e2 Z0) H := hP
    have hD : va_D A (gcW E G pl dr e0 e1 e2 Z0) := hD
    refine lv_if_ne (tgt := 17) hx hb dX5_tries_12 (by decide) (fun c_4 => ?_) (fun c_4 => ?_)
    · have h := h.1 c_4
      refine lv_aload_n hx hb dX5_tries_17 rfl (lv_at hl 0 rfl) ?_
      refine va_get (D := (E.1, E.2.1)) (ci := 5) (v := .ref (G 2 99)) (C := RX5) (T := TX5) (N := 8) hx hb ht wu_X5 hown hK hP 0 rfl rfl 1 (by decide) (ht _ wk_X5_19) (fun _ h9 => h9) rfl dX5_tries_18 ?_
      refine va_get (D := (E.1, E.2.1)) (ci := 0) (v := .ref ((G 3) 99)) (C := RX0) (T := TX0) (N := 3) hx hb ht wu_X0 hown hK hP 3 rfl rfl 0 (by decide) (ht _ wk_X5_75) (fun _ h9 => h9) rfl dX5_tries_21 ?_
      refine lv_astore_n (lv' := [(3, .ref ((G 3) 99)), (0, .ref (G 0 99)), (1, .int x1), (2, .int x2)]) hx hb dX5_tries_24 rfl hl (by decide) rfl (fun ls hl => ?_)
      refine lv_aload_n hx hb dX5_tries_25 rfl (lv_at hl 0 rfl) ?_
      have p1 := gB (n := 15) (bs := [bGC G (pl 99) (dr 99) Z0.1, bText E (G 1) (Z0.2.1 1), bNow E (G 2) (G 3) e0 (Z0.2.1 2), bScene E (G 3) (Z0.2.1 3), bPlan E pl (Z0.2.1 4), bPlan E dr (Z0.2.1 5), bRumour E (G 6) (Z0.2.1 6), bIm E G (Z0.2.1 7), bNow E (G 8) (G 10) e1 (Z0.2.1 8), bNow E (G 9) (G 11) e2 (Z0.2.1 9), bScene E (G 10) (Z0.2.1 10), bScene E (G 11) (Z0.2.1 11), bPool E e0 (Z0.2.2 0), bPool E e1 (Z0.2.2 1), bPool E e2 (Z0.2.2 2)]) (bc := [bScene E (G 3) (Z0.2.1 3)]) (br := [bGC G (pl 99) (dr 99) Z0.1, bText E (G 1) (Z0.2.1 1), bNow E (G 2) (G 3) e0 (Z0.2.1 2), bPlan E pl (Z0.2.1 4), bPlan E dr (Z0.2.1 5), bRumour E (G 6) (Z0.2.1 6), bIm E G (Z0.2.1 7), bNow E (G 8) (G 10) e1 (Z0.2.1 8), bNow E (G 9) (G 11) e2 (Z0.2.1 9), bScene E (G 10) (Z0.2.1 10), bScene E (G 11) (Z0.2.1 11), bPool E e0 (Z0.2.2 0), bPool E e1 (Z0.2.2 1), bPool E e2 (Z0.2.2 2)]) [3, 0, 1, 2, 4, 5, 6, 7, 8, 9, 10, 11, 12, 13, 14] rfl rfl (by decide)
      refine g_i (g_runV (As := []) (rest := []) ⟨hx, hb, hml, hown, ht⟩ hE (c_X3_isOpen E l (G 3) (Z0.2.1 3) _ h) ⟨rfl, rfl⟩ wk_X5_119 wi_X3_isOpen ws_X3_isOpen wn_X3 wc_X3_isOpen yd_X3_isOpen ⟨Nat.le_of_ble_eq_true rfl, Nat.le_of_ble_eq_true rfl⟩ hP hD p1 (ci := 3) rfl rfl rfl rfl rfl hl.1 rfl (lv_room (Nat.le_of_ble_eq_true rfl)) dX5_tries_26 ⟨Nat.zero_le _, Nat.zero_le _⟩) hP hD hS p1 (fun r_5 _ w H locs h hw hP hD hS => ?_)
      subst hw
      clear p1
      have p2 := gB (n := 15) (bs := [bGC G (pl 99) (dr 99) Z0.1, bText E (G 1) (Z0.2.1 1), bNow E (G 2) (G 3) e0 (Z0.2.1 2), bScene E (G 3) (Z0.2.1 3), bPlan E pl (Z0.2.1 4), bPlan E dr (Z0.2.1 5), bRumour E (G 6) (Z0.2.1 6), bIm E G (Z0.2.1 7), bNow E (G 8) (G 10) e1 (Z0.2.1 8), bNow E (G 9) (G 11) e2 (Z0.2.1 9), bScene E (G 10) (Z0.2.1 10), bScene E (G 11) (Z0.2.1 11), bPool E e0 (Z0.2.2 0), bPool E e1 (Z0.2.2 1), bPool E e2 (Z0.2.2 2)]) (bc := [bScene E (G 3) (Z0.2.1 3)]) (br := [bGC G (pl 99) (dr 99) Z0.1, bText E (G 1) (Z0.2.1 1), bNow E (G 2) (G 3) e0 (Z0.2.1 2), bPlan E pl (Z0.2.1 4), bPlan E dr (Z0.2.1 5), bRumour E (G 6) (Z0.2.1 6), bIm E G (Z0.2.1 7), bNow E (G 8) (G 10) e1 (Z0.2.1 8), bNow E (G 9) (G 11) e2 (Z0.2.1 9), bScene E (G 10) (Z0.2.1 10), bScene E (G 11) (Z0.2.1 11), bPool E e0 (Z0.2.2 0), bPool E e1 (Z0.2.2 1), bPool E e2 (Z0.2.2 2)]) [3, 0, 1, 2, 4, 5, 6, 7, 8, 9, 10, 11, 12, 13, 14] rfl rfl (by decide)
      have hP := gP_perm p2.symm hP
      have hD := gD_perm p2.symm hD
      clear p2
      have hP : gP E (gcW E G pl dr e0 e1 e2 Z0) H := hP
      have hD : va_D A (gcW E G pl dr e0 e1 e2 Z0) := hD
      refine lv_if_ne (tgt := 40) hx hb dX5_tries_29 (by decide) (fun c_6 => ?_) (fun c_6 => ?_)
      · have h := h.1 c_6
        refine lv_bipush (v := (-2)) hx hb dX5_tries_40 (by decide) ?_
        exact hret (-2) Z0 _ _ _ _ _ h ⟨_, _, _, rfl⟩ hP hD hS dX5_tries_42
      · have h := h.2 c_6
        refine lv_aload_n hx hb dX5_tries_32 rfl (lv_at hl 0 rfl) ?_
        refine lv_iload_n hx hb dX5_tries_33 rfl (lv_at hl 2 rfl) ?_
        have p1 := gB (n := 15) (bs := [bGC G (pl 99) (dr 99) Z0.1, bText E (G 1) (Z0.2.1 1), bNow E (G 2) (G 3) e0 (Z0.2.1 2), bScene E (G 3) (Z0.2.1 3), bPlan E pl (Z0.2.1 4), bPlan E dr (Z0.2.1 5), bRumour E (G 6) (Z0.2.1 6), bIm E G (Z0.2.1 7), bNow E (G 8) (G 10) e1 (Z0.2.1 8), bNow E (G 9) (G 11) e2 (Z0.2.1 9), bScene E (G 10) (Z0.2.1 10), bScene E (G 11) (Z0.2.1 11), bPool E e0 (Z0.2.2 0), bPool E e1 (Z0.2.2 1), bPool E e2 (Z0.2.2 2)]) (bc := [bScene E (G 3) (Z0.2.1 3)]) (br := [bGC G (pl 99) (dr 99) Z0.1, bText E (G 1) (Z0.2.1 1), bNow E (G 2) (G 3) e0 (Z0.2.1 2), bPlan E pl (Z0.2.1 4), bPlan E dr (Z0.2.1 5), bRumour E (G 6) (Z0.2.1 6), bIm E G (Z0.2.1 7), bNow E (G 8) (G 10) e1 (Z0.2.1 8), bNow E (G 9) (G 11) e2 (Z0.2.1 9), bScene E (G 10) (Z0.2.1 10), bScene E (G 11) (Z0.2.1 11), bPool E e0 (Z0.2.2 0), bPool E e1 (Z0.2.2 1), bPool E e2 (Z0.2.2 2)]) [3, 0, 1, 2, 4, 5, 6, 7, 8, 9, 10, 11, 12, 13, 14] rfl rfl (by decide)
        refine g_i (g_runV (As := [.int x1]) (rest := []) ⟨hx, hb, hml, hown, ht⟩ hE (c_X3_inRing E l (G 3) (Z0.2.1 3) x1 _ h) ⟨rfl, rfl⟩ wk_X5_91 wi_X3_inRing ws_X3_inRing wn_X3 wc_X3_inRing yd_X3_inRing ⟨Nat.le_of_ble_eq_true rfl, Nat.le_of_ble_eq_true rfl⟩ hP hD p1 (ci := 3) rfl rfl rfl rfl rfl hl.1 rfl (lv_room (Nat.le_of_ble_eq_true rfl)) dX5_tries_34 ⟨Nat.zero_le _, Nat.zero_le _⟩) hP hD hS p1 (fun r_7 _ w H locs h hw hP hD hS => ?_)
        subst hw
        clear p1
        have p2 := gB (n := 15) (bs := [bGC G (pl 99) (dr 99) Z0.1, bText E (G 1) (Z0.2.1 1), bNow E (G 2) (G 3) e0 (Z0.2.1 2), bScene E (G 3) (Z0.2.1 3), bPlan E pl (Z0.2.1 4), bPlan E dr (Z0.2.1 5), bRumour E (G 6) (Z0.2.1 6), bIm E G (Z0.2.1 7), bNow E (G 8) (G 10) e1 (Z0.2.1 8), bNow E (G 9) (G 11) e2 (Z0.2.1 9), bScene E (G 10) (Z0.2.1 10), bScene E (G 11) (Z0.2.1 11), bPool E e0 (Z0.2.2 0), bPool E e1 (Z0.2.2 1), bPool E e2 (Z0.2.2 2)]) (bc := [bScene E (G 3) (Z0.2.1 3)]) (br := [bGC G (pl 99) (dr 99) Z0.1, bText E (G 1) (Z0.2.1 1), bNow E (G 2) (G 3) e0 (Z0.2.1 2), bPlan E pl (Z0.2.1 4), bPlan E dr (Z0.2.1 5), bRumour E (G 6) (Z0.2.1 6), bIm E G (Z0.2.1 7), bNow E (G 8) (G 10) e1 (Z0.2.1 8), bNow E (G 9) (G 11) e2 (Z0.2.1 9), bScene E (G 10) (Z0.2.1 10), bScene E (G 11) (Z0.2.1 11), bPool E e0 (Z0.2.2 0), bPool E e1 (Z0.2.2 1), bPool E e2 (Z0.2.2 2)]) [3, 0, 1, 2, 4, 5, 6, 7, 8, 9, 10, 11, 12, 13, 14] rfl rfl (by decide)
        have hP := gP_perm p2.symm hP
        have hD := gD_perm p2.symm hD
        clear p2
        have hP : gP E (gcW E G pl dr e0 e1 e2 Z0) H := hP
        have hD : va_D A (gcW E G pl dr e0 e1 e2 Z0) := hD
        refine lv_if_ne (tgt := 43) hx hb dX5_tries_37 (by decide) (fun c_8 => ?_) (fun c_8 => ?_)
        · have h := h.1 c_8
          refine lv_aload_n hx hb dX5_tries_43 rfl (lv_at hl 1 rfl) ?_
          refine va_get (D := (E.1, E.2.1)) (ci := 5) (v := .ref (G 2 99)) (C := RX5) (T := TX5) (N := 8) hx hb ht wu_X5 hown hK hP 0 rfl rfl 1 (by decide) (ht _ wk_X5_19) (fun _ h9 => h9) rfl dX5_tries_44 ?_
          have p1 := gB (n := 15) (bs := [bGC G (pl 99) (dr 99) Z0.1, bText E (G 1) (Z0.2.1 1), bNow E (G 2) (G 3) e0 (Z0.2.1 2), bScene E (G 3) (Z0.2.1 3), bPlan E pl (Z0.2.1 4), bPlan E dr (Z0.2.1 5), bRumour E (G 6) (Z0.2.1 6), bIm E G (Z0.2.1 7), bNow E (G 8) (G 10) e1 (Z0.2.1 8), bNow E (G 9) (G 11) e2 (Z0.2.1 9), bScene E (G 10) (Z0.2.1 10), bScene E (G 11) (Z0.2.1 11), bPool E e0 (Z0.2.2 0), bPool E e1 (Z0.2.2 1), bPool E e2 (Z0.2.2 2)]) (bc := [bNow E (G 2) (G 3) e0 (Z0.2.1 2), bScene E (G 3) (Z0.2.1 3), bPool E e0 (Z0.2.2 0)]) (br := [bGC G (pl 99) (dr 99) Z0.1, bText E (G 1) (Z0.2.1 1), bPlan E pl (Z0.2.1 4), bPlan E dr (Z0.2.1 5), bRumour E (G 6) (Z0.2.1 6), bIm E G (Z0.2.1 7), bNow E (G 8) (G 10) e1 (Z0.2.1 8), bNow E (G 9) (G 11) e2 (Z0.2.1 9), bScene E (G 10) (Z0.2.1 10), bScene E (G 11) (Z0.2.1 11), bPool E e1 (Z0.2.2 1), bPool E e2 (Z0.2.2 2)]) [2, 3, 12, 0, 1, 4, 5, 6, 7, 8, 9, 10, 11, 13, 14] rfl rfl (by decide)
          refine g_v (g_runV (As := []) (rest := []) ⟨hx, hb, hml, hown, ht⟩ hE (c_X0_remember E l (G 2) (G 3) e0 (Z0.2.1 2) (Z0.2.1 3) (Z0.2.2 0) _ h) ⟨rfl, rfl⟩ wk_X5_126 wi_X0_remember ws_X0_remember wn_X0 wc_X0_remember yd_X0_remember ⟨Nat.le_of_ble_eq_true rfl, Nat.le_of_ble_eq_true rfl⟩ hP hD p1 (ci := 0) rfl rfl rfl rfl rfl hl.1 rfl (lv_room (Nat.le_of_ble_eq_true rfl)) dX5_tries_47 ⟨Nat.zero_le _, Nat.zero_le _⟩) hP hD hS p1 (fun u w H locs h hw hP hD hS => ?_)
          obtain ⟨S_9, S_10, O_11⟩ := u
          obtain ⟨e_12, rfl⟩ := hw
          clear p1
          have p2 := gB (n := 15) (bs := [bGC G (pl 99) (dr 99) Z0.1, bText E (G 1) (Z0.2.1 1), bNow E (G 2) (G 3) e_12 S_9, bScene E (G 3) S_10, bPlan E pl (Z0.2.1 4), bPlan E dr (Z0.2.1 5), bRumour E (G 6) (Z0.2.1 6), bIm E G (Z0.2.1 7), bNow E (G 8) (G 10) e1 (Z0.2.1 8), bNow E (G 9) (G 11) e2 (Z0.2.1 9), bScene E (G 10) (Z0.2.1 10), bScene E (G 11) (Z0.2.1 11), bPool E e_12 O_11, bPool E e1 (Z0.2.2 1), bPool E e2 (Z0.2.2 2)]) (bc := [bNow E (G 2) (G 3) e_12 S_9, bScene E (G 3) S_10, bPool E e_12 O_11]) (br := [bGC G (pl 99) (dr 99) Z0.1, bText E (G 1) (Z0.2.1 1), bPlan E pl (Z0.2.1 4), bPlan E dr (Z0.2.1 5), bRumour E (G 6) (Z0.2.1 6), bIm E G (Z0.2.1 7), bNow E (G 8) (G 10) e1 (Z0.2.1 8), bNow E (G 9) (G 11) e2 (Z0.2.1 9), bScene E (G 10) (Z0.2.1 10), bScene E (G 11) (Z0.2.1 11), bPool E e1 (Z0.2.2 1), bPool E e2 (Z0.2.2 2)]) [2, 3, 12, 0, 1, 4, 5, 6, 7, 8, 9, 10, 11, 13, 14] rfl rfl (by decide)
          have hP := gP_perm p2.symm hP
          have hD := gD_perm p2.symm hD
          clear p2
          obtain ⟨Z_13, eZ_13⟩ : ∃ z : GC, z = (gpo (gx (gx Z0 2 S_9) 3 S_10) 0 O_11) := ⟨_, rfl⟩
          have h := h Z_13 eZ_13
          have hP : gP E (gcW E G pl dr e_12 e1 e2 Z_13) H := by rw [eZ_13]; exact hP
          have hD : va_D A (gcW E G pl dr e_12 e1 e2 Z_13) := by rw [eZ_13]; exact hD
          refine lv_aload_n hx hb dX5_tries_50 rfl (lv_at hl 0 rfl) ?_
          refine va_get (D := (E.1, E.2.1)) (ci := 3) (v := .ref ((G 3) 1)) (C := RX3) (T := TX3) (N := 5) hx hb ht wu_X3 hown hK hP 5 rfl rfl 1 (by decide) (ht _ wk_X5_85) (fun _ h9 => h9) rfl dX5_tries_51 ?_
          refine lv_iload_n hx hb dX5_tries_54 rfl (lv_at hl 2 rfl) ?_
          refine lv_iload_n hx hb dX5_tries_55 rfl (lv_at hl 3 rfl) ?_
          refine va_iast hx hb hK hP hD hS 7 0 rfl rfl h.1 dX5_tries_56 (fun H locs hP hD hS => ?_)
          have h := h.2
          have hP : gP E (gcW E G pl dr e_12 e1 e2 (gx Z_13 3 (pa (Z_13.2.1 3) 1 (x1.toNatClampNeg) x2))) H := hP
          have hD : va_D A (gcW E G pl dr e_12 e1 e2 (gx Z_13 3 (pa (Z_13.2.1 3) 1 (x1.toNatClampNeg) x2))) := hD
          obtain ⟨Z_14, eZ_14⟩ : ∃ z : GC, z = (gx Z_13 3 (pa (Z_13.2.1 3) 1 (x1.toNatClampNeg) x2)) := ⟨_, rfl⟩
          have h := h Z_14 eZ_14
          have hP : gP E (gcW E G pl dr e_12 e1 e2 Z_14) H := by rw [eZ_14]; exact hP
          have hD : va_D A (gcW E G pl dr e_12 e1 e2 Z_14) := by rw [eZ_14]; exact hD
          refine lv_iload_n hx hb dX5_tries_57 rfl (lv_at hl 3 rfl) ?_
          refine lv_aload_n hx hb dX5_tries_58 rfl (lv_at hl 0 rfl) ?_
          refine va_get (D := (E.1, E.2.1)) (ci := 3) (v := .ref ((G 3) 0)) (C := RX3) (T := TX3) (N := 5) hx hb ht wu_X3 hown hK hP 5 rfl rfl 0 (by decide) (ht _ wk_X5_79) (fun _ h9 => h9) rfl dX5_tries_59 ?_
          refine lv_iload_n hx hb dX5_tries_62 rfl (lv_at hl 2 rfl) ?_
          refine va_iald hx hb hK hP 6 0 rfl rfl h.1 dX5_tries_63 ?_
          have h := h.2
          have p1 := gB (n := 15) (bs := [bGC G (pl 99) (dr 99) Z_14.1, bText E (G 1) (Z_14.2.1 1), bNow E (G 2) (G 3) e_12 (Z_14.2.1 2), bScene E (G 3) (Z_14.2.1 3), bPlan E pl (Z_14.2.1 4), bPlan E dr (Z_14.2.1 5), bRumour E (G 6) (Z_14.2.1 6), bIm E G (Z_14.2.1 7), bNow E (G 8) (G 10) e1 (Z_14.2.1 8), bNow E (G 9) (G 11) e2 (Z_14.2.1 9), bScene E (G 10) (Z_14.2.1 10), bScene E (G 11) (Z_14.2.1 11), bPool E e_12 (Z_14.2.2 0), bPool E e1 (Z_14.2.2 1), bPool E e2 (Z_14.2.2 2)]) (bc := []) (br := [bGC G (pl 99) (dr 99) Z_14.1, bText E (G 1) (Z_14.2.1 1), bNow E (G 2) (G 3) e_12 (Z_14.2.1 2), bScene E (G 3) (Z_14.2.1 3), bPlan E pl (Z_14.2.1 4), bPlan E dr (Z_14.2.1 5), bRumour E (G 6) (Z_14.2.1 6), bIm E G (Z_14.2.1 7), bNow E (G 8) (G 10) e1 (Z_14.2.1 8), bNow E (G 9) (G 11) e2 (Z_14.2.1 9), bScene E (G 10) (Z_14.2.1 10), bScene E (G 11) (Z_14.2.1 11), bPool E e_12 (Z_14.2.2 0), bPool E e1 (Z_14.2.2 1), bPool E e2 (Z_14.2.2 2)]) [0, 1, 2, 3, 4, 5, 6, 7, 8, 9, 10, 11, 12, 13, 14] rfl rfl (by decide)
          refine g_i (g_runS (As := [.int x2, .int ((Z_14.2.1 3).2 0 x1.toNatClampNeg)]) (rest := []) ⟨hx, hb, hml, hown, ht⟩ hE (c_X5_rightWheels E l x2 ((Z_14.2.1 3).2 0 x1.toNatClampNeg) _ h) ⟨rfl, rfl⟩ wk_X5_156 wt_X5_rightWheels wn_X5 wc_X5_rightWheels yd_X5_rightWheels ⟨Nat.le_of_ble_eq_true rfl, Nat.le_of_ble_eq_true rfl⟩ hP hD p1 rfl rfl hl.1 rfl (lv_room (Nat.le_of_ble_eq_true rfl)) dX5_tries_64 ⟨Nat.zero_le _, Nat.zero_le _⟩) hP hD hS p1 (fun r_15 _ w H locs h hw hP hD hS => ?_)
          subst hw
          clear p1
          have p2 := gB (n := 15) (bs := [bGC G (pl 99) (dr 99) Z_14.1, bText E (G 1) (Z_14.2.1 1), bNow E (G 2) (G 3) e_12 (Z_14.2.1 2), bScene E (G 3) (Z_14.2.1 3), bPlan E pl (Z_14.2.1 4), bPlan E dr (Z_14.2.1 5), bRumour E (G 6) (Z_14.2.1 6), bIm E G (Z_14.2.1 7), bNow E (G 8) (G 10) e1 (Z_14.2.1 8), bNow E (G 9) (G 11) e2 (Z_14.2.1 9), bScene E (G 10) (Z_14.2.1 10), bScene E (G 11) (Z_14.2.1 11), bPool E e_12 (Z_14.2.2 0), bPool E e1 (Z_14.2.2 1), bPool E e2 (Z_14.2.2 2)]) (bc := []) (br := [bGC G (pl 99) (dr 99) Z_14.1, bText E (G 1) (Z_14.2.1 1), bNow E (G 2) (G 3) e_12 (Z_14.2.1 2), bScene E (G 3) (Z_14.2.1 3), bPlan E pl (Z_14.2.1 4), bPlan E dr (Z_14.2.1 5), bRumour E (G 6) (Z_14.2.1 6), bIm E G (Z_14.2.1 7), bNow E (G 8) (G 10) e1 (Z_14.2.1 8), bNow E (G 9) (G 11) e2 (Z_14.2.1 9), bScene E (G 10) (Z_14.2.1 10), bScene E (G 11) (Z_14.2.1 11), bPool E e_12 (Z_14.2.2 0), bPool E e1 (Z_14.2.2 1), bPool E e2 (Z_14.2.2 2)]) [0, 1, 2, 3, 4, 5, 6, 7, 8, 9, 10, 11, 12, 13, 14] rfl rfl (by decide)
          have hP := gP_perm p2.symm hP
          have hD := gD_perm p2.symm hD
          clear p2
          have hP : gP E (gcW E G pl dr e_12 e1 e2 Z_14) H := hP
          have hD : va_D A (gcW E G pl dr e_12 e1 e2 Z_14) := hD
          refine lv_istore (lv' := [(4, .int r_15), (3, .ref ((G 3) 99)), (0, .ref (G 0 99)), (1, .int x1), (2, .int x2)]) hx hb dX5_tries_67 hl (by decide) rfl (fun ls hl => ?_)
          refine lv_iload hx hb dX5_tries_69 (lv_at hl 0 rfl) ?_
          refine lv_iconst (v := 3) hx hb dX5_tries_71 (by decide) ?_
          refine lv_icmp_ne (tgt := 80) hx hb dX5_tries_72 (by decide) (fun c_16 => ?_) (fun c_16 => ?_)
          · have h := h.1 c_16
            refine lv_iload hx hb dX5_tries_80 (lv_at hl 0 rfl) ?_
            exact hret r_15 Z_14 _ _ _ _ _ h ⟨_, _, _, rfl⟩ hP hD hS dX5_tries_82
          · have h := h.2 c_16
            refine lv_aload_n hx hb dX5_tries_75 rfl (lv_at hl 1 rfl) ?_
            refine lv_iload_n hx hb dX5_tries_76 rfl (lv_at hl 3 rfl) ?_
            refine va_put (D := (E.1, E.2.1)) (ci := 3) (v := .int x1) (ty := .int) (C := RX3) (T := TX3) (N := 5) hx hb ht wu_X3 tyX3 tyX3_ok nmX3 hown hK hP hD hS 5 rfl rfl 4 (by decide) (ht _ wk_X5_129) (fun _ h9 => h9) rfl (by decide +kernel) rfl rfl (Nat.le_of_ble_eq_true rfl) dX5_tries_77 (fun H locs hP hD hS => ?_)
            have hP : gP E (gcW E G pl dr e_12 e1 e2 (gx Z_14 3 (pf (Z_14.2.1 3) 4 x1))) H := hP
            have hD : va_D A (gcW E G pl dr e_12 e1 e2 (gx Z_14 3 (pf (Z_14.2.1 3) 4 x1))) := hD
            obtain ⟨Z_17, eZ_17⟩ : ∃ z : GC, z = (gx Z_14 3 (pf (Z_14.2.1 3) 4 x1)) := ⟨_, rfl⟩
            have h := h Z_17 eZ_17
            have hP : gP E (gcW E G pl dr e_12 e1 e2 Z_17) H := by rw [eZ_17]; exact hP
            have hD : va_D A (gcW E G pl dr e_12 e1 e2 Z_17) := by rw [eZ_17]; exact hD
            refine lv_iload hx hb dX5_tries_80 (lv_at hl 0 rfl) ?_
            exact hret r_15 Z_17 _ _ _ _ _ h ⟨_, _, _, rfl⟩ hP hD hS dX5_tries_82
        · have h := h.2 c_8
          refine lv_bipush (v := (-2)) hx hb dX5_tries_40 (by decide) ?_
          exact hret (-2) Z0 _ _ _ _ _ h ⟨_, _, _, rfl⟩ hP hD hS dX5_tries_42
    · have h := h.2 c_4
      refine lv_iconst (v := (-1)) hx hb dX5_tries_15 (by decide) ?_
      exact hret (-1) Z0 _ _ _ _ _ h ⟨_, _, _, rfl⟩ hP hD hS dX5_tries_16
theorem dX5_undo_0 : decode cX5_undo 0 = .ok (.aload_n 0, 1) := by decide +kernel
theorem dX5_undo_1 : decode cX5_undo 1 = .ok (.getfield 19, 3) := by decide +kernel
theorem dX5_undo_4 : decode cX5_undo 4 = .ok (.getfield 159, 3) := by decide +kernel
theorem dX5_undo_7 : decode cX5_undo 7 = .ok (.ifCond .ne 6, 3) := by decide +kernel
theorem dX5_undo_10 : decode cX5_undo 10 = .ok (.bipush (-2), 2) := by decide +kernel
theorem dX5_undo_12 : decode cX5_undo 12 = .ok (.ireturn, 1) := by decide +kernel
theorem dX5_undo_13 : decode cX5_undo 13 = .ok (.aload_n 0, 1) := by decide +kernel
theorem dX5_undo_14 : decode cX5_undo 14 = .ok (.getfield 19, 3) := by decide +kernel
theorem dX5_undo_17 : decode cX5_undo 17 = .ok (.invokevirtual 162, 3) := by decide +kernel
theorem dX5_undo_20 : decode cX5_undo 20 = .ok (.aload_n 0, 1) := by decide +kernel
theorem dX5_undo_21 : decode cX5_undo 21 = .ok (.getfield 19, 3) := by decide +kernel
theorem dX5_undo_24 : decode cX5_undo 24 = .ok (.getfield 159, 3) := by decide +kernel
theorem dX5_undo_27 : decode cX5_undo 27 = .ok (.ireturn, 1) := by decide +kernel
set_option maxHeartbeats 4000000 in
set_option maxRecDepth 100000 in
theorem c_X5_undo (E : GE) (l : Launch) (G : Nat → Nat → Nat) (pl dr : Nat → Nat) (e0 e1 e2 : Nat → Nat → Nat) (Z0 : GC) (post : Int32 → GC → Prop) (h : wp_X5_undo Z0 post) : Met l yX5_undo (wz yX5_undo cX5_undo 1 (some .int)) { frames := 3, cells := 0, slots := 0, locals := 81 } (gPc E [.ref (G 0 99)] (gcW E G pl dr e0 e1 e2 Z0)) (gQi E (gcW E G pl dr e0 e1 e2 Z0) (fun r (u : GC) => post r u) (fun (u : GC) w => w = gcW E G pl dr e0 e1 e2 u)) 0 0 (gIn (gcW E G pl dr e0 e1 e2 Z0)) := by
  unfold wp_X5_undo at h
  refine g_of_i (by decide) (Nat.le_of_ble_eq_true rfl) ?_
  intro p e s m below meth c A Q hx hb hml hown ht hE hP hD hret ls hl
  have hK := hE.1
  have hS : va_S A s.heap s.heap [] := va_S.rf
  have hl : lv_has ls 1 [(0, .ref (G 0 99))] := hl
  refine lv_aload_n hx hb dX5_undo_0 rfl (lv_at hl 0 rfl) ?_
  refine va_get (D := (E.1, E.2.1)) (ci := 5) (v := .ref (G 2 99)) (C := RX5) (T := TX5) (N := 8) hx hb ht wu_X5 hown hK hP 0 rfl rfl 1 (by decide) (ht _ wk_X5_19) (fun _ h9 => h9) rfl dX5_undo_1 ?_
  refine va_get (D := (E.1, E.2.1)) (ci := 0) (v := .int ((Z0.2.1 2).1 2)) (C := RX0) (T := TX0) (N := 3) hx hb ht wu_X0 hown hK hP 3 rfl rfl 2 (by decide) (ht _ wk_X5_159) (fun _ h9 => h9) rfl dX5_undo_4 ?_
  refine lv_if_ne (tgt := 13) hx hb dX5_undo_7 (by decide) (fun c_1 => ?_) (fun c_1 => ?_)
  · have h := h.1 c_1
    refine lv_aload_n hx hb dX5_undo_13 rfl (lv_at hl 0 rfl) ?_
    refine va_get (D := (E.1, E.2.1)) (ci := 5) (v := .ref (G 2 99)) (C := RX5) (T := TX5) (N := 8) hx hb ht wu_X5 hown hK hP 0 rfl rfl 1 (by decide) (ht _ wk_X5_19) (fun _ h9 => h9) rfl dX5_undo_14 ?_
    have p1 := gB (n := 15) (bs := [bGC G (pl 99) (dr 99) Z0.1, bText E (G 1) (Z0.2.1 1), bNow E (G 2) (G 3) e0 (Z0.2.1 2), bScene E (G 3) (Z0.2.1 3), bPlan E pl (Z0.2.1 4), bPlan E dr (Z0.2.1 5), bRumour E (G 6) (Z0.2.1 6), bIm E G (Z0.2.1 7), bNow E (G 8) (G 10) e1 (Z0.2.1 8), bNow E (G 9) (G 11) e2 (Z0.2.1 9), bScene E (G 10) (Z0.2.1 10), bScene E (G 11) (Z0.2.1 11), bPool E e0 (Z0.2.2 0), bPool E e1 (Z0.2.2 1), bPool E e2 (Z0.2.2 2)]) (bc := [bNow E (G 2) (G 3) e0 (Z0.2.1 2), bScene E (G 3) (Z0.2.1 3), bPool E e0 (Z0.2.2 0)]) (br := [bGC G (pl 99) (dr 99) Z0.1, bText E (G 1) (Z0.2.1 1), bPlan E pl (Z0.2.1 4), bPlan E dr (Z0.2.1 5), bRumour E (G 6) (Z0.2.1 6), bIm E G (Z0.2.1 7), bNow E (G 8) (G 10) e1 (Z0.2.1 8), bNow E (G 9) (G 11) e2 (Z0.2.1 9), bScene E (G 10) (Z0.2.1 10), bScene E (G 11) (Z0.2.1 11), bPool E e1 (Z0.2.2 1), bPool E e2 (Z0.2.2 2)]) [2, 3, 12, 0, 1, 4, 5, 6, 7, 8, 9, 10, 11, 13, 14] rfl rfl (by decide)
    refine g_v (g_runV (As := []) (rest := []) ⟨hx, hb, hml, hown, ht⟩ hE (c_X0_takeBack E l (G 2) (G 3) e0 (Z0.2.1 2) (Z0.2.1 3) (Z0.2.2 0) _ h) ⟨rfl, rfl⟩ wk_X5_162 wi_X0_takeBack ws_X0_takeBack wn_X0 wc_X0_takeBack yd_X0_takeBack ⟨Nat.le_of_ble_eq_true rfl, Nat.le_of_ble_eq_true rfl⟩ hP hD p1 (ci := 0) rfl rfl rfl rfl rfl hl.1 rfl (lv_room (Nat.le_of_ble_eq_true rfl)) dX5_undo_17 ⟨Nat.zero_le _, Nat.zero_le _⟩) hP hD hS p1 (fun u w H locs h hw hP hD hS => ?_)
    obtain ⟨S_2, S_3, O_4⟩ := u
    subst hw
    clear p1
    have p2 := gB (n := 15) (bs := [bGC G (pl 99) (dr 99) Z0.1, bText E (G 1) (Z0.2.1 1), bNow E (G 2) (G 3) e0 S_2, bScene E (G 3) S_3, bPlan E pl (Z0.2.1 4), bPlan E dr (Z0.2.1 5), bRumour E (G 6) (Z0.2.1 6), bIm E G (Z0.2.1 7), bNow E (G 8) (G 10) e1 (Z0.2.1 8), bNow E (G 9) (G 11) e2 (Z0.2.1 9), bScene E (G 10) (Z0.2.1 10), bScene E (G 11) (Z0.2.1 11), bPool E e0 O_4, bPool E e1 (Z0.2.2 1), bPool E e2 (Z0.2.2 2)]) (bc := [bNow E (G 2) (G 3) e0 S_2, bScene E (G 3) S_3, bPool E e0 O_4]) (br := [bGC G (pl 99) (dr 99) Z0.1, bText E (G 1) (Z0.2.1 1), bPlan E pl (Z0.2.1 4), bPlan E dr (Z0.2.1 5), bRumour E (G 6) (Z0.2.1 6), bIm E G (Z0.2.1 7), bNow E (G 8) (G 10) e1 (Z0.2.1 8), bNow E (G 9) (G 11) e2 (Z0.2.1 9), bScene E (G 10) (Z0.2.1 10), bScene E (G 11) (Z0.2.1 11), bPool E e1 (Z0.2.2 1), bPool E e2 (Z0.2.2 2)]) [2, 3, 12, 0, 1, 4, 5, 6, 7, 8, 9, 10, 11, 13, 14] rfl rfl (by decide)
    have hP := gP_perm p2.symm hP
    have hD := gD_perm p2.symm hD
    clear p2
    obtain ⟨Z_5, eZ_5⟩ : ∃ z : GC, z = (gpo (gx (gx Z0 2 S_2) 3 S_3) 0 O_4) := ⟨_, rfl⟩
    have h := h Z_5 eZ_5
    have hP : gP E (gcW E G pl dr e0 e1 e2 Z_5) H := by rw [eZ_5]; exact hP
    have hD : va_D A (gcW E G pl dr e0 e1 e2 Z_5) := by rw [eZ_5]; exact hD
    refine lv_aload_n hx hb dX5_undo_20 rfl (lv_at hl 0 rfl) ?_
    refine va_get (D := (E.1, E.2.1)) (ci := 5) (v := .ref (G 2 99)) (C := RX5) (T := TX5) (N := 8) hx hb ht wu_X5 hown hK hP 0 rfl rfl 1 (by decide) (ht _ wk_X5_19) (fun _ h9 => h9) rfl dX5_undo_21 ?_
    refine va_get (D := (E.1, E.2.1)) (ci := 0) (v := .int ((Z_5.2.1 2).1 2)) (C := RX0) (T := TX0) (N := 3) hx hb ht wu_X0 hown hK hP 3 rfl rfl 2 (by decide) (ht _ wk_X5_159) (fun _ h9 => h9) rfl dX5_undo_24 ?_
    exact hret ((Z_5.2.1 2).1 2) Z_5 _ _ _ _ _ h rfl hP hD hS dX5_undo_27
  · have h := h.2 c_1
    refine lv_bipush (v := (-2)) hx hb dX5_undo_10 (by decide) ?_
    exact hret (-2) Z0 _ _ _ _ _ h rfl hP hD hS dX5_undo_12
theorem dX5_worstLock_0 : decode cX5_worstLock 0 = .ok (.bipush (-9), 2) := by decide +kernel
theorem dX5_worstLock_2 : decode cX5_worstLock 2 = .ok (.istore_n 1, 1) := by decide +kernel
theorem dX5_worstLock_3 : decode cX5_worstLock 3 = .ok (.iconst (-1), 1) := by decide +kernel
theorem dX5_worstLock_4 : decode cX5_worstLock 4 = .ok (.istore_n 2, 1) := by decide +kernel
theorem dX5_worstLock_5 : decode cX5_worstLock 5 = .ok (.iconst 0, 1) := by decide +kernel
theorem dX5_worstLock_6 : decode cX5_worstLock 6 = .ok (.istore_n 3, 1) := by decide +kernel
theorem dX5_worstLock_7 : decode cX5_worstLock 7 = .ok (.iload_n 3, 1) := by decide +kernel
theorem dX5_worstLock_8 : decode cX5_worstLock 8 = .ok (.aload_n 0, 1) := by decide +kernel
theorem dX5_worstLock_9 : decode cX5_worstLock 9 = .ok (.getfield 41, 3) := by decide +kernel
theorem dX5_worstLock_12 : decode cX5_worstLock 12 = .ok (.getfield 236, 3) := by decide +kernel
theorem dX5_worstLock_15 : decode cX5_worstLock 15 = .ok (.if_icmp .ge 50, 3) := by decide +kernel
theorem dX5_worstLock_18 : decode cX5_worstLock 18 = .ok (.aload_n 0, 1) := by decide +kernel
theorem dX5_worstLock_19 : decode cX5_worstLock 19 = .ok (.getfield 19, 3) := by decide +kernel
theorem dX5_worstLock_22 : decode cX5_worstLock 22 = .ok (.getfield 75, 3) := by decide +kernel
theorem dX5_worstLock_25 : decode cX5_worstLock 25 = .ok (.iload_n 3, 1) := by decide +kernel
theorem dX5_worstLock_26 : decode cX5_worstLock 26 = .ok (.invokevirtual 139, 3) := by decide +kernel
theorem dX5_worstLock_29 : decode cX5_worstLock 29 = .ok (.ifCond .eq 30, 3) := by decide +kernel
theorem dX5_worstLock_32 : decode cX5_worstLock 32 = .ok (.aload_n 0, 1) := by decide +kernel
theorem dX5_worstLock_33 : decode cX5_worstLock 33 = .ok (.getfield 19, 3) := by decide +kernel
theorem dX5_worstLock_36 : decode cX5_worstLock 36 = .ok (.getfield 75, 3) := by decide +kernel
theorem dX5_worstLock_39 : decode cX5_worstLock 39 = .ok (.iload_n 3, 1) := by decide +kernel
theorem dX5_worstLock_40 : decode cX5_worstLock 40 = .ok (.invokevirtual 174, 3) := by decide +kernel
theorem dX5_worstLock_43 : decode cX5_worstLock 43 = .ok (.invokestatic 183, 3) := by decide +kernel
theorem dX5_worstLock_46 : decode cX5_worstLock 46 = .ok (.istore 4, 2) := by decide +kernel
theorem dX5_worstLock_48 : decode cX5_worstLock 48 = .ok (.iload 4, 2) := by decide +kernel
theorem dX5_worstLock_50 : decode cX5_worstLock 50 = .ok (.iload_n 2, 1) := by decide +kernel
theorem dX5_worstLock_51 : decode cX5_worstLock 51 = .ok (.if_icmp .le 8, 3) := by decide +kernel
theorem dX5_worstLock_54 : decode cX5_worstLock 54 = .ok (.iload 4, 2) := by decide +kernel
theorem dX5_worstLock_56 : decode cX5_worstLock 56 = .ok (.istore_n 2, 1) := by decide +kernel
theorem dX5_worstLock_57 : decode cX5_worstLock 57 = .ok (.iload_n 3, 1) := by decide +kernel
theorem dX5_worstLock_58 : decode cX5_worstLock 58 = .ok (.istore_n 1, 1) := by decide +kernel
theorem dX5_worstLock_59 : decode cX5_worstLock 59 = .ok (.iinc 3 1, 3) := by decide +kernel
theorem dX5_worstLock_62 : decode cX5_worstLock 62 = .ok (.goto (-55), 3) := by decide +kernel
theorem dX5_worstLock_65 : decode cX5_worstLock 65 = .ok (.iload_n 1, 1) := by decide +kernel
theorem dX5_worstLock_66 : decode cX5_worstLock 66 = .ok (.ireturn, 1) := by decide +kernel
set_option maxHeartbeats 4000000 in
set_option maxRecDepth 100000 in
theorem c_X5_worstLock (E : GE) (l : Launch) (G : Nat → Nat → Nat) (pl dr : Nat → Nat) (e0 e1 e2 : Nat → Nat → Nat) (Z0 : GC) (post : Int32 → Prop) (h : wp_X5_worstLock Z0 post) : Met l yX5_worstLock (wz yX5_worstLock cX5_worstLock 5 (some .int)) { frames := 5, cells := 0, slots := 0, locals := 105 } (gPc E [.ref (G 0 99)] (gcW E G pl dr e0 e1 e2 Z0)) (gQi E (gcW E G pl dr e0 e1 e2 Z0) (fun r (_ : Unit) => post r) (fun (_ : Unit) w => w = gcW E G pl dr e0 e1 e2 Z0)) 0 0 (gIn (gcW E G pl dr e0 e1 e2 Z0)) := by
  unfold wp_X5_worstLock at h
  refine g_of_i (by decide) (Nat.le_of_ble_eq_true rfl) ?_
  intro p e s m below meth c A Q hx hb hml hown ht hE hP hD hret ls hl
  have hK := hE.1
  have hS : va_S A s.heap s.heap [] := va_S.rf
  have hl : lv_has ls 5 [(0, .ref (G 0 99))] := hl
  refine lv_bipush (v := (-9)) hx hb dX5_worstLock_0 (by decide) ?_
  refine lv_istore_n (lv' := [(1, .int (-9)), (0, .ref (G 0 99))]) hx hb dX5_worstLock_2 rfl hl (by decide) rfl (fun ls hl => ?_)
  refine lv_iconst (v := (-1)) hx hb dX5_worstLock_3 (by decide) ?_
  refine lv_istore_n (lv' := [(2, .int (-1)), (1, .int (-9)), (0, .ref (G 0 99))]) hx hb dX5_worstLock_4 rfl hl (by decide) rfl (fun ls hl => ?_)
  refine lv_iconst (v := 0) hx hb dX5_worstLock_5 (by decide) ?_
  refine lv_istore_n (lv' := [(3, .int 0), (2, .int (-1)), (1, .int (-9)), (0, .ref (G 0 99))]) hx hb dX5_worstLock_6 rfl hl (by decide) rfl (fun ls hl => ?_)
  have L7 : ∀ (n7 : Nat) (x1_7 : Int32) (x2_7 : Int32) (x3_7 : Int32) (H : Heap) (locs : List Loc) (ls : Array Slot), wp_X5_worstLock_L7 post Z0 n7 x1_7 x2_7 x3_7 → gP E (gcW E G pl dr e0 e1 e2 Z0) H → va_D A (gcW E G pl dr e0 e1 e2 Z0) → va_S A s.heap H locs → lv_has ls 5 [(0, .ref (G 0 99)), (1, .int x1_7), (2, .int x2_7), (3, .int x3_7)] → W p l e { frames := 5, cells := 0, slots := 0, locals := 105 } s m ([.ref (G 0 99)] : List Value).toArray below meth c H locs 0 0 Q (F0 m 7 ls []) := by
    intro n7
    induction n7 with
    | zero => intro x1_7 x2_7 x3_7 H locs ls h; exact h.elim
    | succ n7 ih7 =>
      intro x1_7 x2_7 x3_7 H locs ls h hP hD hS hl
      rw [wp_X5_worstLock_L7] at h
      refine lv_iload_n hx hb dX5_worstLock_7 rfl (lv_at hl 3 rfl) ?_
      refine lv_aload_n hx hb dX5_worstLock_8 rfl (lv_at hl 0 rfl) ?_
      refine va_get (D := (E.1, E.2.1)) (ci := 5) (v := .ref (pl 99)) (C := RX5) (T := TX5) (N := 8) hx hb ht wu_X5 hown hK hP 0 rfl rfl 5 (by decide) (ht _ wk_X5_41) (fun _ h9 => h9) rfl dX5_worstLock_9 ?_
      refine va_get (D := (E.1, E.2.1)) (ci := 1) (v := .int ((Z0.2.1 4).1 4)) (C := RX1) (T := TX1) (N := 5) hx hb ht wu_X1 hown hK hP 10 rfl rfl 4 (by decide) (ht _ wk_X5_236) (fun _ h9 => h9) rfl dX5_worstLock_12 ?_
      refine lv_icmp_ge (tgt := 65) hx hb dX5_worstLock_15 (by decide) (fun c_7 => ?_) (fun c_7 => ?_)
      · have h := h.1 c_7
        refine lv_iload_n hx hb dX5_worstLock_65 rfl (lv_at hl 1 rfl) ?_
        exact hret x1_7 () _ _ _ _ _ h rfl hP hD hS dX5_worstLock_66
      · have h := h.2 c_7
        refine lv_aload_n hx hb dX5_worstLock_18 rfl (lv_at hl 0 rfl) ?_
        refine va_get (D := (E.1, E.2.1)) (ci := 5) (v := .ref (G 2 99)) (C := RX5) (T := TX5) (N := 8) hx hb ht wu_X5 hown hK hP 0 rfl rfl 1 (by decide) (ht _ wk_X5_19) (fun _ h9 => h9) rfl dX5_worstLock_19 ?_
        refine va_get (D := (E.1, E.2.1)) (ci := 0) (v := .ref ((G 3) 99)) (C := RX0) (T := TX0) (N := 3) hx hb ht wu_X0 hown hK hP 3 rfl rfl 0 (by decide) (ht _ wk_X5_75) (fun _ h9 => h9) rfl dX5_worstLock_22 ?_
        refine lv_iload_n hx hb dX5_worstLock_25 rfl (lv_at hl 3 rfl) ?_
        have p1 := gB (n := 15) (bs := [bGC G (pl 99) (dr 99) Z0.1, bText E (G 1) (Z0.2.1 1), bNow E (G 2) (G 3) e0 (Z0.2.1 2), bScene E (G 3) (Z0.2.1 3), bPlan E pl (Z0.2.1 4), bPlan E dr (Z0.2.1 5), bRumour E (G 6) (Z0.2.1 6), bIm E G (Z0.2.1 7), bNow E (G 8) (G 10) e1 (Z0.2.1 8), bNow E (G 9) (G 11) e2 (Z0.2.1 9), bScene E (G 10) (Z0.2.1 10), bScene E (G 11) (Z0.2.1 11), bPool E e0 (Z0.2.2 0), bPool E e1 (Z0.2.2 1), bPool E e2 (Z0.2.2 2)]) (bc := [bScene E (G 3) (Z0.2.1 3)]) (br := [bGC G (pl 99) (dr 99) Z0.1, bText E (G 1) (Z0.2.1 1), bNow E (G 2) (G 3) e0 (Z0.2.1 2), bPlan E pl (Z0.2.1 4), bPlan E dr (Z0.2.1 5), bRumour E (G 6) (Z0.2.1 6), bIm E G (Z0.2.1 7), bNow E (G 8) (G 10) e1 (Z0.2.1 8), bNow E (G 9) (G 11) e2 (Z0.2.1 9), bScene E (G 10) (Z0.2.1 10), bScene E (G 11) (Z0.2.1 11), bPool E e0 (Z0.2.2 0), bPool E e1 (Z0.2.2 1), bPool E e2 (Z0.2.2 2)]) [3, 0, 1, 2, 4, 5, 6, 7, 8, 9, 10, 11, 12, 13, 14] rfl rfl (by decide)
        refine g_i (g_runV (As := [.int x3_7]) (rest := []) ⟨hx, hb, hml, hown, ht⟩ hE (c_X3_canShutOn E l (G 3) (Z0.2.1 3) x3_7 _ h) ⟨rfl, rfl⟩ wk_X5_139 wi_X3_canShutOn ws_X3_canShutOn wn_X3 wc_X3_canShutOn yd_X3_canShutOn ⟨Nat.le_of_ble_eq_true rfl, Nat.le_of_ble_eq_true rfl⟩ hP hD p1 (ci := 3) rfl rfl rfl rfl rfl hl.1 rfl (lv_room (Nat.le_of_ble_eq_true rfl)) dX5_worstLock_26 ⟨Nat.zero_le _, Nat.zero_le _⟩) hP hD hS p1 (fun r_8 _ w H locs h hw hP hD hS => ?_)
        subst hw
        clear p1
        have p2 := gB (n := 15) (bs := [bGC G (pl 99) (dr 99) Z0.1, bText E (G 1) (Z0.2.1 1), bNow E (G 2) (G 3) e0 (Z0.2.1 2), bScene E (G 3) (Z0.2.1 3), bPlan E pl (Z0.2.1 4), bPlan E dr (Z0.2.1 5), bRumour E (G 6) (Z0.2.1 6), bIm E G (Z0.2.1 7), bNow E (G 8) (G 10) e1 (Z0.2.1 8), bNow E (G 9) (G 11) e2 (Z0.2.1 9), bScene E (G 10) (Z0.2.1 10), bScene E (G 11) (Z0.2.1 11), bPool E e0 (Z0.2.2 0), bPool E e1 (Z0.2.2 1), bPool E e2 (Z0.2.2 2)]) (bc := [bScene E (G 3) (Z0.2.1 3)]) (br := [bGC G (pl 99) (dr 99) Z0.1, bText E (G 1) (Z0.2.1 1), bNow E (G 2) (G 3) e0 (Z0.2.1 2), bPlan E pl (Z0.2.1 4), bPlan E dr (Z0.2.1 5), bRumour E (G 6) (Z0.2.1 6), bIm E G (Z0.2.1 7), bNow E (G 8) (G 10) e1 (Z0.2.1 8), bNow E (G 9) (G 11) e2 (Z0.2.1 9), bScene E (G 10) (Z0.2.1 10), bScene E (G 11) (Z0.2.1 11), bPool E e0 (Z0.2.2 0), bPool E e1 (Z0.2.2 1), bPool E e2 (Z0.2.2 2)]) [3, 0, 1, 2, 4, 5, 6, 7, 8, 9, 10, 11, 12, 13, 14] rfl rfl (by decide)
        have hP := gP_perm p2.symm hP
        have hD := gD_perm p2.symm hD
        clear p2
        have hP : gP E (gcW E G pl dr e0 e1 e2 Z0) H := hP
        have hD : va_D A (gcW E G pl dr e0 e1 e2 Z0) := hD
        refine lv_if_eq (tgt := 59) hx hb dX5_worstLock_29 (by decide) (fun c_9 => ?_) (fun c_9 => ?_)
        · have h := h.1 c_9
          refine lv_iinc (v := (x3_7 + 1)) (lv' := [(3, .int (x3_7 + 1)), (0, .ref (G 0 99)), (1, .int x1_7), (2, .int x2_7)]) hx hb dX5_worstLock_59 hl (k := 3) rfl rfl (by decide) rfl (fun ls hl => ?_)
          refine lv_goto (tgt := 7) hx hb dX5_worstLock_62 (by decide) ?_
          exact ih7 x1_7 x2_7 (x3_7 + 1) _ _ _ h hP hD hS (lv_sub hl [1, 2, 3, 0] rfl)
        · have h := h.2 c_9
          refine lv_aload_n hx hb dX5_worstLock_32 rfl (lv_at hl 0 rfl) ?_
          refine va_get (D := (E.1, E.2.1)) (ci := 5) (v := .ref (G 2 99)) (C := RX5) (T := TX5) (N := 8) hx hb ht wu_X5 hown hK hP 0 rfl rfl 1 (by decide) (ht _ wk_X5_19) (fun _ h9 => h9) rfl dX5_worstLock_33 ?_
          refine va_get (D := (E.1, E.2.1)) (ci := 0) (v := .ref ((G 3) 99)) (C := RX0) (T := TX0) (N := 3) hx hb ht wu_X0 hown hK hP 3 rfl rfl 0 (by decide) (ht _ wk_X5_75) (fun _ h9 => h9) rfl dX5_worstLock_36 ?_
          refine lv_iload_n hx hb dX5_worstLock_39 rfl (lv_at hl 3 rfl) ?_
          have p1 := gB (n := 15) (bs := [bGC G (pl 99) (dr 99) Z0.1, bText E (G 1) (Z0.2.1 1), bNow E (G 2) (G 3) e0 (Z0.2.1 2), bScene E (G 3) (Z0.2.1 3), bPlan E pl (Z0.2.1 4), bPlan E dr (Z0.2.1 5), bRumour E (G 6) (Z0.2.1 6), bIm E G (Z0.2.1 7), bNow E (G 8) (G 10) e1 (Z0.2.1 8), bNow E (G 9) (G 11) e2 (Z0.2.1 9), bScene E (G 10) (Z0.2.1 10), bScene E (G 11) (Z0.2.1 11), bPool E e0 (Z0.2.2 0), bPool E e1 (Z0.2.2 1), bPool E e2 (Z0.2.2 2)]) (bc := [bScene E (G 3) (Z0.2.1 3)]) (br := [bGC G (pl 99) (dr 99) Z0.1, bText E (G 1) (Z0.2.1 1), bNow E (G 2) (G 3) e0 (Z0.2.1 2), bPlan E pl (Z0.2.1 4), bPlan E dr (Z0.2.1 5), bRumour E (G 6) (Z0.2.1 6), bIm E G (Z0.2.1 7), bNow E (G 8) (G 10) e1 (Z0.2.1 8), bNow E (G 9) (G 11) e2 (Z0.2.1 9), bScene E (G 10) (Z0.2.1 10), bScene E (G 11) (Z0.2.1 11), bPool E e0 (Z0.2.2 0), bPool E e1 (Z0.2.2 1), bPool E e2 (Z0.2.2 2)]) [3, 0, 1, 2, 4, 5, 6, 7, 8, 9, 10, 11, 12, 13, 14] rfl rfl (by decide)
          refine g_i (g_runV (As := [.int x3_7]) (rest := []) ⟨hx, hb, hml, hown, ht⟩ hE (c_X3_leftBy E l (G 3) (Z0.2.1 3) x3_7 _ h) ⟨rfl, rfl⟩ wk_X5_174 wi_X3_leftBy ws_X3_leftBy wn_X3 wc_X3_leftBy yd_X3_leftBy ⟨Nat.le_of_ble_eq_true rfl, Nat.le_of_ble_eq_true rfl⟩ hP hD p1 (ci := 3) rfl rfl rfl rfl rfl hl.1 rfl (lv_room (Nat.le_of_ble_eq_true rfl)) dX5_worstLock_40 ⟨Nat.zero_le _, Nat.zero_le _⟩) hP hD hS p1 (fun r_10 _ w H locs h hw hP hD hS => ?_)
          subst hw
          clear p1
          have p2 := gB (n := 15) (bs := [bGC G (pl 99) (dr 99) Z0.1, bText E (G 1) (Z0.2.1 1), bNow E (G 2) (G 3) e0 (Z0.2.1 2), bScene E (G 3) (Z0.2.1 3), bPlan E pl (Z0.2.1 4), bPlan E dr (Z0.2.1 5), bRumour E (G 6) (Z0.2.1 6), bIm E G (Z0.2.1 7), bNow E (G 8) (G 10) e1 (Z0.2.1 8), bNow E (G 9) (G 11) e2 (Z0.2.1 9), bScene E (G 10) (Z0.2.1 10), bScene E (G 11) (Z0.2.1 11), bPool E e0 (Z0.2.2 0), bPool E e1 (Z0.2.2 1), bPool E e2 (Z0.2.2 2)]) (bc := [bScene E (G 3) (Z0.2.1 3)]) (br := [bGC G (pl 99) (dr 99) Z0.1, bText E (G 1) (Z0.2.1 1), bNow E (G 2) (G 3) e0 (Z0.2.1 2), bPlan E pl (Z0.2.1 4), bPlan E dr (Z0.2.1 5), bRumour E (G 6) (Z0.2.1 6), bIm E G (Z0.2.1 7), bNow E (G 8) (G 10) e1 (Z0.2.1 8), bNow E (G 9) (G 11) e2 (Z0.2.1 9), bScene E (G 10) (Z0.2.1 10), bScene E (G 11) (Z0.2.1 11), bPool E e0 (Z0.2.2 0), bPool E e1 (Z0.2.2 1), bPool E e2 (Z0.2.2 2)]) [3, 0, 1, 2, 4, 5, 6, 7, 8, 9, 10, 11, 12, 13, 14] rfl rfl (by decide)
          have hP := gP_perm p2.symm hP
          have hD := gD_perm p2.symm hD
          clear p2
          have hP : gP E (gcW E G pl dr e0 e1 e2 Z0) H := hP
          have hD : va_D A (gcW E G pl dr e0 e1 e2 Z0) := hD
          have p1 := gB (n := 15) (bs := [bGC G (pl 99) (dr 99) Z0.1, bText E (G 1) (Z0.2.1 1), bNow E (G 2) (G 3) e0 (Z0.2.1 2), bScene E (G 3) (Z0.2.1 3), bPlan E pl (Z0.2.1 4), bPlan E dr (Z0.2.1 5), bRumour E (G 6) (Z0.2.1 6), bIm E G (Z0.2.1 7), bNow E (G 8) (G 10) e1 (Z0.2.1 8), bNow E (G 9) (G 11) e2 (Z0.2.1 9), bScene E (G 10) (Z0.2.1 10), bScene E (G 11) (Z0.2.1 11), bPool E e0 (Z0.2.2 0), bPool E e1 (Z0.2.2 1), bPool E e2 (Z0.2.2 2)]) (bc := []) (br := [bGC G (pl 99) (dr 99) Z0.1, bText E (G 1) (Z0.2.1 1), bNow E (G 2) (G 3) e0 (Z0.2.1 2), bScene E (G 3) (Z0.2.1 3), bPlan E pl (Z0.2.1 4), bPlan E dr (Z0.2.1 5), bRumour E (G 6) (Z0.2.1 6), bIm E G (Z0.2.1 7), bNow E (G 8) (G 10) e1 (Z0.2.1 8), bNow E (G 9) (G 11) e2 (Z0.2.1 9), bScene E (G 10) (Z0.2.1 10), bScene E (G 11) (Z0.2.1 11), bPool E e0 (Z0.2.2 0), bPool E e1 (Z0.2.2 1), bPool E e2 (Z0.2.2 2)]) [0, 1, 2, 3, 4, 5, 6, 7, 8, 9, 10, 11, 12, 13, 14] rfl rfl (by decide)
          refine g_i (g_runS (As := [.int r_10]) (rest := []) ⟨hx, hb, hml, hown, ht⟩ hE (c_J6_bitCount_0f7a4 E l r_10 _ h) ⟨rfl, rfl⟩ wk_X5_183 wt_J6_bitCount_0f7a4 wn_J6 wc_J6_bitCount_0f7a4 yd_J6_bitCount_0f7a4 ⟨Nat.le_of_ble_eq_true rfl, Nat.le_of_ble_eq_true rfl⟩ hP hD p1 rfl rfl hl.1 rfl (lv_room (Nat.le_of_ble_eq_true rfl)) dX5_worstLock_43 ⟨Nat.zero_le _, Nat.zero_le _⟩) hP hD hS p1 (fun r_11 _ w H locs h hw hP hD hS => ?_)
          subst hw
          clear p1
          have p2 := gB (n := 15) (bs := [bGC G (pl 99) (dr 99) Z0.1, bText E (G 1) (Z0.2.1 1), bNow E (G 2) (G 3) e0 (Z0.2.1 2), bScene E (G 3) (Z0.2.1 3), bPlan E pl (Z0.2.1 4), bPlan E dr (Z0.2.1 5), bRumour E (G 6) (Z0.2.1 6), bIm E G (Z0.2.1 7), bNow E (G 8) (G 10) e1 (Z0.2.1 8), bNow E (G 9) (G 11) e2 (Z0.2.1 9), bScene E (G 10) (Z0.2.1 10), bScene E (G 11) (Z0.2.1 11), bPool E e0 (Z0.2.2 0), bPool E e1 (Z0.2.2 1), bPool E e2 (Z0.2.2 2)]) (bc := []) (br := [bGC G (pl 99) (dr 99) Z0.1, bText E (G 1) (Z0.2.1 1), bNow E (G 2) (G 3) e0 (Z0.2.1 2), bScene E (G 3) (Z0.2.1 3), bPlan E pl (Z0.2.1 4), bPlan E dr (Z0.2.1 5), bRumour E (G 6) (Z0.2.1 6), bIm E G (Z0.2.1 7), bNow E (G 8) (G 10) e1 (Z0.2.1 8), bNow E (G 9) (G 11) e2 (Z0.2.1 9), bScene E (G 10) (Z0.2.1 10), bScene E (G 11) (Z0.2.1 11), bPool E e0 (Z0.2.2 0), bPool E e1 (Z0.2.2 1), bPool E e2 (Z0.2.2 2)]) [0, 1, 2, 3, 4, 5, 6, 7, 8, 9, 10, 11, 12, 13, 14] rfl rfl (by decide)
          have hP := gP_perm p2.symm hP
          have hD := gD_perm p2.symm hD
          clear p2
          have hP : gP E (gcW E G pl dr e0 e1 e2 Z0) H := hP
          have hD : va_D A (gcW E G pl dr e0 e1 e2 Z0) := hD
          refine lv_istore (lv' := [(4, .int r_11), (0, .ref (G 0 99)), (1, .int x1_7), (2, .int x2_7), (3, .int x3_7)]) hx hb dX5_worstLock_46 hl (by decide) rfl (fun ls hl => ?_)
          refine lv_iload hx hb dX5_worstLock_48 (lv_at hl 0 rfl) ?_
          refine lv_iload_n hx hb dX5_worstLock_50 rfl (lv_at hl 3 rfl) ?_
          refine lv_icmp_le (tgt := 59) hx hb dX5_worstLock_51 (by decide) (fun c_12 => ?_) (fun c_12 => ?_)
          · have h := h.1 c_12
            refine lv_iinc (v := (x3_7 + 1)) (lv' := [(3, .int (x3_7 + 1)), (4, .int r_11), (0, .ref (G 0 99)), (1, .int x1_7), (2, .int x2_7)]) hx hb dX5_worstLock_59 hl (k := 4) rfl rfl (by decide) rfl (fun ls hl => ?_)
            refine lv_goto (tgt := 7) hx hb dX5_worstLock_62 (by decide) ?_
            exact ih7 x1_7 x2_7 (x3_7 + 1) _ _ _ h hP hD hS (lv_sub hl [2, 3, 4, 0] rfl)
          · have h := h.2 c_12
            refine lv_iload hx hb dX5_worstLock_54 (lv_at hl 0 rfl) ?_
            refine lv_istore_n (lv' := [(2, .int r_11), (4, .int r_11), (0, .ref (G 0 99)), (1, .int x1_7), (3, .int x3_7)]) hx hb dX5_worstLock_56 rfl hl (by decide) rfl (fun ls hl => ?_)
            refine lv_iload_n hx hb dX5_worstLock_57 rfl (lv_at hl 4 rfl) ?_
            refine lv_istore_n (lv' := [(1, .int x3_7), (2, .int r_11), (4, .int r_11), (0, .ref (G 0 99)), (3, .int x3_7)]) hx hb dX5_worstLock_58 rfl hl (by decide) rfl (fun ls hl => ?_)
            refine lv_iinc (v := (x3_7 + 1)) (lv' := [(3, .int (x3_7 + 1)), (1, .int x3_7), (2, .int r_11), (4, .int r_11), (0, .ref (G 0 99))]) hx hb dX5_worstLock_59 hl (k := 4) rfl rfl (by decide) rfl (fun ls hl => ?_)
            refine lv_goto (tgt := 7) hx hb dX5_worstLock_62 (by decide) ?_
            exact ih7 x3_7 r_11 (x3_7 + 1) _ _ _ h hP hD hS (lv_sub hl [4, 1, 2, 0] rfl)
  obtain ⟨n7, h⟩ := h
  exact L7 n7 (-9) (-1) 0 _ _ _ h hP hD hS (lv_sub hl [3, 2, 1, 0] rfl)
theorem dX5_greatestRounds_0 : decode cX5_greatestRounds 0 = .ok (.iconst 0, 1) := by decide +kernel
theorem dX5_greatestRounds_1 : decode cX5_greatestRounds 1 = .ok (.istore_n 1, 1) := by decide +kernel
theorem dX5_greatestRounds_2 : decode cX5_greatestRounds 2 = .ok (.iconst 0, 1) := by decide +kernel
theorem dX5_greatestRounds_3 : decode cX5_greatestRounds 3 = .ok (.istore_n 2, 1) := by decide +kernel
theorem dX5_greatestRounds_4 : decode cX5_greatestRounds 4 = .ok (.iload_n 2, 1) := by decide +kernel
theorem dX5_greatestRounds_5 : decode cX5_greatestRounds 5 = .ok (.aload_n 0, 1) := by decide +kernel
theorem dX5_greatestRounds_6 : decode cX5_greatestRounds 6 = .ok (.getfield 41, 3) := by decide +kernel
theorem dX5_greatestRounds_9 : decode cX5_greatestRounds 9 = .ok (.getfield 233, 3) := by decide +kernel
theorem dX5_greatestRounds_12 : decode cX5_greatestRounds 12 = .ok (.if_icmp .ge 30, 3) := by decide +kernel
theorem dX5_greatestRounds_15 : decode cX5_greatestRounds 15 = .ok (.aload_n 0, 1) := by decide +kernel
theorem dX5_greatestRounds_16 : decode cX5_greatestRounds 16 = .ok (.iload_n 2, 1) := by decide +kernel
theorem dX5_greatestRounds_17 : decode cX5_greatestRounds 17 = .ok (.invokevirtual 116, 3) := by decide +kernel
theorem dX5_greatestRounds_20 : decode cX5_greatestRounds 20 = .ok (.istore_n 3, 1) := by decide +kernel
theorem dX5_greatestRounds_21 : decode cX5_greatestRounds 21 = .ok (.iload_n 3, 1) := by decide +kernel
theorem dX5_greatestRounds_22 : decode cX5_greatestRounds 22 = .ok (.bipush (-9), 2) := by decide +kernel
theorem dX5_greatestRounds_24 : decode cX5_greatestRounds 24 = .ok (.if_icmp .ne 6, 3) := by decide +kernel
theorem dX5_greatestRounds_27 : decode cX5_greatestRounds 27 = .ok (.bipush (-9), 2) := by decide +kernel
theorem dX5_greatestRounds_29 : decode cX5_greatestRounds 29 = .ok (.ireturn, 1) := by decide +kernel
theorem dX5_greatestRounds_30 : decode cX5_greatestRounds 30 = .ok (.iload_n 1, 1) := by decide +kernel
theorem dX5_greatestRounds_31 : decode cX5_greatestRounds 31 = .ok (.iload_n 3, 1) := by decide +kernel
theorem dX5_greatestRounds_32 : decode cX5_greatestRounds 32 = .ok (.invokestatic 245, 3) := by decide +kernel
theorem dX5_greatestRounds_35 : decode cX5_greatestRounds 35 = .ok (.istore_n 1, 1) := by decide +kernel
theorem dX5_greatestRounds_36 : decode cX5_greatestRounds 36 = .ok (.iinc 2 1, 3) := by decide +kernel
theorem dX5_greatestRounds_39 : decode cX5_greatestRounds 39 = .ok (.goto (-35), 3) := by decide +kernel
theorem dX5_greatestRounds_42 : decode cX5_greatestRounds 42 = .ok (.iload_n 1, 1) := by decide +kernel
theorem dX5_greatestRounds_43 : decode cX5_greatestRounds 43 = .ok (.ireturn, 1) := by decide +kernel
set_option maxHeartbeats 4000000 in
set_option maxRecDepth 100000 in
theorem c_X5_greatestRounds (E : GE) (l : Launch) (G : Nat → Nat → Nat) (pl dr : Nat → Nat) (e0 e1 e2 : Nat → Nat → Nat) (Z0 : GC) (post : Int32 → Prop) (h : wp_X5_greatestRounds Z0 post) : Met l yX5_greatestRounds (wz yX5_greatestRounds cX5_greatestRounds 4 (some .int)) { frames := 5, cells := 0, slots := 0, locals := 107 } (gPc E [.ref (G 0 99)] (gcW E G pl dr e0 e1 e2 Z0)) (gQi E (gcW E G pl dr e0 e1 e2 Z0) (fun r (_ : Unit) => post r) (fun (_ : Unit) w => w = gcW E G pl dr e0 e1 e2 Z0)) 0 0 (gIn (gcW E G pl dr e0 e1 e2 Z0)) := by
  unfold wp_X5_greatestRounds at h
  refine g_of_i (by decide) (Nat.le_of_ble_eq_true rfl) ?_
  intro p e s m below meth c A Q hx hb hml hown ht hE hP hD hret ls hl
  have hK := hE.1
  have hS : va_S A s.heap s.heap [] := va_S.rf
  have hl : lv_has ls 4 [(0, .ref (G 0 99))] := hl
  refine lv_iconst (v := 0) hx hb dX5_greatestRounds_0 (by decide) ?_
  refine lv_istore_n (lv' := [(1, .int 0), (0, .ref (G 0 99))]) hx hb dX5_greatestRounds_1 rfl hl (by decide) rfl (fun ls hl => ?_)
  refine lv_iconst (v := 0) hx hb dX5_greatestRounds_2 (by decide) ?_
  refine lv_istore_n (lv' := [(2, .int 0), (1, .int 0), (0, .ref (G 0 99))]) hx hb dX5_greatestRounds_3 rfl hl (by decide) rfl (fun ls hl => ?_)
  have L4 : ∀ (n4 : Nat) (x1_4 : Int32) (x2_4 : Int32) (H : Heap) (locs : List Loc) (ls : Array Slot), wp_X5_greatestRounds_L4 post Z0 n4 x1_4 x2_4 → gP E (gcW E G pl dr e0 e1 e2 Z0) H → va_D A (gcW E G pl dr e0 e1 e2 Z0) → va_S A s.heap H locs → lv_has ls 4 [(0, .ref (G 0 99)), (1, .int x1_4), (2, .int x2_4)] → W p l e { frames := 5, cells := 0, slots := 0, locals := 107 } s m ([.ref (G 0 99)] : List Value).toArray below meth c H locs 0 0 Q (F0 m 4 ls []) := by
    intro n4
    induction n4 with
    | zero => intro x1_4 x2_4 H locs ls h; exact h.elim
    | succ n4 ih4 =>
      intro x1_4 x2_4 H locs ls h hP hD hS hl
      rw [wp_X5_greatestRounds_L4] at h
      refine lv_iload_n hx hb dX5_greatestRounds_4 rfl (lv_at hl 2 rfl) ?_
      refine lv_aload_n hx hb dX5_greatestRounds_5 rfl (lv_at hl 0 rfl) ?_
      refine va_get (D := (E.1, E.2.1)) (ci := 5) (v := .ref (pl 99)) (C := RX5) (T := TX5) (N := 8) hx hb ht wu_X5 hown hK hP 0 rfl rfl 5 (by decide) (ht _ wk_X5_41) (fun _ h9 => h9) rfl dX5_greatestRounds_6 ?_
      refine va_get (D := (E.1, E.2.1)) (ci := 1) (v := .int ((Z0.2.1 4).1 3)) (C := RX1) (T := TX1) (N := 5) hx hb ht wu_X1 hown hK hP 10 rfl rfl 3 (by decide) (ht _ wk_X5_233) (fun _ h9 => h9) rfl dX5_greatestRounds_9 ?_
      refine lv_icmp_ge (tgt := 42) hx hb dX5_greatestRounds_12 (by decide) (fun c_5 => ?_) (fun c_5 => ?_)
      · have h := h.1 c_5
        refine lv_iload_n hx hb dX5_greatestRounds_42 rfl (lv_at hl 1 rfl) ?_
        exact hret x1_4 () _ _ _ _ _ h rfl hP hD hS dX5_greatestRounds_43
      · have h := h.2 c_5
        refine lv_aload_n hx hb dX5_greatestRounds_15 rfl (lv_at hl 0 rfl) ?_
        refine lv_iload_n hx hb dX5_greatestRounds_16 rfl (lv_at hl 2 rfl) ?_
        have p1 := gB (n := 15) (bs := [bGC G (pl 99) (dr 99) Z0.1, bText E (G 1) (Z0.2.1 1), bNow E (G 2) (G 3) e0 (Z0.2.1 2), bScene E (G 3) (Z0.2.1 3), bPlan E pl (Z0.2.1 4), bPlan E dr (Z0.2.1 5), bRumour E (G 6) (Z0.2.1 6), bIm E G (Z0.2.1 7), bNow E (G 8) (G 10) e1 (Z0.2.1 8), bNow E (G 9) (G 11) e2 (Z0.2.1 9), bScene E (G 10) (Z0.2.1 10), bScene E (G 11) (Z0.2.1 11), bPool E e0 (Z0.2.2 0), bPool E e1 (Z0.2.2 1), bPool E e2 (Z0.2.2 2)]) (bc := [bGC G (pl 99) (dr 99) Z0.1, bText E (G 1) (Z0.2.1 1), bNow E (G 2) (G 3) e0 (Z0.2.1 2), bScene E (G 3) (Z0.2.1 3), bPlan E pl (Z0.2.1 4), bPlan E dr (Z0.2.1 5), bRumour E (G 6) (Z0.2.1 6), bIm E G (Z0.2.1 7), bNow E (G 8) (G 10) e1 (Z0.2.1 8), bNow E (G 9) (G 11) e2 (Z0.2.1 9), bScene E (G 10) (Z0.2.1 10), bScene E (G 11) (Z0.2.1 11), bPool E e0 (Z0.2.2 0), bPool E e1 (Z0.2.2 1), bPool E e2 (Z0.2.2 2)]) (br := []) [0, 1, 2, 3, 4, 5, 6, 7, 8, 9, 10, 11, 12, 13, 14] rfl rfl (by decide)
        refine g_i (g_runV (As := [.int x2_4]) (rest := []) ⟨hx, hb, hml, hown, ht⟩ hE (c_X5_roundsOf E l G pl dr e0 e1 e2 Z0 x2_4 _ h) ⟨rfl, rfl⟩ wk_X5_116 wi_X5_roundsOf ws_X5_roundsOf wn_X5 wc_X5_roundsOf yd_X5_roundsOf ⟨Nat.le_of_ble_eq_true rfl, Nat.le_of_ble_eq_true rfl⟩ hP hD p1 (ci := 5) rfl rfl rfl rfl rfl hl.1 rfl (lv_room (Nat.le_of_ble_eq_true rfl)) dX5_greatestRounds_17 ⟨Nat.zero_le _, Nat.zero_le _⟩) hP hD hS p1 (fun r_6 _ w H locs h hw hP hD hS => ?_)
        subst hw
        clear p1
        have p2 := gB (n := 15) (bs := [bGC G (pl 99) (dr 99) Z0.1, bText E (G 1) (Z0.2.1 1), bNow E (G 2) (G 3) e0 (Z0.2.1 2), bScene E (G 3) (Z0.2.1 3), bPlan E pl (Z0.2.1 4), bPlan E dr (Z0.2.1 5), bRumour E (G 6) (Z0.2.1 6), bIm E G (Z0.2.1 7), bNow E (G 8) (G 10) e1 (Z0.2.1 8), bNow E (G 9) (G 11) e2 (Z0.2.1 9), bScene E (G 10) (Z0.2.1 10), bScene E (G 11) (Z0.2.1 11), bPool E e0 (Z0.2.2 0), bPool E e1 (Z0.2.2 1), bPool E e2 (Z0.2.2 2)]) (bc := [bGC G (pl 99) (dr 99) Z0.1, bText E (G 1) (Z0.2.1 1), bNow E (G 2) (G 3) e0 (Z0.2.1 2), bScene E (G 3) (Z0.2.1 3), bPlan E pl (Z0.2.1 4), bPlan E dr (Z0.2.1 5), bRumour E (G 6) (Z0.2.1 6), bIm E G (Z0.2.1 7), bNow E (G 8) (G 10) e1 (Z0.2.1 8), bNow E (G 9) (G 11) e2 (Z0.2.1 9), bScene E (G 10) (Z0.2.1 10), bScene E (G 11) (Z0.2.1 11), bPool E e0 (Z0.2.2 0), bPool E e1 (Z0.2.2 1), bPool E e2 (Z0.2.2 2)]) (br := []) [0, 1, 2, 3, 4, 5, 6, 7, 8, 9, 10, 11, 12, 13, 14] rfl rfl (by decide)
        have hP := gP_perm p2.symm hP
        have hD := gD_perm p2.symm hD
        clear p2
        have hP : gP E (gcW E G pl dr e0 e1 e2 Z0) H := hP
        have hD : va_D A (gcW E G pl dr e0 e1 e2 Z0) := hD
        refine lv_istore_n (lv' := [(3, .int r_6), (0, .ref (G 0 99)), (1, .int x1_4), (2, .int x2_4)]) hx hb dX5_greatestRounds_20 rfl hl (by decide) rfl (fun ls hl => ?_)
        refine lv_iload_n hx hb dX5_greatestRounds_21 rfl (lv_at hl 0 rfl) ?_
        refine lv_bipush (v := (-9)) hx hb dX5_greatestRounds_22 (by decide) ?_
        refine lv_icmp_ne (tgt := 30) hx hb dX5_greatestRounds_24 (by decide) (fun c_7 => ?_) (fun c_7 => ?_)
        · have h := h.1 c_7
          refine lv_iload_n hx hb dX5_greatestRounds_30 rfl (lv_at hl 2 rfl) ?_
          refine lv_iload_n hx hb dX5_greatestRounds_31 rfl (lv_at hl 0 rfl) ?_
          refine va_mmax hx hb (hml.trans hl.1.symm) hown (ht _ wk_X5_245) (ht _ wt_J9_max_7cf53) (ht _ wn_J9) (ht _ wc_J9_max_7cf53) (Nat.le_of_ble_eq_true rfl) (Nat.le_of_ble_eq_true rfl) (Nat.zero_le _) (Nat.zero_le _) dX5_greatestRounds_32 ?_
          refine lv_topi (fun y_8 ey_8 => ?_)
          have h := h y_8 ey_8
          refine lv_istore_n (lv' := [(1, .int y_8), (3, .int r_6), (0, .ref (G 0 99)), (2, .int x2_4)]) hx hb dX5_greatestRounds_35 rfl hl (by decide) rfl (fun ls hl => ?_)
          refine lv_iinc (v := (x2_4 + 1)) (lv' := [(2, .int (x2_4 + 1)), (1, .int y_8), (3, .int r_6), (0, .ref (G 0 99))]) hx hb dX5_greatestRounds_36 hl (k := 3) rfl rfl (by decide) rfl (fun ls hl => ?_)
          refine lv_goto (tgt := 4) hx hb dX5_greatestRounds_39 (by decide) ?_
          exact ih4 y_8 (x2_4 + 1) _ _ _ h hP hD hS (lv_sub hl [3, 1, 0] rfl)
        · have h := h.2 c_7
          refine lv_bipush (v := (-9)) hx hb dX5_greatestRounds_27 (by decide) ?_
          exact hret (-9) () _ _ _ _ _ h rfl hP hD hS dX5_greatestRounds_29
  obtain ⟨n4, h⟩ := h
  exact L4 n4 0 0 _ _ _ h hP hD hS (lv_sub hl [2, 1, 0] rfl)
theorem dX5_now_0 : decode cX5_now 0 = .ok (.iload_n 1, 1) := by decide +kernel
theorem dX5_now_1 : decode cX5_now 1 = .ok (.tableswitch 78 0 4 #[35, 46, 57, 68, 73], 35) := by decide +kernel
theorem dX5_now_36 : decode cX5_now 36 = .ok (.aload_n 0, 1) := by decide +kernel
theorem dX5_now_37 : decode cX5_now 37 = .ok (.getfield 19, 3) := by decide +kernel
theorem dX5_now_40 : decode cX5_now 40 = .ok (.getfield 75, 3) := by decide +kernel
theorem dX5_now_43 : decode cX5_now 43 = .ok (.getfield 129, 3) := by decide +kernel
theorem dX5_now_46 : decode cX5_now 46 = .ok (.ireturn, 1) := by decide +kernel
theorem dX5_now_47 : decode cX5_now 47 = .ok (.aload_n 0, 1) := by decide +kernel
theorem dX5_now_48 : decode cX5_now 48 = .ok (.getfield 19, 3) := by decide +kernel
theorem dX5_now_51 : decode cX5_now 51 = .ok (.getfield 75, 3) := by decide +kernel
theorem dX5_now_54 : decode cX5_now 54 = .ok (.invokevirtual 165, 3) := by decide +kernel
theorem dX5_now_57 : decode cX5_now 57 = .ok (.ireturn, 1) := by decide +kernel
theorem dX5_now_58 : decode cX5_now 58 = .ok (.aload_n 0, 1) := by decide +kernel
theorem dX5_now_59 : decode cX5_now 59 = .ok (.getfield 19, 3) := by decide +kernel
theorem dX5_now_62 : decode cX5_now 62 = .ok (.getfield 75, 3) := by decide +kernel
theorem dX5_now_65 : decode cX5_now 65 = .ok (.invokevirtual 109, 3) := by decide +kernel
theorem dX5_now_68 : decode cX5_now 68 = .ok (.ireturn, 1) := by decide +kernel
theorem dX5_now_69 : decode cX5_now 69 = .ok (.aload_n 0, 1) := by decide +kernel
theorem dX5_now_70 : decode cX5_now 70 = .ok (.invokevirtual 168, 3) := by decide +kernel
theorem dX5_now_73 : decode cX5_now 73 = .ok (.ireturn, 1) := by decide +kernel
theorem dX5_now_74 : decode cX5_now 74 = .ok (.aload_n 0, 1) := by decide +kernel
theorem dX5_now_75 : decode cX5_now 75 = .ok (.invokevirtual 171, 3) := by decide +kernel
theorem dX5_now_78 : decode cX5_now 78 = .ok (.ireturn, 1) := by decide +kernel
theorem dX5_now_79 : decode cX5_now 79 = .ok (.iconst (-1), 1) := by decide +kernel
theorem dX5_now_80 : decode cX5_now 80 = .ok (.ireturn, 1) := by decide +kernel
set_option maxHeartbeats 4000000 in
set_option maxRecDepth 100000 in
theorem c_X5_now (E : GE) (l : Launch) (G : Nat → Nat → Nat) (pl dr : Nat → Nat) (e0 e1 e2 : Nat → Nat → Nat) (Z0 : GC) (x1 : Int32) (post : Int32 → Prop) (h : wp_X5_now Z0 x1 post) : Met l yX5_now (wz yX5_now cX5_now 2 (some .int)) { frames := 6, cells := 0, slots := 0, locals := 130 } (gPc E [.ref (G 0 99), .int x1] (gcW E G pl dr e0 e1 e2 Z0)) (gQi E (gcW E G pl dr e0 e1 e2 Z0) (fun r (_ : Unit) => post r) (fun (_ : Unit) w => w = gcW E G pl dr e0 e1 e2 Z0)) 0 0 (gIn (gcW E G pl dr e0 e1 e2 Z0)) := by
  unfold wp_X5_now at h
  refine g_of_i (by decide) (Nat.le_of_ble_eq_true rfl) ?_
  intro p e s m below meth c A Q hx hb hml hown ht hE hP hD hret ls hl
  have hK := hE.1
  have hS : va_S A s.heap s.heap [] := va_S.rf
  have hl : lv_has ls 2 [(0, .ref (G 0 99)), (1, .int x1)] := hl
  refine lv_iload_n hx hb dX5_now_0 rfl (lv_at hl 1 rfl) ?_
  rcases sw_0_4 x1 with c | c | c | c | c | c
  · have h := h.1 c
    refine lv_asi c ?_
    refine lv_tableIn (off := 35) (tgt := 36) hx hb dX5_now_1 (by decide) (by decide) rfl (by decide) ?_
    refine lv_aload_n hx hb dX5_now_36 rfl (lv_at hl 0 rfl) ?_
    refine va_get (D := (E.1, E.2.1)) (ci := 5) (v := .ref (G 2 99)) (C := RX5) (T := TX5) (N := 8) hx hb ht wu_X5 hown hK hP 0 rfl rfl 1 (by decide) (ht _ wk_X5_19) (fun _ h9 => h9) rfl dX5_now_37 ?_
    refine va_get (D := (E.1, E.2.1)) (ci := 0) (v := .ref ((G 3) 99)) (C := RX0) (T := TX0) (N := 3) hx hb ht wu_X0 hown hK hP 3 rfl rfl 0 (by decide) (ht _ wk_X5_75) (fun _ h9 => h9) rfl dX5_now_40 ?_
    refine va_get (D := (E.1, E.2.1)) (ci := 3) (v := .int ((Z0.2.1 3).1 4)) (C := RX3) (T := TX3) (N := 5) hx hb ht wu_X3 hown hK hP 5 rfl rfl 4 (by decide) (ht _ wk_X5_129) (fun _ h9 => h9) rfl dX5_now_43 ?_
    exact hret ((Z0.2.1 3).1 4) () _ _ _ _ _ h rfl hP hD hS dX5_now_46
  · have h := h.2.1 c
    refine lv_asi c ?_
    refine lv_tableIn (off := 46) (tgt := 47) hx hb dX5_now_1 (by decide) (by decide) rfl (by decide) ?_
    refine lv_aload_n hx hb dX5_now_47 rfl (lv_at hl 0 rfl) ?_
    refine va_get (D := (E.1, E.2.1)) (ci := 5) (v := .ref (G 2 99)) (C := RX5) (T := TX5) (N := 8) hx hb ht wu_X5 hown hK hP 0 rfl rfl 1 (by decide) (ht _ wk_X5_19) (fun _ h9 => h9) rfl dX5_now_48 ?_
    refine va_get (D := (E.1, E.2.1)) (ci := 0) (v := .ref ((G 3) 99)) (C := RX0) (T := TX0) (N := 3) hx hb ht wu_X0 hown hK hP 3 rfl rfl 0 (by decide) (ht _ wk_X5_75) (fun _ h9 => h9) rfl dX5_now_51 ?_
    have p1 := gB (n := 15) (bs := [bGC G (pl 99) (dr 99) Z0.1, bText E (G 1) (Z0.2.1 1), bNow E (G 2) (G 3) e0 (Z0.2.1 2), bScene E (G 3) (Z0.2.1 3), bPlan E pl (Z0.2.1 4), bPlan E dr (Z0.2.1 5), bRumour E (G 6) (Z0.2.1 6), bIm E G (Z0.2.1 7), bNow E (G 8) (G 10) e1 (Z0.2.1 8), bNow E (G 9) (G 11) e2 (Z0.2.1 9), bScene E (G 10) (Z0.2.1 10), bScene E (G 11) (Z0.2.1 11), bPool E e0 (Z0.2.2 0), bPool E e1 (Z0.2.2 1), bPool E e2 (Z0.2.2 2)]) (bc := [bScene E (G 3) (Z0.2.1 3)]) (br := [bGC G (pl 99) (dr 99) Z0.1, bText E (G 1) (Z0.2.1 1), bNow E (G 2) (G 3) e0 (Z0.2.1 2), bPlan E pl (Z0.2.1 4), bPlan E dr (Z0.2.1 5), bRumour E (G 6) (Z0.2.1 6), bIm E G (Z0.2.1 7), bNow E (G 8) (G 10) e1 (Z0.2.1 8), bNow E (G 9) (G 11) e2 (Z0.2.1 9), bScene E (G 10) (Z0.2.1 10), bScene E (G 11) (Z0.2.1 11), bPool E e0 (Z0.2.2 0), bPool E e1 (Z0.2.2 1), bPool E e2 (Z0.2.2 2)]) [3, 0, 1, 2, 4, 5, 6, 7, 8, 9, 10, 11, 12, 13, 14] rfl rfl (by decide)
    refine g_i (g_runV (As := []) (rest := []) ⟨hx, hb, hml, hown, ht⟩ hE (c_X3_ringBits E l (G 3) (Z0.2.1 3) _ h) ⟨rfl, rfl⟩ wk_X5_165 wi_X3_ringBits ws_X3_ringBits wn_X3 wc_X3_ringBits yd_X3_ringBits ⟨Nat.le_of_ble_eq_true rfl, Nat.le_of_ble_eq_true rfl⟩ hP hD p1 (ci := 3) rfl rfl rfl rfl rfl hl.1 rfl (lv_room (Nat.le_of_ble_eq_true rfl)) dX5_now_54 ⟨Nat.zero_le _, Nat.zero_le _⟩) hP hD hS p1 (fun r_1 _ w H locs h hw hP hD hS => ?_)
    subst hw
    clear p1
    have p2 := gB (n := 15) (bs := [bGC G (pl 99) (dr 99) Z0.1, bText E (G 1) (Z0.2.1 1), bNow E (G 2) (G 3) e0 (Z0.2.1 2), bScene E (G 3) (Z0.2.1 3), bPlan E pl (Z0.2.1 4), bPlan E dr (Z0.2.1 5), bRumour E (G 6) (Z0.2.1 6), bIm E G (Z0.2.1 7), bNow E (G 8) (G 10) e1 (Z0.2.1 8), bNow E (G 9) (G 11) e2 (Z0.2.1 9), bScene E (G 10) (Z0.2.1 10), bScene E (G 11) (Z0.2.1 11), bPool E e0 (Z0.2.2 0), bPool E e1 (Z0.2.2 1), bPool E e2 (Z0.2.2 2)]) (bc := [bScene E (G 3) (Z0.2.1 3)]) (br := [bGC G (pl 99) (dr 99) Z0.1, bText E (G 1) (Z0.2.1 1), bNow E (G 2) (G 3) e0 (Z0.2.1 2), bPlan E pl (Z0.2.1 4), bPlan E dr (Z0.2.1 5), bRumour E (G 6) (Z0.2.1 6), bIm E G (Z0.2.1 7), bNow E (G 8) (G 10) e1 (Z0.2.1 8), bNow E (G 9) (G 11) e2 (Z0.2.1 9), bScene E (G 10) (Z0.2.1 10), bScene E (G 11) (Z0.2.1 11), bPool E e0 (Z0.2.2 0), bPool E e1 (Z0.2.2 1), bPool E e2 (Z0.2.2 2)]) [3, 0, 1, 2, 4, 5, 6, 7, 8, 9, 10, 11, 12, 13, 14] rfl rfl (by decide)
    have hP := gP_perm p2.symm hP
    have hD := gD_perm p2.symm hD
    clear p2
    have hP : gP E (gcW E G pl dr e0 e1 e2 Z0) H := hP
    have hD : va_D A (gcW E G pl dr e0 e1 e2 Z0) := hD
    exact hret r_1 () _ _ _ _ _ h rfl hP hD hS dX5_now_57
  · have h := h.2.2.1 c
    refine lv_asi c ?_
    refine lv_tableIn (off := 57) (tgt := 58) hx hb dX5_now_1 (by decide) (by decide) rfl (by decide) ?_
    refine lv_aload_n hx hb dX5_now_58 rfl (lv_at hl 0 rfl) ?_
    refine va_get (D := (E.1, E.2.1)) (ci := 5) (v := .ref (G 2 99)) (C := RX5) (T := TX5) (N := 8) hx hb ht wu_X5 hown hK hP 0 rfl rfl 1 (by decide) (ht _ wk_X5_19) (fun _ h9 => h9) rfl dX5_now_59 ?_
    refine va_get (D := (E.1, E.2.1)) (ci := 0) (v := .ref ((G 3) 99)) (C := RX0) (T := TX0) (N := 3) hx hb ht wu_X0 hown hK hP 3 rfl rfl 0 (by decide) (ht _ wk_X5_75) (fun _ h9 => h9) rfl dX5_now_62 ?_
    have p1 := gB (n := 15) (bs := [bGC G (pl 99) (dr 99) Z0.1, bText E (G 1) (Z0.2.1 1), bNow E (G 2) (G 3) e0 (Z0.2.1 2), bScene E (G 3) (Z0.2.1 3), bPlan E pl (Z0.2.1 4), bPlan E dr (Z0.2.1 5), bRumour E (G 6) (Z0.2.1 6), bIm E G (Z0.2.1 7), bNow E (G 8) (G 10) e1 (Z0.2.1 8), bNow E (G 9) (G 11) e2 (Z0.2.1 9), bScene E (G 10) (Z0.2.1 10), bScene E (G 11) (Z0.2.1 11), bPool E e0 (Z0.2.2 0), bPool E e1 (Z0.2.2 1), bPool E e2 (Z0.2.2 2)]) (bc := [bScene E (G 3) (Z0.2.1 3)]) (br := [bGC G (pl 99) (dr 99) Z0.1, bText E (G 1) (Z0.2.1 1), bNow E (G 2) (G 3) e0 (Z0.2.1 2), bPlan E pl (Z0.2.1 4), bPlan E dr (Z0.2.1 5), bRumour E (G 6) (Z0.2.1 6), bIm E G (Z0.2.1 7), bNow E (G 8) (G 10) e1 (Z0.2.1 8), bNow E (G 9) (G 11) e2 (Z0.2.1 9), bScene E (G 10) (Z0.2.1 10), bScene E (G 11) (Z0.2.1 11), bPool E e0 (Z0.2.2 0), bPool E e1 (Z0.2.2 1), bPool E e2 (Z0.2.2 2)]) [3, 0, 1, 2, 4, 5, 6, 7, 8, 9, 10, 11, 12, 13, 14] rfl rfl (by decide)
    refine g_i (g_runV (As := []) (rest := []) ⟨hx, hb, hml, hown, ht⟩ hE (c_X3_whoGetsIn E l (G 3) (Z0.2.1 3) _ h) ⟨rfl, rfl⟩ wk_X5_109 wi_X3_whoGetsIn ws_X3_whoGetsIn wn_X3 wc_X3_whoGetsIn yd_X3_whoGetsIn ⟨Nat.le_of_ble_eq_true rfl, Nat.le_of_ble_eq_true rfl⟩ hP hD p1 (ci := 3) rfl rfl rfl rfl rfl hl.1 rfl (lv_room (Nat.le_of_ble_eq_true rfl)) dX5_now_65 ⟨Nat.zero_le _, Nat.zero_le _⟩) hP hD hS p1 (fun r_2 _ w H locs h hw hP hD hS => ?_)
    subst hw
    clear p1
    have p2 := gB (n := 15) (bs := [bGC G (pl 99) (dr 99) Z0.1, bText E (G 1) (Z0.2.1 1), bNow E (G 2) (G 3) e0 (Z0.2.1 2), bScene E (G 3) (Z0.2.1 3), bPlan E pl (Z0.2.1 4), bPlan E dr (Z0.2.1 5), bRumour E (G 6) (Z0.2.1 6), bIm E G (Z0.2.1 7), bNow E (G 8) (G 10) e1 (Z0.2.1 8), bNow E (G 9) (G 11) e2 (Z0.2.1 9), bScene E (G 10) (Z0.2.1 10), bScene E (G 11) (Z0.2.1 11), bPool E e0 (Z0.2.2 0), bPool E e1 (Z0.2.2 1), bPool E e2 (Z0.2.2 2)]) (bc := [bScene E (G 3) (Z0.2.1 3)]) (br := [bGC G (pl 99) (dr 99) Z0.1, bText E (G 1) (Z0.2.1 1), bNow E (G 2) (G 3) e0 (Z0.2.1 2), bPlan E pl (Z0.2.1 4), bPlan E dr (Z0.2.1 5), bRumour E (G 6) (Z0.2.1 6), bIm E G (Z0.2.1 7), bNow E (G 8) (G 10) e1 (Z0.2.1 8), bNow E (G 9) (G 11) e2 (Z0.2.1 9), bScene E (G 10) (Z0.2.1 10), bScene E (G 11) (Z0.2.1 11), bPool E e0 (Z0.2.2 0), bPool E e1 (Z0.2.2 1), bPool E e2 (Z0.2.2 2)]) [3, 0, 1, 2, 4, 5, 6, 7, 8, 9, 10, 11, 12, 13, 14] rfl rfl (by decide)
    have hP := gP_perm p2.symm hP
    have hD := gD_perm p2.symm hD
    clear p2
    have hP : gP E (gcW E G pl dr e0 e1 e2 Z0) H := hP
    have hD : va_D A (gcW E G pl dr e0 e1 e2 Z0) := hD
    exact hret r_2 () _ _ _ _ _ h rfl hP hD hS dX5_now_68
  · have h := h.2.2.2.1 c
    refine lv_asi c ?_
    refine lv_tableIn (off := 68) (tgt := 69) hx hb dX5_now_1 (by decide) (by decide) rfl (by decide) ?_
    refine lv_aload_n hx hb dX5_now_69 rfl (lv_at hl 0 rfl) ?_
    have p1 := gB (n := 15) (bs := [bGC G (pl 99) (dr 99) Z0.1, bText E (G 1) (Z0.2.1 1), bNow E (G 2) (G 3) e0 (Z0.2.1 2), bScene E (G 3) (Z0.2.1 3), bPlan E pl (Z0.2.1 4), bPlan E dr (Z0.2.1 5), bRumour E (G 6) (Z0.2.1 6), bIm E G (Z0.2.1 7), bNow E (G 8) (G 10) e1 (Z0.2.1 8), bNow E (G 9) (G 11) e2 (Z0.2.1 9), bScene E (G 10) (Z0.2.1 10), bScene E (G 11) (Z0.2.1 11), bPool E e0 (Z0.2.2 0), bPool E e1 (Z0.2.2 1), bPool E e2 (Z0.2.2 2)]) (bc := [bGC G (pl 99) (dr 99) Z0.1, bText E (G 1) (Z0.2.1 1), bNow E (G 2) (G 3) e0 (Z0.2.1 2), bScene E (G 3) (Z0.2.1 3), bPlan E pl (Z0.2.1 4), bPlan E dr (Z0.2.1 5), bRumour E (G 6) (Z0.2.1 6), bIm E G (Z0.2.1 7), bNow E (G 8) (G 10) e1 (Z0.2.1 8), bNow E (G 9) (G 11) e2 (Z0.2.1 9), bScene E (G 10) (Z0.2.1 10), bScene E (G 11) (Z0.2.1 11), bPool E e0 (Z0.2.2 0), bPool E e1 (Z0.2.2 1), bPool E e2 (Z0.2.2 2)]) (br := []) [0, 1, 2, 3, 4, 5, 6, 7, 8, 9, 10, 11, 12, 13, 14] rfl rfl (by decide)
    refine g_i (g_runV (As := []) (rest := []) ⟨hx, hb, hml, hown, ht⟩ hE (c_X5_worstLock E l G pl dr e0 e1 e2 Z0 _ h) ⟨rfl, rfl⟩ wk_X5_168 wi_X5_worstLock ws_X5_worstLock wn_X5 wc_X5_worstLock yd_X5_worstLock ⟨Nat.le_of_ble_eq_true rfl, Nat.le_of_ble_eq_true rfl⟩ hP hD p1 (ci := 5) rfl rfl rfl rfl rfl hl.1 rfl (lv_room (Nat.le_of_ble_eq_true rfl)) dX5_now_70 ⟨Nat.zero_le _, Nat.zero_le _⟩) hP hD hS p1 (fun r_3 _ w H locs h hw hP hD hS => ?_)
    subst hw
    clear p1
    have p2 := gB (n := 15) (bs := [bGC G (pl 99) (dr 99) Z0.1, bText E (G 1) (Z0.2.1 1), bNow E (G 2) (G 3) e0 (Z0.2.1 2), bScene E (G 3) (Z0.2.1 3), bPlan E pl (Z0.2.1 4), bPlan E dr (Z0.2.1 5), bRumour E (G 6) (Z0.2.1 6), bIm E G (Z0.2.1 7), bNow E (G 8) (G 10) e1 (Z0.2.1 8), bNow E (G 9) (G 11) e2 (Z0.2.1 9), bScene E (G 10) (Z0.2.1 10), bScene E (G 11) (Z0.2.1 11), bPool E e0 (Z0.2.2 0), bPool E e1 (Z0.2.2 1), bPool E e2 (Z0.2.2 2)]) (bc := [bGC G (pl 99) (dr 99) Z0.1, bText E (G 1) (Z0.2.1 1), bNow E (G 2) (G 3) e0 (Z0.2.1 2), bScene E (G 3) (Z0.2.1 3), bPlan E pl (Z0.2.1 4), bPlan E dr (Z0.2.1 5), bRumour E (G 6) (Z0.2.1 6), bIm E G (Z0.2.1 7), bNow E (G 8) (G 10) e1 (Z0.2.1 8), bNow E (G 9) (G 11) e2 (Z0.2.1 9), bScene E (G 10) (Z0.2.1 10), bScene E (G 11) (Z0.2.1 11), bPool E e0 (Z0.2.2 0), bPool E e1 (Z0.2.2 1), bPool E e2 (Z0.2.2 2)]) (br := []) [0, 1, 2, 3, 4, 5, 6, 7, 8, 9, 10, 11, 12, 13, 14] rfl rfl (by decide)
    have hP := gP_perm p2.symm hP
    have hD := gD_perm p2.symm hD
    clear p2
    have hP : gP E (gcW E G pl dr e0 e1 e2 Z0) H := hP
    have hD : va_D A (gcW E G pl dr e0 e1 e2 Z0) := hD
    exact hret r_3 () _ _ _ _ _ h rfl hP hD hS dX5_now_73
  · have h := h.2.2.2.2.1 c
    refine lv_asi c ?_
    refine lv_tableIn (off := 73) (tgt := 74) hx hb dX5_now_1 (by decide) (by decide) rfl (by decide) ?_
    refine lv_aload_n hx hb dX5_now_74 rfl (lv_at hl 0 rfl) ?_
    have p1 := gB (n := 15) (bs := [bGC G (pl 99) (dr 99) Z0.1, bText E (G 1) (Z0.2.1 1), bNow E (G 2) (G 3) e0 (Z0.2.1 2), bScene E (G 3) (Z0.2.1 3), bPlan E pl (Z0.2.1 4), bPlan E dr (Z0.2.1 5), bRumour E (G 6) (Z0.2.1 6), bIm E G (Z0.2.1 7), bNow E (G 8) (G 10) e1 (Z0.2.1 8), bNow E (G 9) (G 11) e2 (Z0.2.1 9), bScene E (G 10) (Z0.2.1 10), bScene E (G 11) (Z0.2.1 11), bPool E e0 (Z0.2.2 0), bPool E e1 (Z0.2.2 1), bPool E e2 (Z0.2.2 2)]) (bc := [bGC G (pl 99) (dr 99) Z0.1, bText E (G 1) (Z0.2.1 1), bNow E (G 2) (G 3) e0 (Z0.2.1 2), bScene E (G 3) (Z0.2.1 3), bPlan E pl (Z0.2.1 4), bPlan E dr (Z0.2.1 5), bRumour E (G 6) (Z0.2.1 6), bIm E G (Z0.2.1 7), bNow E (G 8) (G 10) e1 (Z0.2.1 8), bNow E (G 9) (G 11) e2 (Z0.2.1 9), bScene E (G 10) (Z0.2.1 10), bScene E (G 11) (Z0.2.1 11), bPool E e0 (Z0.2.2 0), bPool E e1 (Z0.2.2 1), bPool E e2 (Z0.2.2 2)]) (br := []) [0, 1, 2, 3, 4, 5, 6, 7, 8, 9, 10, 11, 12, 13, 14] rfl rfl (by decide)
    refine g_i (g_runV (As := []) (rest := []) ⟨hx, hb, hml, hown, ht⟩ hE (c_X5_greatestRounds E l G pl dr e0 e1 e2 Z0 _ h) ⟨rfl, rfl⟩ wk_X5_171 wi_X5_greatestRounds ws_X5_greatestRounds wn_X5 wc_X5_greatestRounds yd_X5_greatestRounds ⟨Nat.le_of_ble_eq_true rfl, Nat.le_of_ble_eq_true rfl⟩ hP hD p1 (ci := 5) rfl rfl rfl rfl rfl hl.1 rfl (lv_room (Nat.le_of_ble_eq_true rfl)) dX5_now_75 ⟨Nat.zero_le _, Nat.zero_le _⟩) hP hD hS p1 (fun r_4 _ w H locs h hw hP hD hS => ?_)
    subst hw
    clear p1
    have p2 := gB (n := 15) (bs := [bGC G (pl 99) (dr 99) Z0.1, bText E (G 1) (Z0.2.1 1), bNow E (G 2) (G 3) e0 (Z0.2.1 2), bScene E (G 3) (Z0.2.1 3), bPlan E pl (Z0.2.1 4), bPlan E dr (Z0.2.1 5), bRumour E (G 6) (Z0.2.1 6), bIm E G (Z0.2.1 7), bNow E (G 8) (G 10) e1 (Z0.2.1 8), bNow E (G 9) (G 11) e2 (Z0.2.1 9), bScene E (G 10) (Z0.2.1 10), bScene E (G 11) (Z0.2.1 11), bPool E e0 (Z0.2.2 0), bPool E e1 (Z0.2.2 1), bPool E e2 (Z0.2.2 2)]) (bc := [bGC G (pl 99) (dr 99) Z0.1, bText E (G 1) (Z0.2.1 1), bNow E (G 2) (G 3) e0 (Z0.2.1 2), bScene E (G 3) (Z0.2.1 3), bPlan E pl (Z0.2.1 4), bPlan E dr (Z0.2.1 5), bRumour E (G 6) (Z0.2.1 6), bIm E G (Z0.2.1 7), bNow E (G 8) (G 10) e1 (Z0.2.1 8), bNow E (G 9) (G 11) e2 (Z0.2.1 9), bScene E (G 10) (Z0.2.1 10), bScene E (G 11) (Z0.2.1 11), bPool E e0 (Z0.2.2 0), bPool E e1 (Z0.2.2 1), bPool E e2 (Z0.2.2 2)]) (br := []) [0, 1, 2, 3, 4, 5, 6, 7, 8, 9, 10, 11, 12, 13, 14] rfl rfl (by decide)
    have hP := gP_perm p2.symm hP
    have hD := gD_perm p2.symm hD
    clear p2
    have hP : gP E (gcW E G pl dr e0 e1 e2 Z0) H := hP
    have hD : va_D A (gcW E G pl dr e0 e1 e2 Z0) := hD
    exact hret r_4 () _ _ _ _ _ h rfl hP hD hS dX5_now_78
  · have h := h.2.2.2.2.2 c
    refine lv_tableOut (tgt := 79) hx hb dX5_now_1 c (by decide) ?_
    refine lv_iconst (v := (-1)) hx hb dX5_now_79 (by decide) ?_
    exact hret (-1) () _ _ _ _ _ h rfl hP hD hS dX5_now_80
theorem dX5_left_0 : decode cX5_left 0 = .ok (.aload_n 0, 1) := by decide +kernel
theorem dX5_left_1 : decode cX5_left 1 = .ok (.iload_n 1, 1) := by decide +kernel
theorem dX5_left_2 : decode cX5_left 2 = .ok (.invokevirtual 71, 3) := by decide +kernel
theorem dX5_left_5 : decode cX5_left 5 = .ok (.ifCond .ne 5, 3) := by decide +kernel
theorem dX5_left_8 : decode cX5_left 8 = .ok (.iconst (-1), 1) := by decide +kernel
theorem dX5_left_9 : decode cX5_left 9 = .ok (.ireturn, 1) := by decide +kernel
theorem dX5_left_10 : decode cX5_left 10 = .ok (.aload_n 0, 1) := by decide +kernel
theorem dX5_left_11 : decode cX5_left 11 = .ok (.getfield 19, 3) := by decide +kernel
theorem dX5_left_14 : decode cX5_left 14 = .ok (.getfield 75, 3) := by decide +kernel
theorem dX5_left_17 : decode cX5_left 17 = .ok (.iload_n 1, 1) := by decide +kernel
theorem dX5_left_18 : decode cX5_left 18 = .ok (.invokevirtual 174, 3) := by decide +kernel
theorem dX5_left_21 : decode cX5_left 21 = .ok (.ireturn, 1) := by decide +kernel
set_option maxHeartbeats 4000000 in
set_option maxRecDepth 100000 in
theorem c_X5_left (E : GE) (l : Launch) (G : Nat → Nat → Nat) (pl dr : Nat → Nat) (e0 e1 e2 : Nat → Nat → Nat) (Z0 : GC) (x1 : Int32) (post : Int32 → Prop) (h : wp_X5_left Z0 x1 post) : Met l yX5_left (wz yX5_left cX5_left 2 (some .int)) { frames := 5, cells := 0, slots := 0, locals := 105 } (gPc E [.ref (G 0 99), .int x1] (gcW E G pl dr e0 e1 e2 Z0)) (gQi E (gcW E G pl dr e0 e1 e2 Z0) (fun r (_ : Unit) => post r) (fun (_ : Unit) w => w = gcW E G pl dr e0 e1 e2 Z0)) 0 0 (gIn (gcW E G pl dr e0 e1 e2 Z0)) := by
  unfold wp_X5_left at h
  refine g_of_i (by decide) (Nat.le_of_ble_eq_true rfl) ?_
  intro p e s m below meth c A Q hx hb hml hown ht hE hP hD hret ls hl
  have hK := hE.1
  have hS : va_S A s.heap s.heap [] := va_S.rf
  have hl : lv_has ls 2 [(0, .ref (G 0 99)), (1, .int x1)] := hl
  refine lv_aload_n hx hb dX5_left_0 rfl (lv_at hl 0 rfl) ?_
  refine lv_iload_n hx hb dX5_left_1 rfl (lv_at hl 1 rfl) ?_
  have p1 := gB (n := 15) (bs := [bGC G (pl 99) (dr 99) Z0.1, bText E (G 1) (Z0.2.1 1), bNow E (G 2) (G 3) e0 (Z0.2.1 2), bScene E (G 3) (Z0.2.1 3), bPlan E pl (Z0.2.1 4), bPlan E dr (Z0.2.1 5), bRumour E (G 6) (Z0.2.1 6), bIm E G (Z0.2.1 7), bNow E (G 8) (G 10) e1 (Z0.2.1 8), bNow E (G 9) (G 11) e2 (Z0.2.1 9), bScene E (G 10) (Z0.2.1 10), bScene E (G 11) (Z0.2.1 11), bPool E e0 (Z0.2.2 0), bPool E e1 (Z0.2.2 1), bPool E e2 (Z0.2.2 2)]) (bc := [bGC G (pl 99) (dr 99) Z0.1, bText E (G 1) (Z0.2.1 1), bNow E (G 2) (G 3) e0 (Z0.2.1 2), bScene E (G 3) (Z0.2.1 3), bPlan E pl (Z0.2.1 4), bPlan E dr (Z0.2.1 5), bRumour E (G 6) (Z0.2.1 6), bIm E G (Z0.2.1 7), bNow E (G 8) (G 10) e1 (Z0.2.1 8), bNow E (G 9) (G 11) e2 (Z0.2.1 9), bScene E (G 10) (Z0.2.1 10), bScene E (G 11) (Z0.2.1 11), bPool E e0 (Z0.2.2 0), bPool E e1 (Z0.2.2 1), bPool E e2 (Z0.2.2 2)]) (br := []) [0, 1, 2, 3, 4, 5, 6, 7, 8, 9, 10, 11, 12, 13, 14] rfl rfl (by decide)
  refine g_i (g_runV (As := [.int x1]) (rest := []) ⟨hx, hb, hml, hown, ht⟩ hE (c_X5_isLock E l G pl dr e0 e1 e2 Z0 x1 _ h) ⟨rfl, rfl⟩ wk_X5_71 wi_X5_isLock ws_X5_isLock wn_X5 wc_X5_isLock yd_X5_isLock ⟨Nat.le_of_ble_eq_true rfl, Nat.le_of_ble_eq_true rfl⟩ hP hD p1 (ci := 5) rfl rfl rfl rfl rfl hl.1 rfl (lv_room (Nat.le_of_ble_eq_true rfl)) dX5_left_2 ⟨Nat.zero_le _, Nat.zero_le _⟩) hP hD hS p1 (fun r_1 _ w H locs h hw hP hD hS => ?_)
  subst hw
  clear p1
  have p2 := gB (n := 15) (bs := [bGC G (pl 99) (dr 99) Z0.1, bText E (G 1) (Z0.2.1 1), bNow E (G 2) (G 3) e0 (Z0.2.1 2), bScene E (G 3) (Z0.2.1 3), bPlan E pl (Z0.2.1 4), bPlan E dr (Z0.2.1 5), bRumour E (G 6) (Z0.2.1 6), bIm E G (Z0.2.1 7), bNow E (G 8) (G 10) e1 (Z0.2.1 8), bNow E (G 9) (G 11) e2 (Z0.2.1 9), bScene E (G 10) (Z0.2.1 10), bScene E (G 11) (Z0.2.1 11), bPool E e0 (Z0.2.2 0), bPool E e1 (Z0.2.2 1), bPool E e2 (Z0.2.2 2)]) (bc := [bGC G (pl 99) (dr 99) Z0.1, bText E (G 1) (Z0.2.1 1), bNow E (G 2) (G 3) e0 (Z0.2.1 2), bScene E (G 3) (Z0.2.1 3), bPlan E pl (Z0.2.1 4), bPlan E dr (Z0.2.1 5), bRumour E (G 6) (Z0.2.1 6), bIm E G (Z0.2.1 7), bNow E (G 8) (G 10) e1 (Z0.2.1 8), bNow E (G 9) (G 11) e2 (Z0.2.1 9), bScene E (G 10) (Z0.2.1 10), bScene E (G 11) (Z0.2.1 11), bPool E e0 (Z0.2.2 0), bPool E e1 (Z0.2.2 1), bPool E e2 (Z0.2.2 2)]) (br := []) [0, 1, 2, 3, 4, 5, 6, 7, 8, 9, 10, 11, 12, 13, 14] rfl rfl (by decide)
  have hP := gP_perm p2.symm hP
  have hD := gD_perm p2.symm hD
  clear p2
  have hP : gP E (gcW E G pl dr e0 e1 e2 Z0) H := hP
  have hD : va_D A (gcW E G pl dr e0 e1 e2 Z0) := hD
  refine lv_if_ne (tgt := 10) hx hb dX5_left_5 (by decide) (fun c_2 => ?_) (fun c_2 => ?_)
  · have h := h.1 c_2
    refine lv_aload_n hx hb dX5_left_10 rfl (lv_at hl 0 rfl) ?_
    refine va_get (D := (E.1, E.2.1)) (ci := 5) (v := .ref (G 2 99)) (C := RX5) (T := TX5) (N := 8) hx hb ht wu_X5 hown hK hP 0 rfl rfl 1 (by decide) (ht _ wk_X5_19) (fun _ h9 => h9) rfl dX5_left_11 ?_
    refine va_get (D := (E.1, E.2.1)) (ci := 0) (v := .ref ((G 3) 99)) (C := RX0) (T := TX0) (N := 3) hx hb ht wu_X0 hown hK hP 3 rfl rfl 0 (by decide) (ht _ wk_X5_75) (fun _ h9 => h9) rfl dX5_left_14 ?_
    refine lv_iload_n hx hb dX5_left_17 rfl (lv_at hl 1 rfl) ?_
    have p1 := gB (n := 15) (bs := [bGC G (pl 99) (dr 99) Z0.1, bText E (G 1) (Z0.2.1 1), bNow E (G 2) (G 3) e0 (Z0.2.1 2), bScene E (G 3) (Z0.2.1 3), bPlan E pl (Z0.2.1 4), bPlan E dr (Z0.2.1 5), bRumour E (G 6) (Z0.2.1 6), bIm E G (Z0.2.1 7), bNow E (G 8) (G 10) e1 (Z0.2.1 8), bNow E (G 9) (G 11) e2 (Z0.2.1 9), bScene E (G 10) (Z0.2.1 10), bScene E (G 11) (Z0.2.1 11), bPool E e0 (Z0.2.2 0), bPool E e1 (Z0.2.2 1), bPool E e2 (Z0.2.2 2)]) (bc := [bScene E (G 3) (Z0.2.1 3)]) (br := [bGC G (pl 99) (dr 99) Z0.1, bText E (G 1) (Z0.2.1 1), bNow E (G 2) (G 3) e0 (Z0.2.1 2), bPlan E pl (Z0.2.1 4), bPlan E dr (Z0.2.1 5), bRumour E (G 6) (Z0.2.1 6), bIm E G (Z0.2.1 7), bNow E (G 8) (G 10) e1 (Z0.2.1 8), bNow E (G 9) (G 11) e2 (Z0.2.1 9), bScene E (G 10) (Z0.2.1 10), bScene E (G 11) (Z0.2.1 11), bPool E e0 (Z0.2.2 0), bPool E e1 (Z0.2.2 1), bPool E e2 (Z0.2.2 2)]) [3, 0, 1, 2, 4, 5, 6, 7, 8, 9, 10, 11, 12, 13, 14] rfl rfl (by decide)
    refine g_i (g_runV (As := [.int x1]) (rest := []) ⟨hx, hb, hml, hown, ht⟩ hE (c_X3_leftBy E l (G 3) (Z0.2.1 3) x1 _ h) ⟨rfl, rfl⟩ wk_X5_174 wi_X3_leftBy ws_X3_leftBy wn_X3 wc_X3_leftBy yd_X3_leftBy ⟨Nat.le_of_ble_eq_true rfl, Nat.le_of_ble_eq_true rfl⟩ hP hD p1 (ci := 3) rfl rfl rfl rfl rfl hl.1 rfl (lv_room (Nat.le_of_ble_eq_true rfl)) dX5_left_18 ⟨Nat.zero_le _, Nat.zero_le _⟩) hP hD hS p1 (fun r_3 _ w H locs h hw hP hD hS => ?_)
    subst hw
    clear p1
    have p2 := gB (n := 15) (bs := [bGC G (pl 99) (dr 99) Z0.1, bText E (G 1) (Z0.2.1 1), bNow E (G 2) (G 3) e0 (Z0.2.1 2), bScene E (G 3) (Z0.2.1 3), bPlan E pl (Z0.2.1 4), bPlan E dr (Z0.2.1 5), bRumour E (G 6) (Z0.2.1 6), bIm E G (Z0.2.1 7), bNow E (G 8) (G 10) e1 (Z0.2.1 8), bNow E (G 9) (G 11) e2 (Z0.2.1 9), bScene E (G 10) (Z0.2.1 10), bScene E (G 11) (Z0.2.1 11), bPool E e0 (Z0.2.2 0), bPool E e1 (Z0.2.2 1), bPool E e2 (Z0.2.2 2)]) (bc := [bScene E (G 3) (Z0.2.1 3)]) (br := [bGC G (pl 99) (dr 99) Z0.1, bText E (G 1) (Z0.2.1 1), bNow E (G 2) (G 3) e0 (Z0.2.1 2), bPlan E pl (Z0.2.1 4), bPlan E dr (Z0.2.1 5), bRumour E (G 6) (Z0.2.1 6), bIm E G (Z0.2.1 7), bNow E (G 8) (G 10) e1 (Z0.2.1 8), bNow E (G 9) (G 11) e2 (Z0.2.1 9), bScene E (G 10) (Z0.2.1 10), bScene E (G 11) (Z0.2.1 11), bPool E e0 (Z0.2.2 0), bPool E e1 (Z0.2.2 1), bPool E e2 (Z0.2.2 2)]) [3, 0, 1, 2, 4, 5, 6, 7, 8, 9, 10, 11, 12, 13, 14] rfl rfl (by decide)
    have hP := gP_perm p2.symm hP
    have hD := gD_perm p2.symm hD
    clear p2
    have hP : gP E (gcW E G pl dr e0 e1 e2 Z0) H := hP
    have hD : va_D A (gcW E G pl dr e0 e1 e2 Z0) := hD
    exact hret r_3 () _ _ _ _ _ h rfl hP hD hS dX5_left_21
  · have h := h.2 c_2
    refine lv_iconst (v := (-1)) hx hb dX5_left_8 (by decide) ?_
    exact hret (-1) () _ _ _ _ _ h rfl hP hD hS dX5_left_9
theorem dX5_fewestWhoKnowMore_0 : decode cX5_fewestWhoKnowMore 0 = .ok (.bipush (-9), 2) := by decide +kernel
theorem dX5_fewestWhoKnowMore_2 : decode cX5_fewestWhoKnowMore 2 = .ok (.istore_n 2, 1) := by decide +kernel
theorem dX5_fewestWhoKnowMore_3 : decode cX5_fewestWhoKnowMore 3 = .ok (.bipush 7, 2) := by decide +kernel
theorem dX5_fewestWhoKnowMore_5 : decode cX5_fewestWhoKnowMore 5 = .ok (.istore_n 3, 1) := by decide +kernel
theorem dX5_fewestWhoKnowMore_6 : decode cX5_fewestWhoKnowMore 6 = .ok (.aload_n 0, 1) := by decide +kernel
theorem dX5_fewestWhoKnowMore_7 : decode cX5_fewestWhoKnowMore 7 = .ok (.getfield 19, 3) := by decide +kernel
theorem dX5_fewestWhoKnowMore_10 : decode cX5_fewestWhoKnowMore 10 = .ok (.getfield 75, 3) := by decide +kernel
theorem dX5_fewestWhoKnowMore_13 : decode cX5_fewestWhoKnowMore 13 = .ok (.invokevirtual 165, 3) := by decide +kernel
theorem dX5_fewestWhoKnowMore_16 : decode cX5_fewestWhoKnowMore 16 = .ok (.istore 4, 2) := by decide +kernel
theorem dX5_fewestWhoKnowMore_18 : decode cX5_fewestWhoKnowMore 18 = .ok (.iconst 1, 1) := by decide +kernel
theorem dX5_fewestWhoKnowMore_19 : decode cX5_fewestWhoKnowMore 19 = .ok (.istore 5, 2) := by decide +kernel
theorem dX5_fewestWhoKnowMore_21 : decode cX5_fewestWhoKnowMore 21 = .ok (.iload 5, 2) := by decide +kernel
theorem dX5_fewestWhoKnowMore_23 : decode cX5_fewestWhoKnowMore 23 = .ok (.iconst 1, 1) := by decide +kernel
theorem dX5_fewestWhoKnowMore_24 : decode cX5_fewestWhoKnowMore 24 = .ok (.aload_n 0, 1) := by decide +kernel
theorem dX5_fewestWhoKnowMore_25 : decode cX5_fewestWhoKnowMore 25 = .ok (.getfield 41, 3) := by decide +kernel
theorem dX5_fewestWhoKnowMore_28 : decode cX5_fewestWhoKnowMore 28 = .ok (.getfield 233, 3) := by decide +kernel
theorem dX5_fewestWhoKnowMore_31 : decode cX5_fewestWhoKnowMore 31 = .ok (.ishl, 1) := by decide +kernel
theorem dX5_fewestWhoKnowMore_32 : decode cX5_fewestWhoKnowMore 32 = .ok (.if_icmp .ge 50, 3) := by decide +kernel
theorem dX5_fewestWhoKnowMore_35 : decode cX5_fewestWhoKnowMore 35 = .ok (.iload 5, 2) := by decide +kernel
theorem dX5_fewestWhoKnowMore_37 : decode cX5_fewestWhoKnowMore 37 = .ok (.invokestatic 183, 3) := by decide +kernel
theorem dX5_fewestWhoKnowMore_40 : decode cX5_fewestWhoKnowMore 40 = .ok (.istore 6, 2) := by decide +kernel
theorem dX5_fewestWhoKnowMore_42 : decode cX5_fewestWhoKnowMore 42 = .ok (.iload 6, 2) := by decide +kernel
theorem dX5_fewestWhoKnowMore_44 : decode cX5_fewestWhoKnowMore 44 = .ok (.iload_n 3, 1) := by decide +kernel
theorem dX5_fewestWhoKnowMore_45 : decode cX5_fewestWhoKnowMore 45 = .ok (.if_icmp .ge 31, 3) := by decide +kernel
theorem dX5_fewestWhoKnowMore_48 : decode cX5_fewestWhoKnowMore 48 = .ok (.aload_n 0, 1) := by decide +kernel
theorem dX5_fewestWhoKnowMore_49 : decode cX5_fewestWhoKnowMore 49 = .ok (.getfield 19, 3) := by decide +kernel
theorem dX5_fewestWhoKnowMore_52 : decode cX5_fewestWhoKnowMore 52 = .ok (.getfield 75, 3) := by decide +kernel
theorem dX5_fewestWhoKnowMore_55 : decode cX5_fewestWhoKnowMore 55 = .ok (.iload 5, 2) := by decide +kernel
theorem dX5_fewestWhoKnowMore_57 : decode cX5_fewestWhoKnowMore 57 = .ok (.invokevirtual 103, 3) := by decide +kernel
theorem dX5_fewestWhoKnowMore_60 : decode cX5_fewestWhoKnowMore 60 = .ok (.iload 4, 2) := by decide +kernel
theorem dX5_fewestWhoKnowMore_62 : decode cX5_fewestWhoKnowMore 62 = .ok (.iand, 1) := by decide +kernel
theorem dX5_fewestWhoKnowMore_63 : decode cX5_fewestWhoKnowMore 63 = .ok (.invokestatic 183, 3) := by decide +kernel
theorem dX5_fewestWhoKnowMore_66 : decode cX5_fewestWhoKnowMore 66 = .ok (.iload_n 1, 1) := by decide +kernel
theorem dX5_fewestWhoKnowMore_67 : decode cX5_fewestWhoKnowMore 67 = .ok (.if_icmp .le 9, 3) := by decide +kernel
theorem dX5_fewestWhoKnowMore_70 : decode cX5_fewestWhoKnowMore 70 = .ok (.iload 6, 2) := by decide +kernel
theorem dX5_fewestWhoKnowMore_72 : decode cX5_fewestWhoKnowMore 72 = .ok (.istore_n 3, 1) := by decide +kernel
theorem dX5_fewestWhoKnowMore_73 : decode cX5_fewestWhoKnowMore 73 = .ok (.iload 5, 2) := by decide +kernel
theorem dX5_fewestWhoKnowMore_75 : decode cX5_fewestWhoKnowMore 75 = .ok (.istore_n 2, 1) := by decide +kernel
theorem dX5_fewestWhoKnowMore_76 : decode cX5_fewestWhoKnowMore 76 = .ok (.iinc 5 1, 3) := by decide +kernel
theorem dX5_fewestWhoKnowMore_79 : decode cX5_fewestWhoKnowMore 79 = .ok (.goto (-58), 3) := by decide +kernel
theorem dX5_fewestWhoKnowMore_82 : decode cX5_fewestWhoKnowMore 82 = .ok (.iload_n 2, 1) := by decide +kernel
theorem dX5_fewestWhoKnowMore_83 : decode cX5_fewestWhoKnowMore 83 = .ok (.ireturn, 1) := by decide +kernel
set_option maxHeartbeats 4000000 in
set_option maxRecDepth 100000 in
theorem c_X5_fewestWhoKnowMore (E : GE) (l : Launch) (G : Nat → Nat → Nat) (pl dr : Nat → Nat) (e0 e1 e2 : Nat → Nat → Nat) (Z0 : GC) (x1 : Int32) (post : Int32 → Prop) (h : wp_X5_fewestWhoKnowMore Z0 x1 post) : Met l yX5_fewestWhoKnowMore (wz yX5_fewestWhoKnowMore cX5_fewestWhoKnowMore 7 (some .int)) { frames := 3, cells := 0, slots := 0, locals := 64 } (gPc E [.ref (G 0 99), .int x1] (gcW E G pl dr e0 e1 e2 Z0)) (gQi E (gcW E G pl dr e0 e1 e2 Z0) (fun r (_ : Unit) => post r) (fun (_ : Unit) w => w = gcW E G pl dr e0 e1 e2 Z0)) 0 0 (gIn (gcW E G pl dr e0 e1 e2 Z0)) := by
  unfold wp_X5_fewestWhoKnowMore at h
  refine g_of_i (by decide) (Nat.le_of_ble_eq_true rfl) ?_
  intro p e s m below meth c A Q hx hb hml hown ht hE hP hD hret ls hl
  have hK := hE.1
  have hS : va_S A s.heap s.heap [] := va_S.rf
  have hl : lv_has ls 7 [(0, .ref (G 0 99)), (1, .int x1)] := hl
  refine lv_bipush (v := (-9)) hx hb dX5_fewestWhoKnowMore_0 (by decide) ?_
  refine lv_istore_n (lv' := [(2, .int (-9)), (0, .ref (G 0 99)), (1, .int x1)]) hx hb dX5_fewestWhoKnowMore_2 rfl hl (by decide) rfl (fun ls hl => ?_)
  refine lv_bipush (v := 7) hx hb dX5_fewestWhoKnowMore_3 (by decide) ?_
  refine lv_istore_n (lv' := [(3, .int 7), (2, .int (-9)), (0, .ref (G 0 99)), (1, .int x1)]) hx hb dX5_fewestWhoKnowMore_5 rfl hl (by decide) rfl (fun ls hl => ?_)
  refine lv_aload_n hx hb dX5_fewestWhoKnowMore_6 rfl (lv_at hl 2 rfl) ?_
  refine va_get (D := (E.1, E.2.1)) (ci := 5) (v := .ref (G 2 99)) (C := RX5) (T := TX5) (N := 8) hx hb ht wu_X5 hown hK hP 0 rfl rfl 1 (by decide) (ht _ wk_X5_19) (fun _ h9 => h9) rfl dX5_fewestWhoKnowMore_7 ?_
  refine va_get (D := (E.1, E.2.1)) (ci := 0) (v := .ref ((G 3) 99)) (C := RX0) (T := TX0) (N := 3) hx hb ht wu_X0 hown hK hP 3 rfl rfl 0 (by decide) (ht _ wk_X5_75) (fun _ h9 => h9) rfl dX5_fewestWhoKnowMore_10 ?_
  have p1 := gB (n := 15) (bs := [bGC G (pl 99) (dr 99) Z0.1, bText E (G 1) (Z0.2.1 1), bNow E (G 2) (G 3) e0 (Z0.2.1 2), bScene E (G 3) (Z0.2.1 3), bPlan E pl (Z0.2.1 4), bPlan E dr (Z0.2.1 5), bRumour E (G 6) (Z0.2.1 6), bIm E G (Z0.2.1 7), bNow E (G 8) (G 10) e1 (Z0.2.1 8), bNow E (G 9) (G 11) e2 (Z0.2.1 9), bScene E (G 10) (Z0.2.1 10), bScene E (G 11) (Z0.2.1 11), bPool E e0 (Z0.2.2 0), bPool E e1 (Z0.2.2 1), bPool E e2 (Z0.2.2 2)]) (bc := [bScene E (G 3) (Z0.2.1 3)]) (br := [bGC G (pl 99) (dr 99) Z0.1, bText E (G 1) (Z0.2.1 1), bNow E (G 2) (G 3) e0 (Z0.2.1 2), bPlan E pl (Z0.2.1 4), bPlan E dr (Z0.2.1 5), bRumour E (G 6) (Z0.2.1 6), bIm E G (Z0.2.1 7), bNow E (G 8) (G 10) e1 (Z0.2.1 8), bNow E (G 9) (G 11) e2 (Z0.2.1 9), bScene E (G 10) (Z0.2.1 10), bScene E (G 11) (Z0.2.1 11), bPool E e0 (Z0.2.2 0), bPool E e1 (Z0.2.2 1), bPool E e2 (Z0.2.2 2)]) [3, 0, 1, 2, 4, 5, 6, 7, 8, 9, 10, 11, 12, 13, 14] rfl rfl (by decide)
  refine g_i (g_runV (As := []) (rest := []) ⟨hx, hb, hml, hown, ht⟩ hE (c_X3_ringBits E l (G 3) (Z0.2.1 3) _ h) ⟨rfl, rfl⟩ wk_X5_165 wi_X3_ringBits ws_X3_ringBits wn_X3 wc_X3_ringBits yd_X3_ringBits ⟨Nat.le_of_ble_eq_true rfl, Nat.le_of_ble_eq_true rfl⟩ hP hD p1 (ci := 3) rfl rfl rfl rfl rfl hl.1 rfl (lv_room (Nat.le_of_ble_eq_true rfl)) dX5_fewestWhoKnowMore_13 ⟨Nat.zero_le _, Nat.zero_le _⟩) hP hD hS p1 (fun r_1 _ w H locs h hw hP hD hS => ?_)
  subst hw
  clear p1
  have p2 := gB (n := 15) (bs := [bGC G (pl 99) (dr 99) Z0.1, bText E (G 1) (Z0.2.1 1), bNow E (G 2) (G 3) e0 (Z0.2.1 2), bScene E (G 3) (Z0.2.1 3), bPlan E pl (Z0.2.1 4), bPlan E dr (Z0.2.1 5), bRumour E (G 6) (Z0.2.1 6), bIm E G (Z0.2.1 7), bNow E (G 8) (G 10) e1 (Z0.2.1 8), bNow E (G 9) (G 11) e2 (Z0.2.1 9), bScene E (G 10) (Z0.2.1 10), bScene E (G 11) (Z0.2.1 11), bPool E e0 (Z0.2.2 0), bPool E e1 (Z0.2.2 1), bPool E e2 (Z0.2.2 2)]) (bc := [bScene E (G 3) (Z0.2.1 3)]) (br := [bGC G (pl 99) (dr 99) Z0.1, bText E (G 1) (Z0.2.1 1), bNow E (G 2) (G 3) e0 (Z0.2.1 2), bPlan E pl (Z0.2.1 4), bPlan E dr (Z0.2.1 5), bRumour E (G 6) (Z0.2.1 6), bIm E G (Z0.2.1 7), bNow E (G 8) (G 10) e1 (Z0.2.1 8), bNow E (G 9) (G 11) e2 (Z0.2.1 9), bScene E (G 10) (Z0.2.1 10), bScene E (G 11) (Z0.2.1 11), bPool E e0 (Z0.2.2 0), bPool E e1 (Z0.2.2 1), bPool E e2 (Z0.2.2 2)]) [3, 0, 1, 2, 4, 5, 6, 7, 8, 9, 10, 11, 12, 13, 14] rfl rfl (by decide)
  have hP := gP_perm p2.symm hP
  have hD := gD_perm p2.symm hD
  clear p2
  have hP : gP E (gcW E G pl dr e0 e1 e2 Z0) H := hP
  have hD : va_D A (gcW E G pl dr e0 e1 e2 Z0) := hD
  refine lv_istore (lv' := [(4, .int r_1), (3, .int 7), (2, .int (-9)), (0, .ref (G 0 99)), (1, .int x1)]) hx hb dX5_fewestWhoKnowMore_16 hl (by decide) rfl (fun ls hl => ?_)
  refine lv_iconst (v := 1) hx hb dX5_fewestWhoKnowMore_18 (by decide) ?_
  refine lv_istore (lv' := [(5, .int 1), (4, .int r_1), (3, .int 7), (2, .int (-9)), (0, .ref (G 0 99)), (1, .int x1)]) hx hb dX5_fewestWhoKnowMore_19 hl (by decide) rfl (fun ls hl => ?_)
  have L21 : ∀ (n21 : Nat) (x2_21 : Int32) (x3_21 : Int32) (x5_21 : Int32) (H : Heap) (locs : List Loc) (ls : Array Slot), wp_X5_fewestWhoKnowMore_L21 post x1 r_1 Z0 n21 x2_21 x3_21 x5_21 → gP E (gcW E G pl dr e0 e1 e2 Z0) H → va_D A (gcW E G pl dr e0 e1 e2 Z0) → va_S A s.heap H locs → lv_has ls 7 [(0, .ref (G 0 99)), (1, .int x1), (2, .int x2_21), (3, .int x3_21), (4, .int r_1), (5, .int x5_21)] → W p l e { frames := 3, cells := 0, slots := 0, locals := 64 } s m ([.ref (G 0 99), .int x1] : List Value).toArray below meth c H locs 0 0 Q (F0 m 21 ls []) := by
    intro n21
    induction n21 with
    | zero => intro x2_21 x3_21 x5_21 H locs ls h; exact h.elim
    | succ n21 ih21 =>
      intro x2_21 x3_21 x5_21 H locs ls h hP hD hS hl
      rw [wp_X5_fewestWhoKnowMore_L21] at h
      refine lv_iload hx hb dX5_fewestWhoKnowMore_21 (lv_at hl 5 rfl) ?_
      refine lv_iconst (v := 1) hx hb dX5_fewestWhoKnowMore_23 (by decide) ?_
      refine lv_aload_n hx hb dX5_fewestWhoKnowMore_24 rfl (lv_at hl 0 rfl) ?_
      refine va_get (D := (E.1, E.2.1)) (ci := 5) (v := .ref (pl 99)) (C := RX5) (T := TX5) (N := 8) hx hb ht wu_X5 hown hK hP 0 rfl rfl 5 (by decide) (ht _ wk_X5_41) (fun _ h9 => h9) rfl dX5_fewestWhoKnowMore_25 ?_
      refine va_get (D := (E.1, E.2.1)) (ci := 1) (v := .int ((Z0.2.1 4).1 3)) (C := RX1) (T := TX1) (N := 5) hx hb ht wu_X1 hown hK hP 10 rfl rfl 3 (by decide) (ht _ wk_X5_233) (fun _ h9 => h9) rfl dX5_fewestWhoKnowMore_28 ?_
      refine lv_ishl hx hb dX5_fewestWhoKnowMore_31 ?_
      refine lv_icmp_ge (tgt := 82) hx hb dX5_fewestWhoKnowMore_32 (by decide) (fun c_8 => ?_) (fun c_8 => ?_)
      · have h := h.1 c_8
        refine lv_iload_n hx hb dX5_fewestWhoKnowMore_82 rfl (lv_at hl 2 rfl) ?_
        exact hret x2_21 () _ _ _ _ _ h rfl hP hD hS dX5_fewestWhoKnowMore_83
      · have h := h.2 c_8
        refine lv_iload hx hb dX5_fewestWhoKnowMore_35 (lv_at hl 5 rfl) ?_
        have p1 := gB (n := 15) (bs := [bGC G (pl 99) (dr 99) Z0.1, bText E (G 1) (Z0.2.1 1), bNow E (G 2) (G 3) e0 (Z0.2.1 2), bScene E (G 3) (Z0.2.1 3), bPlan E pl (Z0.2.1 4), bPlan E dr (Z0.2.1 5), bRumour E (G 6) (Z0.2.1 6), bIm E G (Z0.2.1 7), bNow E (G 8) (G 10) e1 (Z0.2.1 8), bNow E (G 9) (G 11) e2 (Z0.2.1 9), bScene E (G 10) (Z0.2.1 10), bScene E (G 11) (Z0.2.1 11), bPool E e0 (Z0.2.2 0), bPool E e1 (Z0.2.2 1), bPool E e2 (Z0.2.2 2)]) (bc := []) (br := [bGC G (pl 99) (dr 99) Z0.1, bText E (G 1) (Z0.2.1 1), bNow E (G 2) (G 3) e0 (Z0.2.1 2), bScene E (G 3) (Z0.2.1 3), bPlan E pl (Z0.2.1 4), bPlan E dr (Z0.2.1 5), bRumour E (G 6) (Z0.2.1 6), bIm E G (Z0.2.1 7), bNow E (G 8) (G 10) e1 (Z0.2.1 8), bNow E (G 9) (G 11) e2 (Z0.2.1 9), bScene E (G 10) (Z0.2.1 10), bScene E (G 11) (Z0.2.1 11), bPool E e0 (Z0.2.2 0), bPool E e1 (Z0.2.2 1), bPool E e2 (Z0.2.2 2)]) [0, 1, 2, 3, 4, 5, 6, 7, 8, 9, 10, 11, 12, 13, 14] rfl rfl (by decide)
        refine g_i (g_runS (As := [.int x5_21]) (rest := []) ⟨hx, hb, hml, hown, ht⟩ hE (c_J6_bitCount_0f7a4 E l x5_21 _ h) ⟨rfl, rfl⟩ wk_X5_183 wt_J6_bitCount_0f7a4 wn_J6 wc_J6_bitCount_0f7a4 yd_J6_bitCount_0f7a4 ⟨Nat.le_of_ble_eq_true rfl, Nat.le_of_ble_eq_true rfl⟩ hP hD p1 rfl rfl hl.1 rfl (lv_room (Nat.le_of_ble_eq_true rfl)) dX5_fewestWhoKnowMore_37 ⟨Nat.zero_le _, Nat.zero_le _⟩) hP hD hS p1 (fun r_9 _ w H locs h hw hP hD hS => ?_)
        subst hw
        clear p1
        have p2 := gB (n := 15) (bs := [bGC G (pl 99) (dr 99) Z0.1, bText E (G 1) (Z0.2.1 1), bNow E (G 2) (G 3) e0 (Z0.2.1 2), bScene E (G 3) (Z0.2.1 3), bPlan E pl (Z0.2.1 4), bPlan E dr (Z0.2.1 5), bRumour E (G 6) (Z0.2.1 6), bIm E G (Z0.2.1 7), bNow E (G 8) (G 10) e1 (Z0.2.1 8), bNow E (G 9) (G 11) e2 (Z0.2.1 9), bScene E (G 10) (Z0.2.1 10), bScene E (G 11) (Z0.2.1 11), bPool E e0 (Z0.2.2 0), bPool E e1 (Z0.2.2 1), bPool E e2 (Z0.2.2 2)]) (bc := []) (br := [bGC G (pl 99) (dr 99) Z0.1, bText E (G 1) (Z0.2.1 1), bNow E (G 2) (G 3) e0 (Z0.2.1 2), bScene E (G 3) (Z0.2.1 3), bPlan E pl (Z0.2.1 4), bPlan E dr (Z0.2.1 5), bRumour E (G 6) (Z0.2.1 6), bIm E G (Z0.2.1 7), bNow E (G 8) (G 10) e1 (Z0.2.1 8), bNow E (G 9) (G 11) e2 (Z0.2.1 9), bScene E (G 10) (Z0.2.1 10), bScene E (G 11) (Z0.2.1 11), bPool E e0 (Z0.2.2 0), bPool E e1 (Z0.2.2 1), bPool E e2 (Z0.2.2 2)]) [0, 1, 2, 3, 4, 5, 6, 7, 8, 9, 10, 11, 12, 13, 14] rfl rfl (by decide)
        have hP := gP_perm p2.symm hP
        have hD := gD_perm p2.symm hD
        clear p2
        have hP : gP E (gcW E G pl dr e0 e1 e2 Z0) H := hP
        have hD : va_D A (gcW E G pl dr e0 e1 e2 Z0) := hD
        refine lv_istore (lv' := [(6, .int r_9), (0, .ref (G 0 99)), (1, .int x1), (2, .int x2_21), (3, .int x3_21), (4, .int r_1), (5, .int x5_21)]) hx hb dX5_fewestWhoKnowMore_40 hl (by decide) rfl (fun ls hl => ?_)
        refine lv_iload hx hb dX5_fewestWhoKnowMore_42 (lv_at hl 0 rfl) ?_
        refine lv_iload_n hx hb dX5_fewestWhoKnowMore_44 rfl (lv_at hl 4 rfl) ?_
        refine lv_icmp_ge (tgt := 76) hx hb dX5_fewestWhoKnowMore_45 (by decide) (fun c_10 => ?_) (fun c_10 => ?_)
        · have h := h.1 c_10
          refine lv_iinc (v := (x5_21 + 1)) (lv' := [(5, .int (x5_21 + 1)), (6, .int r_9), (0, .ref (G 0 99)), (1, .int x1), (2, .int x2_21), (3, .int x3_21), (4, .int r_1)]) hx hb dX5_fewestWhoKnowMore_76 hl (k := 6) rfl rfl (by decide) rfl (fun ls hl => ?_)
          refine lv_goto (tgt := 21) hx hb dX5_fewestWhoKnowMore_79 (by decide) ?_
          exact ih21 x2_21 x3_21 (x5_21 + 1) _ _ _ h hP hD hS (lv_sub hl [2, 3, 4, 5, 6, 0] rfl)
        · have h := h.2 c_10
          refine lv_aload_n hx hb dX5_fewestWhoKnowMore_48 rfl (lv_at hl 1 rfl) ?_
          refine va_get (D := (E.1, E.2.1)) (ci := 5) (v := .ref (G 2 99)) (C := RX5) (T := TX5) (N := 8) hx hb ht wu_X5 hown hK hP 0 rfl rfl 1 (by decide) (ht _ wk_X5_19) (fun _ h9 => h9) rfl dX5_fewestWhoKnowMore_49 ?_
          refine va_get (D := (E.1, E.2.1)) (ci := 0) (v := .ref ((G 3) 99)) (C := RX0) (T := TX0) (N := 3) hx hb ht wu_X0 hown hK hP 3 rfl rfl 0 (by decide) (ht _ wk_X5_75) (fun _ h9 => h9) rfl dX5_fewestWhoKnowMore_52 ?_
          refine lv_iload hx hb dX5_fewestWhoKnowMore_55 (lv_at hl 6 rfl) ?_
          have p1 := gB (n := 15) (bs := [bGC G (pl 99) (dr 99) Z0.1, bText E (G 1) (Z0.2.1 1), bNow E (G 2) (G 3) e0 (Z0.2.1 2), bScene E (G 3) (Z0.2.1 3), bPlan E pl (Z0.2.1 4), bPlan E dr (Z0.2.1 5), bRumour E (G 6) (Z0.2.1 6), bIm E G (Z0.2.1 7), bNow E (G 8) (G 10) e1 (Z0.2.1 8), bNow E (G 9) (G 11) e2 (Z0.2.1 9), bScene E (G 10) (Z0.2.1 10), bScene E (G 11) (Z0.2.1 11), bPool E e0 (Z0.2.2 0), bPool E e1 (Z0.2.2 1), bPool E e2 (Z0.2.2 2)]) (bc := [bScene E (G 3) (Z0.2.1 3)]) (br := [bGC G (pl 99) (dr 99) Z0.1, bText E (G 1) (Z0.2.1 1), bNow E (G 2) (G 3) e0 (Z0.2.1 2), bPlan E pl (Z0.2.1 4), bPlan E dr (Z0.2.1 5), bRumour E (G 6) (Z0.2.1 6), bIm E G (Z0.2.1 7), bNow E (G 8) (G 10) e1 (Z0.2.1 8), bNow E (G 9) (G 11) e2 (Z0.2.1 9), bScene E (G 10) (Z0.2.1 10), bScene E (G 11) (Z0.2.1 11), bPool E e0 (Z0.2.2 0), bPool E e1 (Z0.2.2 1), bPool E e2 (Z0.2.2 2)]) [3, 0, 1, 2, 4, 5, 6, 7, 8, 9, 10, 11, 12, 13, 14] rfl rfl (by decide)
          refine g_i (g_runV (As := [.int x5_21]) (rest := []) ⟨hx, hb, hml, hown, ht⟩ hE (c_X3_knownBy E l (G 3) (Z0.2.1 3) x5_21 _ h) ⟨rfl, rfl⟩ wk_X5_103 wi_X3_knownBy ws_X3_knownBy wn_X3 wc_X3_knownBy yd_X3_knownBy ⟨Nat.le_of_ble_eq_true rfl, Nat.le_of_ble_eq_true rfl⟩ hP hD p1 (ci := 3) rfl rfl rfl rfl rfl hl.1 rfl (lv_room (Nat.le_of_ble_eq_true rfl)) dX5_fewestWhoKnowMore_57 ⟨Nat.zero_le _, Nat.zero_le _⟩) hP hD hS p1 (fun r_11 _ w H locs h hw hP hD hS => ?_)
          subst hw
          clear p1
          have p2 := gB (n := 15) (bs := [bGC G (pl 99) (dr 99) Z0.1, bText E (G 1) (Z0.2.1 1), bNow E (G 2) (G 3) e0 (Z0.2.1 2), bScene E (G 3) (Z0.2.1 3), bPlan E pl (Z0.2.1 4), bPlan E dr (Z0.2.1 5), bRumour E (G 6) (Z0.2.1 6), bIm E G (Z0.2.1 7), bNow E (G 8) (G 10) e1 (Z0.2.1 8), bNow E (G 9) (G 11) e2 (Z0.2.1 9), bScene E (G 10) (Z0.2.1 10), bScene E (G 11) (Z0.2.1 11), bPool E e0 (Z0.2.2 0), bPool E e1 (Z0.2.2 1), bPool E e2 (Z0.2.2 2)]) (bc := [bScene E (G 3) (Z0.2.1 3)]) (br := [bGC G (pl 99) (dr 99) Z0.1, bText E (G 1) (Z0.2.1 1), bNow E (G 2) (G 3) e0 (Z0.2.1 2), bPlan E pl (Z0.2.1 4), bPlan E dr (Z0.2.1 5), bRumour E (G 6) (Z0.2.1 6), bIm E G (Z0.2.1 7), bNow E (G 8) (G 10) e1 (Z0.2.1 8), bNow E (G 9) (G 11) e2 (Z0.2.1 9), bScene E (G 10) (Z0.2.1 10), bScene E (G 11) (Z0.2.1 11), bPool E e0 (Z0.2.2 0), bPool E e1 (Z0.2.2 1), bPool E e2 (Z0.2.2 2)]) [3, 0, 1, 2, 4, 5, 6, 7, 8, 9, 10, 11, 12, 13, 14] rfl rfl (by decide)
          have hP := gP_perm p2.symm hP
          have hD := gD_perm p2.symm hD
          clear p2
          have hP : gP E (gcW E G pl dr e0 e1 e2 Z0) H := hP
          have hD : va_D A (gcW E G pl dr e0 e1 e2 Z0) := hD
          refine lv_iload hx hb dX5_fewestWhoKnowMore_60 (lv_at hl 5 rfl) ?_
          refine lv_iand hx hb dX5_fewestWhoKnowMore_62 ?_
          have p1 := gB (n := 15) (bs := [bGC G (pl 99) (dr 99) Z0.1, bText E (G 1) (Z0.2.1 1), bNow E (G 2) (G 3) e0 (Z0.2.1 2), bScene E (G 3) (Z0.2.1 3), bPlan E pl (Z0.2.1 4), bPlan E dr (Z0.2.1 5), bRumour E (G 6) (Z0.2.1 6), bIm E G (Z0.2.1 7), bNow E (G 8) (G 10) e1 (Z0.2.1 8), bNow E (G 9) (G 11) e2 (Z0.2.1 9), bScene E (G 10) (Z0.2.1 10), bScene E (G 11) (Z0.2.1 11), bPool E e0 (Z0.2.2 0), bPool E e1 (Z0.2.2 1), bPool E e2 (Z0.2.2 2)]) (bc := []) (br := [bGC G (pl 99) (dr 99) Z0.1, bText E (G 1) (Z0.2.1 1), bNow E (G 2) (G 3) e0 (Z0.2.1 2), bScene E (G 3) (Z0.2.1 3), bPlan E pl (Z0.2.1 4), bPlan E dr (Z0.2.1 5), bRumour E (G 6) (Z0.2.1 6), bIm E G (Z0.2.1 7), bNow E (G 8) (G 10) e1 (Z0.2.1 8), bNow E (G 9) (G 11) e2 (Z0.2.1 9), bScene E (G 10) (Z0.2.1 10), bScene E (G 11) (Z0.2.1 11), bPool E e0 (Z0.2.2 0), bPool E e1 (Z0.2.2 1), bPool E e2 (Z0.2.2 2)]) [0, 1, 2, 3, 4, 5, 6, 7, 8, 9, 10, 11, 12, 13, 14] rfl rfl (by decide)
          refine g_i (g_runS (As := [.int (r_11 &&& r_1)]) (rest := []) ⟨hx, hb, hml, hown, ht⟩ hE (c_J6_bitCount_0f7a4 E l (r_11 &&& r_1) _ h) ⟨rfl, rfl⟩ wk_X5_183 wt_J6_bitCount_0f7a4 wn_J6 wc_J6_bitCount_0f7a4 yd_J6_bitCount_0f7a4 ⟨Nat.le_of_ble_eq_true rfl, Nat.le_of_ble_eq_true rfl⟩ hP hD p1 rfl rfl hl.1 rfl (lv_room (Nat.le_of_ble_eq_true rfl)) dX5_fewestWhoKnowMore_63 ⟨Nat.zero_le _, Nat.zero_le _⟩) hP hD hS p1 (fun r_12 _ w H locs h hw hP hD hS => ?_)
          subst hw
          clear p1
          have p2 := gB (n := 15) (bs := [bGC G (pl 99) (dr 99) Z0.1, bText E (G 1) (Z0.2.1 1), bNow E (G 2) (G 3) e0 (Z0.2.1 2), bScene E (G 3) (Z0.2.1 3), bPlan E pl (Z0.2.1 4), bPlan E dr (Z0.2.1 5), bRumour E (G 6) (Z0.2.1 6), bIm E G (Z0.2.1 7), bNow E (G 8) (G 10) e1 (Z0.2.1 8), bNow E (G 9) (G 11) e2 (Z0.2.1 9), bScene E (G 10) (Z0.2.1 10), bScene E (G 11) (Z0.2.1 11), bPool E e0 (Z0.2.2 0), bPool E e1 (Z0.2.2 1), bPool E e2 (Z0.2.2 2)]) (bc := []) (br := [bGC G (pl 99) (dr 99) Z0.1, bText E (G 1) (Z0.2.1 1), bNow E (G 2) (G 3) e0 (Z0.2.1 2), bScene E (G 3) (Z0.2.1 3), bPlan E pl (Z0.2.1 4), bPlan E dr (Z0.2.1 5), bRumour E (G 6) (Z0.2.1 6), bIm E G (Z0.2.1 7), bNow E (G 8) (G 10) e1 (Z0.2.1 8), bNow E (G 9) (G 11) e2 (Z0.2.1 9), bScene E (G 10) (Z0.2.1 10), bScene E (G 11) (Z0.2.1 11), bPool E e0 (Z0.2.2 0), bPool E e1 (Z0.2.2 1), bPool E e2 (Z0.2.2 2)]) [0, 1, 2, 3, 4, 5, 6, 7, 8, 9, 10, 11, 12, 13, 14] rfl rfl (by decide)
          have hP := gP_perm p2.symm hP
          have hD := gD_perm p2.symm hD
          clear p2
          have hP : gP E (gcW E G pl dr e0 e1 e2 Z0) H := hP
          have hD : va_D A (gcW E G pl dr e0 e1 e2 Z0) := hD
          refine lv_iload_n hx hb dX5_fewestWhoKnowMore_66 rfl (lv_at hl 2 rfl) ?_
          refine lv_icmp_le (tgt := 76) hx hb dX5_fewestWhoKnowMore_67 (by decide) (fun c_13 => ?_) (fun c_13 => ?_)
          · have h := h.1 c_13
            refine lv_iinc (v := (x5_21 + 1)) (lv' := [(5, .int (x5_21 + 1)), (6, .int r_9), (0, .ref (G 0 99)), (1, .int x1), (2, .int x2_21), (3, .int x3_21), (4, .int r_1)]) hx hb dX5_fewestWhoKnowMore_76 hl (k := 6) rfl rfl (by decide) rfl (fun ls hl => ?_)
            refine lv_goto (tgt := 21) hx hb dX5_fewestWhoKnowMore_79 (by decide) ?_
            exact ih21 x2_21 x3_21 (x5_21 + 1) _ _ _ h hP hD hS (lv_sub hl [2, 3, 4, 5, 6, 0] rfl)
          · have h := h.2 c_13
            refine lv_iload hx hb dX5_fewestWhoKnowMore_70 (lv_at hl 0 rfl) ?_
            refine lv_istore_n (lv' := [(3, .int r_9), (6, .int r_9), (0, .ref (G 0 99)), (1, .int x1), (2, .int x2_21), (4, .int r_1), (5, .int x5_21)]) hx hb dX5_fewestWhoKnowMore_72 rfl hl (by decide) rfl (fun ls hl => ?_)
            refine lv_iload hx hb dX5_fewestWhoKnowMore_73 (lv_at hl 6 rfl) ?_
            refine lv_istore_n (lv' := [(2, .int x5_21), (3, .int r_9), (6, .int r_9), (0, .ref (G 0 99)), (1, .int x1), (4, .int r_1), (5, .int x5_21)]) hx hb dX5_fewestWhoKnowMore_75 rfl hl (by decide) rfl (fun ls hl => ?_)
            refine lv_iinc (v := (x5_21 + 1)) (lv' := [(5, .int (x5_21 + 1)), (2, .int x5_21), (3, .int r_9), (6, .int r_9), (0, .ref (G 0 99)), (1, .int x1), (4, .int r_1)]) hx hb dX5_fewestWhoKnowMore_76 hl (k := 6) rfl rfl (by decide) rfl (fun ls hl => ?_)
            refine lv_goto (tgt := 21) hx hb dX5_fewestWhoKnowMore_79 (by decide) ?_
            exact ih21 x5_21 r_9 (x5_21 + 1) _ _ _ h hP hD hS (lv_sub hl [4, 5, 1, 2, 6, 0] rfl)
  obtain ⟨n21, h⟩ := h
  exact L21 n21 (-9) 7 1 _ _ _ h hP hD hS (lv_sub hl [4, 5, 3, 2, 1, 0] rfl)
theorem dX5_jam_0 : decode cX5_jam 0 = .ok (.iload_n 1, 1) := by decide +kernel
theorem dX5_jam_1 : decode cX5_jam 1 = .ok (.ifCond .lt 9, 3) := by decide +kernel
theorem dX5_jam_4 : decode cX5_jam 4 = .ok (.iload_n 1, 1) := by decide +kernel
theorem dX5_jam_5 : decode cX5_jam 5 = .ok (.bipush 8, 2) := by decide +kernel
theorem dX5_jam_7 : decode cX5_jam 7 = .ok (.if_icmp .lt 5, 3) := by decide +kernel
theorem dX5_jam_10 : decode cX5_jam 10 = .ok (.iconst (-1), 1) := by decide +kernel
theorem dX5_jam_11 : decode cX5_jam 11 = .ok (.ireturn, 1) := by decide +kernel
theorem dX5_jam_12 : decode cX5_jam 12 = .ok (.aload_n 0, 1) := by decide +kernel
theorem dX5_jam_13 : decode cX5_jam 13 = .ok (.iload_n 1, 1) := by decide +kernel
theorem dX5_jam_14 : decode cX5_jam 14 = .ok (.invokevirtual 177, 3) := by decide +kernel
theorem dX5_jam_17 : decode cX5_jam 17 = .ok (.ireturn, 1) := by decide +kernel
set_option maxHeartbeats 4000000 in
set_option maxRecDepth 100000 in
theorem c_X5_jam (E : GE) (l : Launch) (G : Nat → Nat → Nat) (pl dr : Nat → Nat) (e0 e1 e2 : Nat → Nat → Nat) (Z0 : GC) (x1 : Int32) (post : Int32 → Prop) (h : wp_X5_jam Z0 x1 post) : Met l yX5_jam (wz yX5_jam cX5_jam 2 (some .int)) { frames := 4, cells := 0, slots := 0, locals := 90 } (gPc E [.ref (G 0 99), .int x1] (gcW E G pl dr e0 e1 e2 Z0)) (gQi E (gcW E G pl dr e0 e1 e2 Z0) (fun r (_ : Unit) => post r) (fun (_ : Unit) w => w = gcW E G pl dr e0 e1 e2 Z0)) 0 0 (gIn (gcW E G pl dr e0 e1 e2 Z0)) := by
  unfold wp_X5_jam at h
  refine g_of_i (by decide) (Nat.le_of_ble_eq_true rfl) ?_
  intro p e s m below meth c A Q hx hb hml hown ht hE hP hD hret ls hl
  have hK := hE.1
  have hS : va_S A s.heap s.heap [] := va_S.rf
  have hl : lv_has ls 2 [(0, .ref (G 0 99)), (1, .int x1)] := hl
  refine lv_iload_n hx hb dX5_jam_0 rfl (lv_at hl 1 rfl) ?_
  refine lv_if_lt (tgt := 10) hx hb dX5_jam_1 (by decide) (fun c_1 => ?_) (fun c_1 => ?_)
  · have h := h.1 c_1
    refine lv_iconst (v := (-1)) hx hb dX5_jam_10 (by decide) ?_
    exact hret (-1) () _ _ _ _ _ h rfl hP hD hS dX5_jam_11
  · have h := h.2 c_1
    refine lv_iload_n hx hb dX5_jam_4 rfl (lv_at hl 1 rfl) ?_
    refine lv_bipush (v := 8) hx hb dX5_jam_5 (by decide) ?_
    refine lv_icmp_lt (tgt := 12) hx hb dX5_jam_7 (by decide) (fun c_2 => ?_) (fun c_2 => ?_)
    · have h := h.1 c_2
      refine lv_aload_n hx hb dX5_jam_12 rfl (lv_at hl 0 rfl) ?_
      refine lv_iload_n hx hb dX5_jam_13 rfl (lv_at hl 1 rfl) ?_
      have p1 := gB (n := 15) (bs := [bGC G (pl 99) (dr 99) Z0.1, bText E (G 1) (Z0.2.1 1), bNow E (G 2) (G 3) e0 (Z0.2.1 2), bScene E (G 3) (Z0.2.1 3), bPlan E pl (Z0.2.1 4), bPlan E dr (Z0.2.1 5), bRumour E (G 6) (Z0.2.1 6), bIm E G (Z0.2.1 7), bNow E (G 8) (G 10) e1 (Z0.2.1 8), bNow E (G 9) (G 11) e2 (Z0.2.1 9), bScene E (G 10) (Z0.2.1 10), bScene E (G 11) (Z0.2.1 11), bPool E e0 (Z0.2.2 0), bPool E e1 (Z0.2.2 1), bPool E e2 (Z0.2.2 2)]) (bc := [bGC G (pl 99) (dr 99) Z0.1, bText E (G 1) (Z0.2.1 1), bNow E (G 2) (G 3) e0 (Z0.2.1 2), bScene E (G 3) (Z0.2.1 3), bPlan E pl (Z0.2.1 4), bPlan E dr (Z0.2.1 5), bRumour E (G 6) (Z0.2.1 6), bIm E G (Z0.2.1 7), bNow E (G 8) (G 10) e1 (Z0.2.1 8), bNow E (G 9) (G 11) e2 (Z0.2.1 9), bScene E (G 10) (Z0.2.1 10), bScene E (G 11) (Z0.2.1 11), bPool E e0 (Z0.2.2 0), bPool E e1 (Z0.2.2 1), bPool E e2 (Z0.2.2 2)]) (br := []) [0, 1, 2, 3, 4, 5, 6, 7, 8, 9, 10, 11, 12, 13, 14] rfl rfl (by decide)
      refine g_i (g_runV (As := [.int x1]) (rest := []) ⟨hx, hb, hml, hown, ht⟩ hE (c_X5_fewestWhoKnowMore E l G pl dr e0 e1 e2 Z0 x1 _ h) ⟨rfl, rfl⟩ wk_X5_177 wi_X5_fewestWhoKnowMore ws_X5_fewestWhoKnowMore wn_X5 wc_X5_fewestWhoKnowMore yd_X5_fewestWhoKnowMore ⟨Nat.le_of_ble_eq_true rfl, Nat.le_of_ble_eq_true rfl⟩ hP hD p1 (ci := 5) rfl rfl rfl rfl rfl hl.1 rfl (lv_room (Nat.le_of_ble_eq_true rfl)) dX5_jam_14 ⟨Nat.zero_le _, Nat.zero_le _⟩) hP hD hS p1 (fun r_3 _ w H locs h hw hP hD hS => ?_)
      subst hw
      clear p1
      have p2 := gB (n := 15) (bs := [bGC G (pl 99) (dr 99) Z0.1, bText E (G 1) (Z0.2.1 1), bNow E (G 2) (G 3) e0 (Z0.2.1 2), bScene E (G 3) (Z0.2.1 3), bPlan E pl (Z0.2.1 4), bPlan E dr (Z0.2.1 5), bRumour E (G 6) (Z0.2.1 6), bIm E G (Z0.2.1 7), bNow E (G 8) (G 10) e1 (Z0.2.1 8), bNow E (G 9) (G 11) e2 (Z0.2.1 9), bScene E (G 10) (Z0.2.1 10), bScene E (G 11) (Z0.2.1 11), bPool E e0 (Z0.2.2 0), bPool E e1 (Z0.2.2 1), bPool E e2 (Z0.2.2 2)]) (bc := [bGC G (pl 99) (dr 99) Z0.1, bText E (G 1) (Z0.2.1 1), bNow E (G 2) (G 3) e0 (Z0.2.1 2), bScene E (G 3) (Z0.2.1 3), bPlan E pl (Z0.2.1 4), bPlan E dr (Z0.2.1 5), bRumour E (G 6) (Z0.2.1 6), bIm E G (Z0.2.1 7), bNow E (G 8) (G 10) e1 (Z0.2.1 8), bNow E (G 9) (G 11) e2 (Z0.2.1 9), bScene E (G 10) (Z0.2.1 10), bScene E (G 11) (Z0.2.1 11), bPool E e0 (Z0.2.2 0), bPool E e1 (Z0.2.2 1), bPool E e2 (Z0.2.2 2)]) (br := []) [0, 1, 2, 3, 4, 5, 6, 7, 8, 9, 10, 11, 12, 13, 14] rfl rfl (by decide)
      have hP := gP_perm p2.symm hP
      have hD := gD_perm p2.symm hD
      clear p2
      have hP : gP E (gcW E G pl dr e0 e1 e2 Z0) H := hP
      have hD : va_D A (gcW E G pl dr e0 e1 e2 Z0) := hD
      exact hret r_3 () _ _ _ _ _ h rfl hP hD hS dX5_jam_17
    · have h := h.2 c_2
      refine lv_iconst (v := (-1)) hx hb dX5_jam_10 (by decide) ?_
      exact hret (-1) () _ _ _ _ _ h rfl hP hD hS dX5_jam_11
theorem dX5_odds_0 : decode cX5_odds 0 = .ok (.iload_n 1, 1) := by decide +kernel
theorem dX5_odds_1 : decode cX5_odds 1 = .ok (.ifCond .lt 18, 3) := by decide +kernel
theorem dX5_odds_4 : decode cX5_odds 4 = .ok (.iload_n 1, 1) := by decide +kernel
theorem dX5_odds_5 : decode cX5_odds 5 = .ok (.bipush 10, 2) := by decide +kernel
theorem dX5_odds_7 : decode cX5_odds 7 = .ok (.if_icmp .gt 12, 3) := by decide +kernel
theorem dX5_odds_10 : decode cX5_odds 10 = .ok (.iload_n 2, 1) := by decide +kernel
theorem dX5_odds_11 : decode cX5_odds 11 = .ok (.ifCond .lt 8, 3) := by decide +kernel
theorem dX5_odds_14 : decode cX5_odds 14 = .ok (.iload_n 2, 1) := by decide +kernel
theorem dX5_odds_15 : decode cX5_odds 15 = .ok (.iconst 1, 1) := by decide +kernel
theorem dX5_odds_16 : decode cX5_odds 16 = .ok (.if_icmp .le 5, 3) := by decide +kernel
theorem dX5_odds_19 : decode cX5_odds 19 = .ok (.iconst (-1), 1) := by decide +kernel
theorem dX5_odds_20 : decode cX5_odds 20 = .ok (.ireturn, 1) := by decide +kernel
theorem dX5_odds_21 : decode cX5_odds 21 = .ok (.iconst 1, 1) := by decide +kernel
theorem dX5_odds_22 : decode cX5_odds 22 = .ok (.istore_n 3, 1) := by decide +kernel
theorem dX5_odds_23 : decode cX5_odds 23 = .ok (.iconst 1, 1) := by decide +kernel
theorem dX5_odds_24 : decode cX5_odds 24 = .ok (.istore 4, 2) := by decide +kernel
theorem dX5_odds_26 : decode cX5_odds 26 = .ok (.aload_n 0, 1) := by decide +kernel
theorem dX5_odds_27 : decode cX5_odds 27 = .ok (.getfield 19, 3) := by decide +kernel
theorem dX5_odds_30 : decode cX5_odds 30 = .ok (.getfield 75, 3) := by decide +kernel
theorem dX5_odds_33 : decode cX5_odds 33 = .ok (.invokevirtual 109, 3) := by decide +kernel
theorem dX5_odds_36 : decode cX5_odds 36 = .ok (.invokestatic 183, 3) := by decide +kernel
theorem dX5_odds_39 : decode cX5_odds 39 = .ok (.istore 5, 2) := by decide +kernel
theorem dX5_odds_41 : decode cX5_odds 41 = .ok (.iconst 0, 1) := by decide +kernel
theorem dX5_odds_42 : decode cX5_odds 42 = .ok (.istore 6, 2) := by decide +kernel
theorem dX5_odds_44 : decode cX5_odds 44 = .ok (.iload 6, 2) := by decide +kernel
theorem dX5_odds_46 : decode cX5_odds 46 = .ok (.iload 5, 2) := by decide +kernel
theorem dX5_odds_48 : decode cX5_odds 48 = .ok (.if_icmp .ge 20, 3) := by decide +kernel
theorem dX5_odds_51 : decode cX5_odds 51 = .ok (.iload_n 3, 1) := by decide +kernel
theorem dX5_odds_52 : decode cX5_odds 52 = .ok (.bipush 10, 2) := by decide +kernel
theorem dX5_odds_54 : decode cX5_odds 54 = .ok (.imul, 1) := by decide +kernel
theorem dX5_odds_55 : decode cX5_odds 55 = .ok (.istore_n 3, 1) := by decide +kernel
theorem dX5_odds_56 : decode cX5_odds 56 = .ok (.iload 4, 2) := by decide +kernel
theorem dX5_odds_58 : decode cX5_odds 58 = .ok (.iload_n 1, 1) := by decide +kernel
theorem dX5_odds_59 : decode cX5_odds 59 = .ok (.imul, 1) := by decide +kernel
theorem dX5_odds_60 : decode cX5_odds 60 = .ok (.istore 4, 2) := by decide +kernel
theorem dX5_odds_62 : decode cX5_odds 62 = .ok (.iinc 6 1, 3) := by decide +kernel
theorem dX5_odds_65 : decode cX5_odds 65 = .ok (.goto (-21), 3) := by decide +kernel
theorem dX5_odds_68 : decode cX5_odds 68 = .ok (.iload_n 3, 1) := by decide +kernel
theorem dX5_odds_69 : decode cX5_odds 69 = .ok (.iload 4, 2) := by decide +kernel
theorem dX5_odds_71 : decode cX5_odds 71 = .ok (.isub, 1) := by decide +kernel
theorem dX5_odds_72 : decode cX5_odds 72 = .ok (.istore 6, 2) := by decide +kernel
theorem dX5_odds_74 : decode cX5_odds 74 = .ok (.iload_n 3, 1) := by decide +kernel
theorem dX5_odds_75 : decode cX5_odds 75 = .ok (.iload 6, 2) := by decide +kernel
theorem dX5_odds_77 : decode cX5_odds 77 = .ok (.invokestatic 188, 3) := by decide +kernel
theorem dX5_odds_80 : decode cX5_odds 80 = .ok (.istore 7, 2) := by decide +kernel
theorem dX5_odds_82 : decode cX5_odds 82 = .ok (.iload 7, 2) := by decide +kernel
theorem dX5_odds_84 : decode cX5_odds 84 = .ok (.ifCond .ne 5, 3) := by decide +kernel
theorem dX5_odds_87 : decode cX5_odds 87 = .ok (.iconst (-1), 1) := by decide +kernel
theorem dX5_odds_88 : decode cX5_odds 88 = .ok (.ireturn, 1) := by decide +kernel
theorem dX5_odds_89 : decode cX5_odds 89 = .ok (.iload_n 2, 1) := by decide +kernel
theorem dX5_odds_90 : decode cX5_odds 90 = .ok (.ifCond .ne 11, 3) := by decide +kernel
theorem dX5_odds_93 : decode cX5_odds 93 = .ok (.iload 6, 2) := by decide +kernel
theorem dX5_odds_95 : decode cX5_odds 95 = .ok (.iload 7, 2) := by decide +kernel
theorem dX5_odds_97 : decode cX5_odds 97 = .ok (.idiv, 1) := by decide +kernel
theorem dX5_odds_98 : decode cX5_odds 98 = .ok (.goto 7, 3) := by decide +kernel
theorem dX5_odds_101 : decode cX5_odds 101 = .ok (.iload_n 3, 1) := by decide +kernel
theorem dX5_odds_102 : decode cX5_odds 102 = .ok (.iload 7, 2) := by decide +kernel
theorem dX5_odds_104 : decode cX5_odds 104 = .ok (.idiv, 1) := by decide +kernel
theorem dX5_odds_105 : decode cX5_odds 105 = .ok (.ireturn, 1) := by decide +kernel
set_option maxHeartbeats 4000000 in
set_option maxRecDepth 100000 in
theorem c_X5_odds (E : GE) (l : Launch) (G : Nat → Nat → Nat) (pl dr : Nat → Nat) (e0 e1 e2 : Nat → Nat → Nat) (Z0 : GC) (x1 : Int32) (x2 : Int32) (post : Int32 → Prop) (h : wp_X5_odds Z0 x1 x2 post) : Met l yX5_odds (wz yX5_odds cX5_odds 8 (some .int)) { frames := 4, cells := 0, slots := 0, locals := 84 } (gPc E [.ref (G 0 99), .int x1, .int x2] (gcW E G pl dr e0 e1 e2 Z0)) (gQi E (gcW E G pl dr e0 e1 e2 Z0) (fun r (_ : Unit) => post r) (fun (_ : Unit) w => w = gcW E G pl dr e0 e1 e2 Z0)) 0 0 (gIn (gcW E G pl dr e0 e1 e2 Z0)) := by
  unfold wp_X5_odds at h
  refine g_of_i (by decide) (Nat.le_of_ble_eq_true rfl) ?_
  intro p e s m below meth c A Q hx hb hml hown ht hE hP hD hret ls hl
  have hK := hE.1
  have hS : va_S A s.heap s.heap [] := va_S.rf
  have hl : lv_has ls 8 [(0, .ref (G 0 99)), (1, .int x1), (2, .int x2)] := hl
  refine lv_iload_n hx hb dX5_odds_0 rfl (lv_at hl 1 rfl) ?_
  refine lv_if_lt (tgt := 19) hx hb dX5_odds_1 (by decide) (fun c_1 => ?_) (fun c_1 => ?_)
  · have h := h.1 c_1
    refine lv_iconst (v := (-1)) hx hb dX5_odds_19 (by decide) ?_
    exact hret (-1) () _ _ _ _ _ h rfl hP hD hS dX5_odds_20
  · have h := h.2 c_1
    refine lv_iload_n hx hb dX5_odds_4 rfl (lv_at hl 1 rfl) ?_
    refine lv_bipush (v := 10) hx hb dX5_odds_5 (by decide) ?_
    refine lv_icmp_gt (tgt := 19) hx hb dX5_odds_7 (by decide) (fun c_2 => ?_) (fun c_2 => ?_)
    · have h := h.1 c_2
      refine lv_iconst (v := (-1)) hx hb dX5_odds_19 (by decide) ?_
      exact hret (-1) () _ _ _ _ _ h rfl hP hD hS dX5_odds_20
    · have h := h.2 c_2
      refine lv_iload_n hx hb dX5_odds_10 rfl (lv_at hl 2 rfl) ?_
      refine lv_if_lt (tgt := 19) hx hb dX5_odds_11 (by decide) (fun c_3 => ?_) (fun c_3 => ?_)
      · have h := h.1 c_3
        refine lv_iconst (v := (-1)) hx hb dX5_odds_19 (by decide) ?_
        exact hret (-1) () _ _ _ _ _ h rfl hP hD hS dX5_odds_20
      · have h := h.2 c_3
        refine lv_iload_n hx hb dX5_odds_14 rfl (lv_at hl 2 rfl) ?_
        refine lv_iconst (v := 1) hx hb dX5_odds_15 (by decide) ?_
        refine lv_icmp_le (tgt := 21) hx hb dX5_odds_16 (by decide) (fun c_4 => ?_) (fun c_4 => ?_)
        · have h := h.1 c_4
          refine lv_iconst (v := 1) hx hb dX5_odds_21 (by decide) ?_
          refine lv_istore_n (lv' := [(3, .int 1), (0, .ref (G 0 99)), (1, .int x1), (2, .int x2)]) hx hb dX5_odds_22 rfl hl (by decide) rfl (fun ls hl => ?_)
          refine lv_iconst (v := 1) hx hb dX5_odds_23 (by decide) ?_
          refine lv_istore (lv' := [(4, .int 1), (3, .int 1), (0, .ref (G 0 99)), (1, .int x1), (2, .int x2)]) hx hb dX5_odds_24 hl (by decide) rfl (fun ls hl => ?_)
          refine lv_aload_n hx hb dX5_odds_26 rfl (lv_at hl 2 rfl) ?_
          refine va_get (D := (E.1, E.2.1)) (ci := 5) (v := .ref (G 2 99)) (C := RX5) (T := TX5) (N := 8) hx hb ht wu_X5 hown hK hP 0 rfl rfl 1 (by decide) (ht _ wk_X5_19) (fun _ h9 => h9) rfl dX5_odds_27 ?_
          refine va_get (D := (E.1, E.2.1)) (ci := 0) (v := .ref ((G 3) 99)) (C := RX0) (T := TX0) (N := 3) hx hb ht wu_X0 hown hK hP 3 rfl rfl 0 (by decide) (ht _ wk_X5_75) (fun _ h9 => h9) rfl dX5_odds_30 ?_
          have p1 := gB (n := 15) (bs := [bGC G (pl 99) (dr 99) Z0.1, bText E (G 1) (Z0.2.1 1), bNow E (G 2) (G 3) e0 (Z0.2.1 2), bScene E (G 3) (Z0.2.1 3), bPlan E pl (Z0.2.1 4), bPlan E dr (Z0.2.1 5), bRumour E (G 6) (Z0.2.1 6), bIm E G (Z0.2.1 7), bNow E (G 8) (G 10) e1 (Z0.2.1 8), bNow E (G 9) (G 11) e2 (Z0.2.1 9), bScene E (G 10) (Z0.2.1 10), bScene E (G 11) (Z0.2.1 11), bPool E e0 (Z0.2.2 0), bPool E e1 (Z0.2.2 1), bPool E e2 (Z0.2.2 2)]) (bc := [bScene E (G 3) (Z0.2.1 3)]) (br := [bGC G (pl 99) (dr 99) Z0.1, bText E (G 1) (Z0.2.1 1), bNow E (G 2) (G 3) e0 (Z0.2.1 2), bPlan E pl (Z0.2.1 4), bPlan E dr (Z0.2.1 5), bRumour E (G 6) (Z0.2.1 6), bIm E G (Z0.2.1 7), bNow E (G 8) (G 10) e1 (Z0.2.1 8), bNow E (G 9) (G 11) e2 (Z0.2.1 9), bScene E (G 10) (Z0.2.1 10), bScene E (G 11) (Z0.2.1 11), bPool E e0 (Z0.2.2 0), bPool E e1 (Z0.2.2 1), bPool E e2 (Z0.2.2 2)]) [3, 0, 1, 2, 4, 5, 6, 7, 8, 9, 10, 11, 12, 13, 14] rfl rfl (by decide)
          refine g_i (g_runV (As := []) (rest := []) ⟨hx, hb, hml, hown, ht⟩ hE (c_X3_whoGetsIn E l (G 3) (Z0.2.1 3) _ h) ⟨rfl, rfl⟩ wk_X5_109 wi_X3_whoGetsIn ws_X3_whoGetsIn wn_X3 wc_X3_whoGetsIn yd_X3_whoGetsIn ⟨Nat.le_of_ble_eq_true rfl, Nat.le_of_ble_eq_true rfl⟩ hP hD p1 (ci := 3) rfl rfl rfl rfl rfl hl.1 rfl (lv_room (Nat.le_of_ble_eq_true rfl)) dX5_odds_33 ⟨Nat.zero_le _, Nat.zero_le _⟩) hP hD hS p1 (fun r_5 _ w H locs h hw hP hD hS => ?_)
          subst hw
          clear p1
          have p2 := gB (n := 15) (bs := [bGC G (pl 99) (dr 99) Z0.1, bText E (G 1) (Z0.2.1 1), bNow E (G 2) (G 3) e0 (Z0.2.1 2), bScene E (G 3) (Z0.2.1 3), bPlan E pl (Z0.2.1 4), bPlan E dr (Z0.2.1 5), bRumour E (G 6) (Z0.2.1 6), bIm E G (Z0.2.1 7), bNow E (G 8) (G 10) e1 (Z0.2.1 8), bNow E (G 9) (G 11) e2 (Z0.2.1 9), bScene E (G 10) (Z0.2.1 10), bScene E (G 11) (Z0.2.1 11), bPool E e0 (Z0.2.2 0), bPool E e1 (Z0.2.2 1), bPool E e2 (Z0.2.2 2)]) (bc := [bScene E (G 3) (Z0.2.1 3)]) (br := [bGC G (pl 99) (dr 99) Z0.1, bText E (G 1) (Z0.2.1 1), bNow E (G 2) (G 3) e0 (Z0.2.1 2), bPlan E pl (Z0.2.1 4), bPlan E dr (Z0.2.1 5), bRumour E (G 6) (Z0.2.1 6), bIm E G (Z0.2.1 7), bNow E (G 8) (G 10) e1 (Z0.2.1 8), bNow E (G 9) (G 11) e2 (Z0.2.1 9), bScene E (G 10) (Z0.2.1 10), bScene E (G 11) (Z0.2.1 11), bPool E e0 (Z0.2.2 0), bPool E e1 (Z0.2.2 1), bPool E e2 (Z0.2.2 2)]) [3, 0, 1, 2, 4, 5, 6, 7, 8, 9, 10, 11, 12, 13, 14] rfl rfl (by decide)
          have hP := gP_perm p2.symm hP
          have hD := gD_perm p2.symm hD
          clear p2
          have hP : gP E (gcW E G pl dr e0 e1 e2 Z0) H := hP
          have hD : va_D A (gcW E G pl dr e0 e1 e2 Z0) := hD
          have p1 := gB (n := 15) (bs := [bGC G (pl 99) (dr 99) Z0.1, bText E (G 1) (Z0.2.1 1), bNow E (G 2) (G 3) e0 (Z0.2.1 2), bScene E (G 3) (Z0.2.1 3), bPlan E pl (Z0.2.1 4), bPlan E dr (Z0.2.1 5), bRumour E (G 6) (Z0.2.1 6), bIm E G (Z0.2.1 7), bNow E (G 8) (G 10) e1 (Z0.2.1 8), bNow E (G 9) (G 11) e2 (Z0.2.1 9), bScene E (G 10) (Z0.2.1 10), bScene E (G 11) (Z0.2.1 11), bPool E e0 (Z0.2.2 0), bPool E e1 (Z0.2.2 1), bPool E e2 (Z0.2.2 2)]) (bc := []) (br := [bGC G (pl 99) (dr 99) Z0.1, bText E (G 1) (Z0.2.1 1), bNow E (G 2) (G 3) e0 (Z0.2.1 2), bScene E (G 3) (Z0.2.1 3), bPlan E pl (Z0.2.1 4), bPlan E dr (Z0.2.1 5), bRumour E (G 6) (Z0.2.1 6), bIm E G (Z0.2.1 7), bNow E (G 8) (G 10) e1 (Z0.2.1 8), bNow E (G 9) (G 11) e2 (Z0.2.1 9), bScene E (G 10) (Z0.2.1 10), bScene E (G 11) (Z0.2.1 11), bPool E e0 (Z0.2.2 0), bPool E e1 (Z0.2.2 1), bPool E e2 (Z0.2.2 2)]) [0, 1, 2, 3, 4, 5, 6, 7, 8, 9, 10, 11, 12, 13, 14] rfl rfl (by decide)
          refine g_i (g_runS (As := [.int r_5]) (rest := []) ⟨hx, hb, hml, hown, ht⟩ hE (c_J6_bitCount_0f7a4 E l r_5 _ h) ⟨rfl, rfl⟩ wk_X5_183 wt_J6_bitCount_0f7a4 wn_J6 wc_J6_bitCount_0f7a4 yd_J6_bitCount_0f7a4 ⟨Nat.le_of_ble_eq_true rfl, Nat.le_of_ble_eq_true rfl⟩ hP hD p1 rfl rfl hl.1 rfl (lv_room (Nat.le_of_ble_eq_true rfl)) dX5_odds_36 ⟨Nat.zero_le _, Nat.zero_le _⟩) hP hD hS p1 (fun r_6 _ w H locs h hw hP hD hS => ?_)
          subst hw
          clear p1
          have p2 := gB (n := 15) (bs := [bGC G (pl 99) (dr 99) Z0.1, bText E (G 1) (Z0.2.1 1), bNow E (G 2) (G 3) e0 (Z0.2.1 2), bScene E (G 3) (Z0.2.1 3), bPlan E pl (Z0.2.1 4), bPlan E dr (Z0.2.1 5), bRumour E (G 6) (Z0.2.1 6), bIm E G (Z0.2.1 7), bNow E (G 8) (G 10) e1 (Z0.2.1 8), bNow E (G 9) (G 11) e2 (Z0.2.1 9), bScene E (G 10) (Z0.2.1 10), bScene E (G 11) (Z0.2.1 11), bPool E e0 (Z0.2.2 0), bPool E e1 (Z0.2.2 1), bPool E e2 (Z0.2.2 2)]) (bc := []) (br := [bGC G (pl 99) (dr 99) Z0.1, bText E (G 1) (Z0.2.1 1), bNow E (G 2) (G 3) e0 (Z0.2.1 2), bScene E (G 3) (Z0.2.1 3), bPlan E pl (Z0.2.1 4), bPlan E dr (Z0.2.1 5), bRumour E (G 6) (Z0.2.1 6), bIm E G (Z0.2.1 7), bNow E (G 8) (G 10) e1 (Z0.2.1 8), bNow E (G 9) (G 11) e2 (Z0.2.1 9), bScene E (G 10) (Z0.2.1 10), bScene E (G 11) (Z0.2.1 11), bPool E e0 (Z0.2.2 0), bPool E e1 (Z0.2.2 1), bPool E e2 (Z0.2.2 2)]) [0, 1, 2, 3, 4, 5, 6, 7, 8, 9, 10, 11, 12, 13, 14] rfl rfl (by decide)
          have hP := gP_perm p2.symm hP
          have hD := gD_perm p2.symm hD
          clear p2
          have hP : gP E (gcW E G pl dr e0 e1 e2 Z0) H := hP
          have hD : va_D A (gcW E G pl dr e0 e1 e2 Z0) := hD
          refine lv_istore (lv' := [(5, .int r_6), (4, .int 1), (3, .int 1), (0, .ref (G 0 99)), (1, .int x1), (2, .int x2)]) hx hb dX5_odds_39 hl (by decide) rfl (fun ls hl => ?_)
          refine lv_iconst (v := 0) hx hb dX5_odds_41 (by decide) ?_
          refine lv_istore (lv' := [(6, .int 0), (5, .int r_6), (4, .int 1), (3, .int 1), (0, .ref (G 0 99)), (1, .int x1), (2, .int x2)]) hx hb dX5_odds_42 hl (by decide) rfl (fun ls hl => ?_)
          have L44 : ∀ (n44 : Nat) (x3_44 : Int32) (x4_44 : Int32) (x6_44 : Int32) (H : Heap) (locs : List Loc) (ls : Array Slot), wp_X5_odds_L44 post x1 x2 r_6 Z0 n44 x3_44 x4_44 x6_44 → gP E (gcW E G pl dr e0 e1 e2 Z0) H → va_D A (gcW E G pl dr e0 e1 e2 Z0) → va_S A s.heap H locs → lv_has ls 8 [(0, .ref (G 0 99)), (1, .int x1), (2, .int x2), (3, .int x3_44), (4, .int x4_44), (5, .int r_6), (6, .int x6_44)] → W p l e { frames := 4, cells := 0, slots := 0, locals := 84 } s m ([.ref (G 0 99), .int x1, .int x2] : List Value).toArray below meth c H locs 0 0 Q (F0 m 44 ls []) := by
            intro n44
            induction n44 with
            | zero => intro x3_44 x4_44 x6_44 H locs ls h; exact h.elim
            | succ n44 ih44 =>
              intro x3_44 x4_44 x6_44 H locs ls h hP hD hS hl
              rw [wp_X5_odds_L44] at h
              refine lv_iload hx hb dX5_odds_44 (lv_at hl 6 rfl) ?_
              refine lv_iload hx hb dX5_odds_46 (lv_at hl 5 rfl) ?_
              refine lv_icmp_ge (tgt := 68) hx hb dX5_odds_48 (by decide) (fun c_11 => ?_) (fun c_11 => ?_)
              · have h := h.1 c_11
                refine lv_iload_n hx hb dX5_odds_68 rfl (lv_at hl 3 rfl) ?_
                refine lv_iload hx hb dX5_odds_69 (lv_at hl 4 rfl) ?_
                refine lv_isub hx hb dX5_odds_71 ?_
                refine lv_istore (lv' := [(6, .int (x3_44 - x4_44)), (0, .ref (G 0 99)), (1, .int x1), (2, .int x2), (3, .int x3_44), (4, .int x4_44), (5, .int r_6)]) hx hb dX5_odds_72 hl (by decide) rfl (fun ls hl => ?_)
                refine lv_iload_n hx hb dX5_odds_74 rfl (lv_at hl 4 rfl) ?_
                refine lv_iload hx hb dX5_odds_75 (lv_at hl 0 rfl) ?_
                have p1 := gB (n := 15) (bs := [bGC G (pl 99) (dr 99) Z0.1, bText E (G 1) (Z0.2.1 1), bNow E (G 2) (G 3) e0 (Z0.2.1 2), bScene E (G 3) (Z0.2.1 3), bPlan E pl (Z0.2.1 4), bPlan E dr (Z0.2.1 5), bRumour E (G 6) (Z0.2.1 6), bIm E G (Z0.2.1 7), bNow E (G 8) (G 10) e1 (Z0.2.1 8), bNow E (G 9) (G 11) e2 (Z0.2.1 9), bScene E (G 10) (Z0.2.1 10), bScene E (G 11) (Z0.2.1 11), bPool E e0 (Z0.2.2 0), bPool E e1 (Z0.2.2 1), bPool E e2 (Z0.2.2 2)]) (bc := []) (br := [bGC G (pl 99) (dr 99) Z0.1, bText E (G 1) (Z0.2.1 1), bNow E (G 2) (G 3) e0 (Z0.2.1 2), bScene E (G 3) (Z0.2.1 3), bPlan E pl (Z0.2.1 4), bPlan E dr (Z0.2.1 5), bRumour E (G 6) (Z0.2.1 6), bIm E G (Z0.2.1 7), bNow E (G 8) (G 10) e1 (Z0.2.1 8), bNow E (G 9) (G 11) e2 (Z0.2.1 9), bScene E (G 10) (Z0.2.1 10), bScene E (G 11) (Z0.2.1 11), bPool E e0 (Z0.2.2 0), bPool E e1 (Z0.2.2 1), bPool E e2 (Z0.2.2 2)]) [0, 1, 2, 3, 4, 5, 6, 7, 8, 9, 10, 11, 12, 13, 14] rfl rfl (by decide)
                refine g_i (g_runS (As := [.int x3_44, .int (x3_44 - x4_44)]) (rest := []) ⟨hx, hb, hml, hown, ht⟩ hE (c_X5_greatestDivisor E l x3_44 (x3_44 - x4_44) _ h) ⟨rfl, rfl⟩ wk_X5_188 wt_X5_greatestDivisor wn_X5 wc_X5_greatestDivisor yd_X5_greatestDivisor ⟨Nat.le_of_ble_eq_true rfl, Nat.le_of_ble_eq_true rfl⟩ hP hD p1 rfl rfl hl.1 rfl (lv_room (Nat.le_of_ble_eq_true rfl)) dX5_odds_77 ⟨Nat.zero_le _, Nat.zero_le _⟩) hP hD hS p1 (fun r_12 _ w H locs h hw hP hD hS => ?_)
                subst hw
                clear p1
                have p2 := gB (n := 15) (bs := [bGC G (pl 99) (dr 99) Z0.1, bText E (G 1) (Z0.2.1 1), bNow E (G 2) (G 3) e0 (Z0.2.1 2), bScene E (G 3) (Z0.2.1 3), bPlan E pl (Z0.2.1 4), bPlan E dr (Z0.2.1 5), bRumour E (G 6) (Z0.2.1 6), bIm E G (Z0.2.1 7), bNow E (G 8) (G 10) e1 (Z0.2.1 8), bNow E (G 9) (G 11) e2 (Z0.2.1 9), bScene E (G 10) (Z0.2.1 10), bScene E (G 11) (Z0.2.1 11), bPool E e0 (Z0.2.2 0), bPool E e1 (Z0.2.2 1), bPool E e2 (Z0.2.2 2)]) (bc := []) (br := [bGC G (pl 99) (dr 99) Z0.1, bText E (G 1) (Z0.2.1 1), bNow E (G 2) (G 3) e0 (Z0.2.1 2), bScene E (G 3) (Z0.2.1 3), bPlan E pl (Z0.2.1 4), bPlan E dr (Z0.2.1 5), bRumour E (G 6) (Z0.2.1 6), bIm E G (Z0.2.1 7), bNow E (G 8) (G 10) e1 (Z0.2.1 8), bNow E (G 9) (G 11) e2 (Z0.2.1 9), bScene E (G 10) (Z0.2.1 10), bScene E (G 11) (Z0.2.1 11), bPool E e0 (Z0.2.2 0), bPool E e1 (Z0.2.2 1), bPool E e2 (Z0.2.2 2)]) [0, 1, 2, 3, 4, 5, 6, 7, 8, 9, 10, 11, 12, 13, 14] rfl rfl (by decide)
                have hP := gP_perm p2.symm hP
                have hD := gD_perm p2.symm hD
                clear p2
                have hP : gP E (gcW E G pl dr e0 e1 e2 Z0) H := hP
                have hD : va_D A (gcW E G pl dr e0 e1 e2 Z0) := hD
                refine lv_istore (lv' := [(7, .int r_12), (6, .int (x3_44 - x4_44)), (0, .ref (G 0 99)), (1, .int x1), (2, .int x2), (3, .int x3_44), (4, .int x4_44), (5, .int r_6)]) hx hb dX5_odds_80 hl (by decide) rfl (fun ls hl => ?_)
                refine lv_iload hx hb dX5_odds_82 (lv_at hl 0 rfl) ?_
                refine lv_if_ne (tgt := 89) hx hb dX5_odds_84 (by decide) (fun c_13 => ?_) (fun c_13 => ?_)
                · have h := h.1 c_13
                  refine lv_iload_n hx hb dX5_odds_89 rfl (lv_at hl 4 rfl) ?_
                  refine lv_if_ne (tgt := 101) hx hb dX5_odds_90 (by decide) (fun c_14 => ?_) (fun c_14 => ?_)
                  · have h := h.1 c_14
                    refine lv_iload_n hx hb dX5_odds_101 rfl (lv_at hl 5 rfl) ?_
                    refine lv_iload hx hb dX5_odds_102 (lv_at hl 0 rfl) ?_
                    refine lv_idiv hx hb dX5_odds_104 h.1 ?_
                    have h := h.2
                    exact hret (x3_44 / r_12) () _ _ _ _ _ h rfl hP hD hS dX5_odds_105
                  · have h := h.2 c_14
                    refine lv_iload hx hb dX5_odds_93 (lv_at hl 1 rfl) ?_
                    refine lv_iload hx hb dX5_odds_95 (lv_at hl 0 rfl) ?_
                    refine lv_idiv hx hb dX5_odds_97 h.1 ?_
                    have h := h.2
                    refine lv_goto (tgt := 105) hx hb dX5_odds_98 (by decide) ?_
                    exact hret ((x3_44 - x4_44) / r_12) () _ _ _ _ _ h rfl hP hD hS dX5_odds_105
                · have h := h.2 c_13
                  refine lv_iconst (v := (-1)) hx hb dX5_odds_87 (by decide) ?_
                  exact hret (-1) () _ _ _ _ _ h rfl hP hD hS dX5_odds_88
              · have h := h.2 c_11
                refine lv_iload_n hx hb dX5_odds_51 rfl (lv_at hl 3 rfl) ?_
                refine lv_bipush (v := 10) hx hb dX5_odds_52 (by decide) ?_
                refine lv_imul hx hb dX5_odds_54 ?_
                refine lv_istore_n (lv' := [(3, .int (x3_44 * 10)), (0, .ref (G 0 99)), (1, .int x1), (2, .int x2), (4, .int x4_44), (5, .int r_6), (6, .int x6_44)]) hx hb dX5_odds_55 rfl hl (by decide) rfl (fun ls hl => ?_)
                refine lv_iload hx hb dX5_odds_56 (lv_at hl 4 rfl) ?_
                refine lv_iload_n hx hb dX5_odds_58 rfl (lv_at hl 2 rfl) ?_
                refine lv_imul hx hb dX5_odds_59 ?_
                refine lv_istore (lv' := [(4, .int (x4_44 * x1)), (3, .int (x3_44 * 10)), (0, .ref (G 0 99)), (1, .int x1), (2, .int x2), (5, .int r_6), (6, .int x6_44)]) hx hb dX5_odds_60 hl (by decide) rfl (fun ls hl => ?_)
                refine lv_iinc (v := (x6_44 + 1)) (lv' := [(6, .int (x6_44 + 1)), (4, .int (x4_44 * x1)), (3, .int (x3_44 * 10)), (0, .ref (G 0 99)), (1, .int x1), (2, .int x2), (5, .int r_6)]) hx hb dX5_odds_62 hl (k := 6) rfl rfl (by decide) rfl (fun ls hl => ?_)
                refine lv_goto (tgt := 44) hx hb dX5_odds_65 (by decide) ?_
                exact ih44 (x3_44 * 10) (x4_44 * x1) (x6_44 + 1) _ _ _ h hP hD hS (lv_sub hl [3, 4, 5, 2, 1, 6, 0] rfl)
          obtain ⟨n44, h⟩ := h
          exact L44 n44 1 1 0 _ _ _ h hP hD hS (lv_sub hl [4, 5, 6, 3, 2, 1, 0] rfl)
        · have h := h.2 c_4
          refine lv_iconst (v := (-1)) hx hb dX5_odds_19 (by decide) ?_
          exact hret (-1) () _ _ _ _ _ h rfl hP hD hS dX5_odds_20
theorem dX5_hears_0 : decode cX5_hears 0 = .ok (.iload_n 1, 1) := by decide +kernel
theorem dX5_hears_1 : decode cX5_hears 1 = .ok (.invokestatic 136, 3) := by decide +kernel
theorem dX5_hears_4 : decode cX5_hears 4 = .ok (.ifCond .eq 12, 3) := by decide +kernel
theorem dX5_hears_7 : decode cX5_hears 7 = .ok (.iload_n 2, 1) := by decide +kernel
theorem dX5_hears_8 : decode cX5_hears 8 = .ok (.ifCond .lt 8, 3) := by decide +kernel
theorem dX5_hears_11 : decode cX5_hears 11 = .ok (.iload_n 2, 1) := by decide +kernel
theorem dX5_hears_12 : decode cX5_hears 12 = .ok (.iconst 3, 1) := by decide +kernel
theorem dX5_hears_13 : decode cX5_hears 13 = .ok (.if_icmp .le 5, 3) := by decide +kernel
theorem dX5_hears_16 : decode cX5_hears 16 = .ok (.iconst (-1), 1) := by decide +kernel
theorem dX5_hears_17 : decode cX5_hears 17 = .ok (.ireturn, 1) := by decide +kernel
theorem dX5_hears_18 : decode cX5_hears 18 = .ok (.aload_n 0, 1) := by decide +kernel
theorem dX5_hears_19 : decode cX5_hears 19 = .ok (.getfield 34, 3) := by decide +kernel
theorem dX5_hears_22 : decode cX5_hears 22 = .ok (.getfield 191, 3) := by decide +kernel
theorem dX5_hears_25 : decode cX5_hears 25 = .ok (.iconst 4, 1) := by decide +kernel
theorem dX5_hears_26 : decode cX5_hears 26 = .ok (.if_icmp .lt 6, 3) := by decide +kernel
theorem dX5_hears_29 : decode cX5_hears 29 = .ok (.bipush (-3), 2) := by decide +kernel
theorem dX5_hears_31 : decode cX5_hears 31 = .ok (.ireturn, 1) := by decide +kernel
theorem dX5_hears_32 : decode cX5_hears 32 = .ok (.aload_n 0, 1) := by decide +kernel
theorem dX5_hears_33 : decode cX5_hears 33 = .ok (.getfield 34, 3) := by decide +kernel
theorem dX5_hears_36 : decode cX5_hears 36 = .ok (.iload_n 1, 1) := by decide +kernel
theorem dX5_hears_37 : decode cX5_hears 37 = .ok (.iload_n 2, 1) := by decide +kernel
theorem dX5_hears_38 : decode cX5_hears 38 = .ok (.invokevirtual 194, 3) := by decide +kernel
theorem dX5_hears_41 : decode cX5_hears 41 = .ok (.aload_n 0, 1) := by decide +kernel
theorem dX5_hears_42 : decode cX5_hears 42 = .ok (.getfield 34, 3) := by decide +kernel
theorem dX5_hears_45 : decode cX5_hears 45 = .ok (.getfield 191, 3) := by decide +kernel
theorem dX5_hears_48 : decode cX5_hears 48 = .ok (.ireturn, 1) := by decide +kernel
set_option maxHeartbeats 4000000 in
set_option maxRecDepth 100000 in
theorem c_X5_hears (E : GE) (l : Launch) (G : Nat → Nat → Nat) (pl dr : Nat → Nat) (e0 e1 e2 : Nat → Nat → Nat) (Z0 : GC) (x1 : Int32) (x2 : Int32) (post : Int32 → GC → Prop) (h : wp_X5_hears Z0 x1 x2 post) : Met l yX5_hears (wz yX5_hears cX5_hears 3 (some .int)) { frames := 2, cells := 0, slots := 0, locals := 46 } (gPc E [.ref (G 0 99), .int x1, .int x2] (gcW E G pl dr e0 e1 e2 Z0)) (gQi E (gcW E G pl dr e0 e1 e2 Z0) (fun r (u : GC) => post r u) (fun (u : GC) w => w = gcW E G pl dr e0 e1 e2 u)) 0 0 (gIn (gcW E G pl dr e0 e1 e2 Z0)) := by
  unfold wp_X5_hears at h
  refine g_of_i (by decide) (Nat.le_of_ble_eq_true rfl) ?_
  intro p e s m below meth c A Q hx hb hml hown ht hE hP hD hret ls hl
  have hK := hE.1
  have hS : va_S A s.heap s.heap [] := va_S.rf
  have hl : lv_has ls 3 [(0, .ref (G 0 99)), (1, .int x1), (2, .int x2)] := hl
  refine lv_iload_n hx hb dX5_hears_0 rfl (lv_at hl 1 rfl) ?_
  have p1 := gB (n := 15) (bs := [bGC G (pl 99) (dr 99) Z0.1, bText E (G 1) (Z0.2.1 1), bNow E (G 2) (G 3) e0 (Z0.2.1 2), bScene E (G 3) (Z0.2.1 3), bPlan E pl (Z0.2.1 4), bPlan E dr (Z0.2.1 5), bRumour E (G 6) (Z0.2.1 6), bIm E G (Z0.2.1 7), bNow E (G 8) (G 10) e1 (Z0.2.1 8), bNow E (G 9) (G 11) e2 (Z0.2.1 9), bScene E (G 10) (Z0.2.1 10), bScene E (G 11) (Z0.2.1 11), bPool E e0 (Z0.2.2 0), bPool E e1 (Z0.2.2 1), bPool E e2 (Z0.2.2 2)]) (bc := []) (br := [bGC G (pl 99) (dr 99) Z0.1, bText E (G 1) (Z0.2.1 1), bNow E (G 2) (G 3) e0 (Z0.2.1 2), bScene E (G 3) (Z0.2.1 3), bPlan E pl (Z0.2.1 4), bPlan E dr (Z0.2.1 5), bRumour E (G 6) (Z0.2.1 6), bIm E G (Z0.2.1 7), bNow E (G 8) (G 10) e1 (Z0.2.1 8), bNow E (G 9) (G 11) e2 (Z0.2.1 9), bScene E (G 10) (Z0.2.1 10), bScene E (G 11) (Z0.2.1 11), bPool E e0 (Z0.2.2 0), bPool E e1 (Z0.2.2 1), bPool E e2 (Z0.2.2 2)]) [0, 1, 2, 3, 4, 5, 6, 7, 8, 9, 10, 11, 12, 13, 14] rfl rfl (by decide)
  refine g_i (g_runS (As := [.int x1]) (rest := []) ⟨hx, hb, hml, hown, ht⟩ hE (c_X5_isNumber E l x1 _ h) ⟨rfl, rfl⟩ wk_X5_136 wt_X5_isNumber wn_X5 wc_X5_isNumber yd_X5_isNumber ⟨Nat.le_of_ble_eq_true rfl, Nat.le_of_ble_eq_true rfl⟩ hP hD p1 rfl rfl hl.1 rfl (lv_room (Nat.le_of_ble_eq_true rfl)) dX5_hears_1 ⟨Nat.zero_le _, Nat.zero_le _⟩) hP hD hS p1 (fun r_1 _ w H locs h hw hP hD hS => ?_)
  subst hw
  clear p1
  have p2 := gB (n := 15) (bs := [bGC G (pl 99) (dr 99) Z0.1, bText E (G 1) (Z0.2.1 1), bNow E (G 2) (G 3) e0 (Z0.2.1 2), bScene E (G 3) (Z0.2.1 3), bPlan E pl (Z0.2.1 4), bPlan E dr (Z0.2.1 5), bRumour E (G 6) (Z0.2.1 6), bIm E G (Z0.2.1 7), bNow E (G 8) (G 10) e1 (Z0.2.1 8), bNow E (G 9) (G 11) e2 (Z0.2.1 9), bScene E (G 10) (Z0.2.1 10), bScene E (G 11) (Z0.2.1 11), bPool E e0 (Z0.2.2 0), bPool E e1 (Z0.2.2 1), bPool E e2 (Z0.2.2 2)]) (bc := []) (br := [bGC G (pl 99) (dr 99) Z0.1, bText E (G 1) (Z0.2.1 1), bNow E (G 2) (G 3) e0 (Z0.2.1 2), bScene E (G 3) (Z0.2.1 3), bPlan E pl (Z0.2.1 4), bPlan E dr (Z0.2.1 5), bRumour E (G 6) (Z0.2.1 6), bIm E G (Z0.2.1 7), bNow E (G 8) (G 10) e1 (Z0.2.1 8), bNow E (G 9) (G 11) e2 (Z0.2.1 9), bScene E (G 10) (Z0.2.1 10), bScene E (G 11) (Z0.2.1 11), bPool E e0 (Z0.2.2 0), bPool E e1 (Z0.2.2 1), bPool E e2 (Z0.2.2 2)]) [0, 1, 2, 3, 4, 5, 6, 7, 8, 9, 10, 11, 12, 13, 14] rfl rfl (by decide)
  have hP := gP_perm p2.symm hP
  have hD := gD_perm p2.symm hD
  clear p2
  have hP : gP E (gcW E G pl dr e0 e1 e2 Z0) H := hP
  have hD : va_D A (gcW E G pl dr e0 e1 e2 Z0) := hD
  refine lv_if_eq (tgt := 16) hx hb dX5_hears_4 (by decide) (fun c_2 => ?_) (fun c_2 => ?_)
  · have h := h.1 c_2
    refine lv_iconst (v := (-1)) hx hb dX5_hears_16 (by decide) ?_
    exact hret (-1) Z0 _ _ _ _ _ h rfl hP hD hS dX5_hears_17
  · have h := h.2 c_2
    refine lv_iload_n hx hb dX5_hears_7 rfl (lv_at hl 2 rfl) ?_
    refine lv_if_lt (tgt := 16) hx hb dX5_hears_8 (by decide) (fun c_3 => ?_) (fun c_3 => ?_)
    · have h := h.1 c_3
      refine lv_iconst (v := (-1)) hx hb dX5_hears_16 (by decide) ?_
      exact hret (-1) Z0 _ _ _ _ _ h rfl hP hD hS dX5_hears_17
    · have h := h.2 c_3
      refine lv_iload_n hx hb dX5_hears_11 rfl (lv_at hl 2 rfl) ?_
      refine lv_iconst (v := 3) hx hb dX5_hears_12 (by decide) ?_
      refine lv_icmp_le (tgt := 18) hx hb dX5_hears_13 (by decide) (fun c_4 => ?_) (fun c_4 => ?_)
      · have h := h.1 c_4
        refine lv_aload_n hx hb dX5_hears_18 rfl (lv_at hl 0 rfl) ?_
        refine va_get (D := (E.1, E.2.1)) (ci := 5) (v := .ref (G 6 99)) (C := RX5) (T := TX5) (N := 8) hx hb ht wu_X5 hown hK hP 0 rfl rfl 4 (by decide) (ht _ wk_X5_34) (fun _ h9 => h9) rfl dX5_hears_19 ?_
        refine va_get (D := (E.1, E.2.1)) (ci := 2) (v := .int ((Z0.2.1 6).1 2)) (C := RX2) (T := TX2) (N := 9) hx hb ht wu_X2 hown hK hP 18 rfl rfl 2 (by decide) (ht _ wk_X5_191) (fun _ h9 => h9) rfl dX5_hears_22 ?_
        refine lv_iconst (v := 4) hx hb dX5_hears_25 (by decide) ?_
        refine lv_icmp_lt (tgt := 32) hx hb dX5_hears_26 (by decide) (fun c_5 => ?_) (fun c_5 => ?_)
        · have h := h.1 c_5
          refine lv_aload_n hx hb dX5_hears_32 rfl (lv_at hl 0 rfl) ?_
          refine va_get (D := (E.1, E.2.1)) (ci := 5) (v := .ref (G 6 99)) (C := RX5) (T := TX5) (N := 8) hx hb ht wu_X5 hown hK hP 0 rfl rfl 4 (by decide) (ht _ wk_X5_34) (fun _ h9 => h9) rfl dX5_hears_33 ?_
          refine lv_iload_n hx hb dX5_hears_36 rfl (lv_at hl 1 rfl) ?_
          refine lv_iload_n hx hb dX5_hears_37 rfl (lv_at hl 2 rfl) ?_
          have p1 := gB (n := 15) (bs := [bGC G (pl 99) (dr 99) Z0.1, bText E (G 1) (Z0.2.1 1), bNow E (G 2) (G 3) e0 (Z0.2.1 2), bScene E (G 3) (Z0.2.1 3), bPlan E pl (Z0.2.1 4), bPlan E dr (Z0.2.1 5), bRumour E (G 6) (Z0.2.1 6), bIm E G (Z0.2.1 7), bNow E (G 8) (G 10) e1 (Z0.2.1 8), bNow E (G 9) (G 11) e2 (Z0.2.1 9), bScene E (G 10) (Z0.2.1 10), bScene E (G 11) (Z0.2.1 11), bPool E e0 (Z0.2.2 0), bPool E e1 (Z0.2.2 1), bPool E e2 (Z0.2.2 2)]) (bc := [bRumour E (G 6) (Z0.2.1 6)]) (br := [bGC G (pl 99) (dr 99) Z0.1, bText E (G 1) (Z0.2.1 1), bNow E (G 2) (G 3) e0 (Z0.2.1 2), bScene E (G 3) (Z0.2.1 3), bPlan E pl (Z0.2.1 4), bPlan E dr (Z0.2.1 5), bIm E G (Z0.2.1 7), bNow E (G 8) (G 10) e1 (Z0.2.1 8), bNow E (G 9) (G 11) e2 (Z0.2.1 9), bScene E (G 10) (Z0.2.1 10), bScene E (G 11) (Z0.2.1 11), bPool E e0 (Z0.2.2 0), bPool E e1 (Z0.2.2 1), bPool E e2 (Z0.2.2 2)]) [6, 0, 1, 2, 3, 4, 5, 7, 8, 9, 10, 11, 12, 13, 14] rfl rfl (by decide)
          refine g_v (g_runV (As := [.int x1, .int x2]) (rest := []) ⟨hx, hb, hml, hown, ht⟩ hE (c_X2_add E l (G 6) (Z0.2.1 6) x1 x2 _ h) ⟨rfl, rfl⟩ wk_X5_194 wi_X2_add ws_X2_add wn_X2 wc_X2_add yd_X2_add ⟨Nat.le_of_ble_eq_true rfl, Nat.le_of_ble_eq_true rfl⟩ hP hD p1 (ci := 2) rfl rfl rfl rfl rfl hl.1 rfl (lv_room (Nat.le_of_ble_eq_true rfl)) dX5_hears_38 ⟨Nat.zero_le _, Nat.zero_le _⟩) hP hD hS p1 (fun S_6 w H locs h hw hP hD hS => ?_)
          subst hw
          clear p1
          have p2 := gB (n := 15) (bs := [bGC G (pl 99) (dr 99) Z0.1, bText E (G 1) (Z0.2.1 1), bNow E (G 2) (G 3) e0 (Z0.2.1 2), bScene E (G 3) (Z0.2.1 3), bPlan E pl (Z0.2.1 4), bPlan E dr (Z0.2.1 5), bRumour E (G 6) S_6, bIm E G (Z0.2.1 7), bNow E (G 8) (G 10) e1 (Z0.2.1 8), bNow E (G 9) (G 11) e2 (Z0.2.1 9), bScene E (G 10) (Z0.2.1 10), bScene E (G 11) (Z0.2.1 11), bPool E e0 (Z0.2.2 0), bPool E e1 (Z0.2.2 1), bPool E e2 (Z0.2.2 2)]) (bc := [bRumour E (G 6) S_6]) (br := [bGC G (pl 99) (dr 99) Z0.1, bText E (G 1) (Z0.2.1 1), bNow E (G 2) (G 3) e0 (Z0.2.1 2), bScene E (G 3) (Z0.2.1 3), bPlan E pl (Z0.2.1 4), bPlan E dr (Z0.2.1 5), bIm E G (Z0.2.1 7), bNow E (G 8) (G 10) e1 (Z0.2.1 8), bNow E (G 9) (G 11) e2 (Z0.2.1 9), bScene E (G 10) (Z0.2.1 10), bScene E (G 11) (Z0.2.1 11), bPool E e0 (Z0.2.2 0), bPool E e1 (Z0.2.2 1), bPool E e2 (Z0.2.2 2)]) [6, 0, 1, 2, 3, 4, 5, 7, 8, 9, 10, 11, 12, 13, 14] rfl rfl (by decide)
          have hP := gP_perm p2.symm hP
          have hD := gD_perm p2.symm hD
          clear p2
          obtain ⟨Z_7, eZ_7⟩ : ∃ z : GC, z = (gx Z0 6 S_6) := ⟨_, rfl⟩
          have h := h Z_7 eZ_7
          have hP : gP E (gcW E G pl dr e0 e1 e2 Z_7) H := by rw [eZ_7]; exact hP
          have hD : va_D A (gcW E G pl dr e0 e1 e2 Z_7) := by rw [eZ_7]; exact hD
          refine lv_aload_n hx hb dX5_hears_41 rfl (lv_at hl 0 rfl) ?_
          refine va_get (D := (E.1, E.2.1)) (ci := 5) (v := .ref (G 6 99)) (C := RX5) (T := TX5) (N := 8) hx hb ht wu_X5 hown hK hP 0 rfl rfl 4 (by decide) (ht _ wk_X5_34) (fun _ h9 => h9) rfl dX5_hears_42 ?_
          refine va_get (D := (E.1, E.2.1)) (ci := 2) (v := .int ((Z_7.2.1 6).1 2)) (C := RX2) (T := TX2) (N := 9) hx hb ht wu_X2 hown hK hP 18 rfl rfl 2 (by decide) (ht _ wk_X5_191) (fun _ h9 => h9) rfl dX5_hears_45 ?_
          exact hret ((Z_7.2.1 6).1 2) Z_7 _ _ _ _ _ h rfl hP hD hS dX5_hears_48
        · have h := h.2 c_5
          refine lv_bipush (v := (-3)) hx hb dX5_hears_29 (by decide) ?_
          exact hret (-3) Z0 _ _ _ _ _ h rfl hP hD hS dX5_hears_31
      · have h := h.2 c_4
        refine lv_iconst (v := (-1)) hx hb dX5_hears_16 (by decide) ?_
        exact hret (-1) Z0 _ _ _ _ _ h rfl hP hD hS dX5_hears_17
theorem dX5_forget_0 : decode cX5_forget 0 = .ok (.aload_n 0, 1) := by decide +kernel
theorem dX5_forget_1 : decode cX5_forget 1 = .ok (.getfield 34, 3) := by decide +kernel
theorem dX5_forget_4 : decode cX5_forget 4 = .ok (.getfield 191, 3) := by decide +kernel
theorem dX5_forget_7 : decode cX5_forget 7 = .ok (.istore_n 1, 1) := by decide +kernel
theorem dX5_forget_8 : decode cX5_forget 8 = .ok (.aload_n 0, 1) := by decide +kernel
theorem dX5_forget_9 : decode cX5_forget 9 = .ok (.getfield 34, 3) := by decide +kernel
theorem dX5_forget_12 : decode cX5_forget 12 = .ok (.invokevirtual 68, 3) := by decide +kernel
theorem dX5_forget_15 : decode cX5_forget 15 = .ok (.iload_n 1, 1) := by decide +kernel
theorem dX5_forget_16 : decode cX5_forget 16 = .ok (.ireturn, 1) := by decide +kernel
set_option maxHeartbeats 4000000 in
set_option maxRecDepth 100000 in
theorem c_X5_forget (E : GE) (l : Launch) (G : Nat → Nat → Nat) (pl dr : Nat → Nat) (e0 e1 e2 : Nat → Nat → Nat) (Z0 : GC) (post : Int32 → GC → Prop) (h : wp_X5_forget Z0 post) : Met l yX5_forget (wz yX5_forget cX5_forget 2 (some .int)) { frames := 1, cells := 0, slots := 0, locals := 21 } (gPc E [.ref (G 0 99)] (gcW E G pl dr e0 e1 e2 Z0)) (gQi E (gcW E G pl dr e0 e1 e2 Z0) (fun r (u : GC) => post r u) (fun (u : GC) w => w = gcW E G pl dr e0 e1 e2 u)) 0 0 (gIn (gcW E G pl dr e0 e1 e2 Z0)) := by
  unfold wp_X5_forget at h
  refine g_of_i (by decide) (Nat.le_of_ble_eq_true rfl) ?_
  intro p e s m below meth c A Q hx hb hml hown ht hE hP hD hret ls hl
  have hK := hE.1
  have hS : va_S A s.heap s.heap [] := va_S.rf
  have hl : lv_has ls 2 [(0, .ref (G 0 99))] := hl
  refine lv_aload_n hx hb dX5_forget_0 rfl (lv_at hl 0 rfl) ?_
  refine va_get (D := (E.1, E.2.1)) (ci := 5) (v := .ref (G 6 99)) (C := RX5) (T := TX5) (N := 8) hx hb ht wu_X5 hown hK hP 0 rfl rfl 4 (by decide) (ht _ wk_X5_34) (fun _ h9 => h9) rfl dX5_forget_1 ?_
  refine va_get (D := (E.1, E.2.1)) (ci := 2) (v := .int ((Z0.2.1 6).1 2)) (C := RX2) (T := TX2) (N := 9) hx hb ht wu_X2 hown hK hP 18 rfl rfl 2 (by decide) (ht _ wk_X5_191) (fun _ h9 => h9) rfl dX5_forget_4 ?_
  refine lv_istore_n (lv' := [(1, .int ((Z0.2.1 6).1 2)), (0, .ref (G 0 99))]) hx hb dX5_forget_7 rfl hl (by decide) rfl (fun ls hl => ?_)
  refine lv_aload_n hx hb dX5_forget_8 rfl (lv_at hl 1 rfl) ?_
  refine va_get (D := (E.1, E.2.1)) (ci := 5) (v := .ref (G 6 99)) (C := RX5) (T := TX5) (N := 8) hx hb ht wu_X5 hown hK hP 0 rfl rfl 4 (by decide) (ht _ wk_X5_34) (fun _ h9 => h9) rfl dX5_forget_9 ?_
  have p1 := gB (n := 15) (bs := [bGC G (pl 99) (dr 99) Z0.1, bText E (G 1) (Z0.2.1 1), bNow E (G 2) (G 3) e0 (Z0.2.1 2), bScene E (G 3) (Z0.2.1 3), bPlan E pl (Z0.2.1 4), bPlan E dr (Z0.2.1 5), bRumour E (G 6) (Z0.2.1 6), bIm E G (Z0.2.1 7), bNow E (G 8) (G 10) e1 (Z0.2.1 8), bNow E (G 9) (G 11) e2 (Z0.2.1 9), bScene E (G 10) (Z0.2.1 10), bScene E (G 11) (Z0.2.1 11), bPool E e0 (Z0.2.2 0), bPool E e1 (Z0.2.2 1), bPool E e2 (Z0.2.2 2)]) (bc := [bRumour E (G 6) (Z0.2.1 6)]) (br := [bGC G (pl 99) (dr 99) Z0.1, bText E (G 1) (Z0.2.1 1), bNow E (G 2) (G 3) e0 (Z0.2.1 2), bScene E (G 3) (Z0.2.1 3), bPlan E pl (Z0.2.1 4), bPlan E dr (Z0.2.1 5), bIm E G (Z0.2.1 7), bNow E (G 8) (G 10) e1 (Z0.2.1 8), bNow E (G 9) (G 11) e2 (Z0.2.1 9), bScene E (G 10) (Z0.2.1 10), bScene E (G 11) (Z0.2.1 11), bPool E e0 (Z0.2.2 0), bPool E e1 (Z0.2.2 1), bPool E e2 (Z0.2.2 2)]) [6, 0, 1, 2, 3, 4, 5, 7, 8, 9, 10, 11, 12, 13, 14] rfl rfl (by decide)
  refine g_v (g_runV (As := []) (rest := []) ⟨hx, hb, hml, hown, ht⟩ hE (c_X2_forgetAll E l (G 6) (Z0.2.1 6) _ h) ⟨rfl, rfl⟩ wk_X5_68 wi_X2_forgetAll ws_X2_forgetAll wn_X2 wc_X2_forgetAll yd_X2_forgetAll ⟨Nat.le_of_ble_eq_true rfl, Nat.le_of_ble_eq_true rfl⟩ hP hD p1 (ci := 2) rfl rfl rfl rfl rfl hl.1 rfl (lv_room (Nat.le_of_ble_eq_true rfl)) dX5_forget_12 ⟨Nat.zero_le _, Nat.zero_le _⟩) hP hD hS p1 (fun S_1 w H locs h hw hP hD hS => ?_)
  subst hw
  clear p1
  have p2 := gB (n := 15) (bs := [bGC G (pl 99) (dr 99) Z0.1, bText E (G 1) (Z0.2.1 1), bNow E (G 2) (G 3) e0 (Z0.2.1 2), bScene E (G 3) (Z0.2.1 3), bPlan E pl (Z0.2.1 4), bPlan E dr (Z0.2.1 5), bRumour E (G 6) S_1, bIm E G (Z0.2.1 7), bNow E (G 8) (G 10) e1 (Z0.2.1 8), bNow E (G 9) (G 11) e2 (Z0.2.1 9), bScene E (G 10) (Z0.2.1 10), bScene E (G 11) (Z0.2.1 11), bPool E e0 (Z0.2.2 0), bPool E e1 (Z0.2.2 1), bPool E e2 (Z0.2.2 2)]) (bc := [bRumour E (G 6) S_1]) (br := [bGC G (pl 99) (dr 99) Z0.1, bText E (G 1) (Z0.2.1 1), bNow E (G 2) (G 3) e0 (Z0.2.1 2), bScene E (G 3) (Z0.2.1 3), bPlan E pl (Z0.2.1 4), bPlan E dr (Z0.2.1 5), bIm E G (Z0.2.1 7), bNow E (G 8) (G 10) e1 (Z0.2.1 8), bNow E (G 9) (G 11) e2 (Z0.2.1 9), bScene E (G 10) (Z0.2.1 10), bScene E (G 11) (Z0.2.1 11), bPool E e0 (Z0.2.2 0), bPool E e1 (Z0.2.2 1), bPool E e2 (Z0.2.2 2)]) [6, 0, 1, 2, 3, 4, 5, 7, 8, 9, 10, 11, 12, 13, 14] rfl rfl (by decide)
  have hP := gP_perm p2.symm hP
  have hD := gD_perm p2.symm hD
  clear p2
  obtain ⟨Z_2, eZ_2⟩ : ∃ z : GC, z = (gx Z0 6 S_1) := ⟨_, rfl⟩
  have h := h Z_2 eZ_2
  have hP : gP E (gcW E G pl dr e0 e1 e2 Z_2) H := by rw [eZ_2]; exact hP
  have hD : va_D A (gcW E G pl dr e0 e1 e2 Z_2) := by rw [eZ_2]; exact hD
  refine lv_iload_n hx hb dX5_forget_15 rfl (lv_at hl 0 rfl) ?_
  exact hret ((Z0.2.1 6).1 2) Z_2 _ _ _ _ _ h rfl hP hD hS dX5_forget_16
theorem dX5_codes_0 : decode cX5_codes 0 = .ok (.iload_n 1, 1) := by decide +kernel
theorem dX5_codes_1 : decode cX5_codes 1 = .ok (.lookupswitch 60 #[(0, 27), (1, 35)], 27) := by decide +kernel
theorem dX5_codes_28 : decode cX5_codes 28 = .ok (.aload_n 0, 1) := by decide +kernel
theorem dX5_codes_29 : decode cX5_codes 29 = .ok (.getfield 34, 3) := by decide +kernel
theorem dX5_codes_32 : decode cX5_codes 32 = .ok (.getfield 198, 3) := by decide +kernel
theorem dX5_codes_35 : decode cX5_codes 35 = .ok (.ireturn, 1) := by decide +kernel
theorem dX5_codes_36 : decode cX5_codes 36 = .ok (.aload_n 0, 1) := by decide +kernel
theorem dX5_codes_37 : decode cX5_codes 37 = .ok (.getfield 34, 3) := by decide +kernel
theorem dX5_codes_40 : decode cX5_codes 40 = .ok (.getfield 198, 3) := by decide +kernel
theorem dX5_codes_43 : decode cX5_codes 43 = .ok (.ifCond .ne 8, 3) := by decide +kernel
theorem dX5_codes_46 : decode cX5_codes 46 = .ok (.bipush (-9), 2) := by decide +kernel
theorem dX5_codes_48 : decode cX5_codes 48 = .ok (.goto 12, 3) := by decide +kernel
theorem dX5_codes_51 : decode cX5_codes 51 = .ok (.aload_n 0, 1) := by decide +kernel
theorem dX5_codes_52 : decode cX5_codes 52 = .ok (.getfield 34, 3) := by decide +kernel
theorem dX5_codes_55 : decode cX5_codes 55 = .ok (.getfield 201, 3) := by decide +kernel
theorem dX5_codes_58 : decode cX5_codes 58 = .ok (.iconst 0, 1) := by decide +kernel
theorem dX5_codes_59 : decode cX5_codes 59 = .ok (.iaload, 1) := by decide +kernel
theorem dX5_codes_60 : decode cX5_codes 60 = .ok (.ireturn, 1) := by decide +kernel
theorem dX5_codes_61 : decode cX5_codes 61 = .ok (.iconst (-1), 1) := by decide +kernel
theorem dX5_codes_62 : decode cX5_codes 62 = .ok (.ireturn, 1) := by decide +kernel
set_option maxHeartbeats 4000000 in
set_option maxRecDepth 100000 in
theorem c_X5_codes (E : GE) (l : Launch) (G : Nat → Nat → Nat) (pl dr : Nat → Nat) (e0 e1 e2 : Nat → Nat → Nat) (Z0 : GC) (x1 : Int32) (post : Int32 → Prop) (h : wp_X5_codes Z0 x1 post) : Met l yX5_codes (wz yX5_codes cX5_codes 2 (some .int)) { frames := 0, cells := 0, slots := 0, locals := 0 } (gPc E [.ref (G 0 99), .int x1] (gcW E G pl dr e0 e1 e2 Z0)) (gQi E (gcW E G pl dr e0 e1 e2 Z0) (fun r (_ : Unit) => post r) (fun (_ : Unit) w => w = gcW E G pl dr e0 e1 e2 Z0)) 0 0 (gIn (gcW E G pl dr e0 e1 e2 Z0)) := by
  unfold wp_X5_codes at h
  refine g_of_i (by decide) (Nat.le_of_ble_eq_true rfl) ?_
  intro p e s m below meth c A Q hx hb hml hown ht hE hP hD hret ls hl
  have hK := hE.1
  have hS : va_S A s.heap s.heap [] := va_S.rf
  have hl : lv_has ls 2 [(0, .ref (G 0 99)), (1, .int x1)] := hl
  refine lv_iload_n hx hb dX5_codes_0 rfl (lv_at hl 1 rfl) ?_
  rcases sw_0_1 x1 with c | c | c
  · have h := h.1 c
    refine lv_asi c ?_
    refine lv_lookup (off := 27) (tgt := 28) hx hb dX5_codes_1 (by decide) (by decide) (by decide) ?_
    refine lv_aload_n hx hb dX5_codes_28 rfl (lv_at hl 0 rfl) ?_
    refine va_get (D := (E.1, E.2.1)) (ci := 5) (v := .ref (G 6 99)) (C := RX5) (T := TX5) (N := 8) hx hb ht wu_X5 hown hK hP 0 rfl rfl 4 (by decide) (ht _ wk_X5_34) (fun _ h9 => h9) rfl dX5_codes_29 ?_
    refine va_get (D := (E.1, E.2.1)) (ci := 2) (v := .int ((Z0.2.1 6).1 1)) (C := RX2) (T := TX2) (N := 9) hx hb ht wu_X2 hown hK hP 18 rfl rfl 1 (by decide) (ht _ wk_X5_198) (fun _ h9 => h9) rfl dX5_codes_32 ?_
    exact hret ((Z0.2.1 6).1 1) () _ _ _ _ _ h rfl hP hD hS dX5_codes_35
  · have h := h.2.1 c
    refine lv_asi c ?_
    refine lv_lookup (off := 35) (tgt := 36) hx hb dX5_codes_1 (by decide) (by decide) (by decide) ?_
    refine lv_aload_n hx hb dX5_codes_36 rfl (lv_at hl 0 rfl) ?_
    refine va_get (D := (E.1, E.2.1)) (ci := 5) (v := .ref (G 6 99)) (C := RX5) (T := TX5) (N := 8) hx hb ht wu_X5 hown hK hP 0 rfl rfl 4 (by decide) (ht _ wk_X5_34) (fun _ h9 => h9) rfl dX5_codes_37 ?_
    refine va_get (D := (E.1, E.2.1)) (ci := 2) (v := .int ((Z0.2.1 6).1 1)) (C := RX2) (T := TX2) (N := 9) hx hb ht wu_X2 hown hK hP 18 rfl rfl 1 (by decide) (ht _ wk_X5_198) (fun _ h9 => h9) rfl dX5_codes_40 ?_
    refine lv_if_ne (tgt := 51) hx hb dX5_codes_43 (by decide) (fun c_1 => ?_) (fun c_1 => ?_)
    · have h := h.1 c_1
      refine lv_aload_n hx hb dX5_codes_51 rfl (lv_at hl 0 rfl) ?_
      refine va_get (D := (E.1, E.2.1)) (ci := 5) (v := .ref (G 6 99)) (C := RX5) (T := TX5) (N := 8) hx hb ht wu_X5 hown hK hP 0 rfl rfl 4 (by decide) (ht _ wk_X5_34) (fun _ h9 => h9) rfl dX5_codes_52 ?_
      refine va_get (D := (E.1, E.2.1)) (ci := 2) (v := .ref ((G 6) 0)) (C := RX2) (T := TX2) (N := 9) hx hb ht wu_X2 hown hK hP 18 rfl rfl 0 (by decide) (ht _ wk_X5_201) (fun _ h9 => h9) rfl dX5_codes_55 ?_
      refine lv_iconst (v := 0) hx hb dX5_codes_58 (by decide) ?_
      refine va_iald hx hb hK hP 19 0 rfl rfl (by unfold vp_in; decide) dX5_codes_59 ?_
      refine lv_asi (x' := ((Z0.2.1 6).2 0 0)) rfl ?_
      exact hret ((Z0.2.1 6).2 0 0) () _ _ _ _ _ h rfl hP hD hS dX5_codes_60
    · have h := h.2 c_1
      refine lv_bipush (v := (-9)) hx hb dX5_codes_46 (by decide) ?_
      refine lv_goto (tgt := 60) hx hb dX5_codes_48 (by decide) ?_
      exact hret (-9) () _ _ _ _ _ h rfl hP hD hS dX5_codes_60
  · have h := h.2.2 c
    refine lv_lookup (off := 60) (tgt := 61) hx hb dX5_codes_1 (by decide) (lk_out_0_1 c) (by decide) ?_
    refine lv_iconst (v := (-1)) hx hb dX5_codes_61 (by decide) ?_
    exact hret (-1) () _ _ _ _ _ h rfl hP hD hS dX5_codes_62
theorem dX5_ask_0 : decode cX5_ask 0 = .ok (.aload_n 0, 1) := by decide +kernel
theorem dX5_ask_1 : decode cX5_ask 1 = .ok (.getfield 34, 3) := by decide +kernel
theorem dX5_ask_4 : decode cX5_ask 4 = .ok (.getfield 198, 3) := by decide +kernel
theorem dX5_ask_7 : decode cX5_ask 7 = .ok (.iconst 2, 1) := by decide +kernel
theorem dX5_ask_8 : decode cX5_ask 8 = .ok (.if_icmp .lt 16, 3) := by decide +kernel
theorem dX5_ask_11 : decode cX5_ask 11 = .ok (.aload_n 0, 1) := by decide +kernel
theorem dX5_ask_12 : decode cX5_ask 12 = .ok (.getfield 34, 3) := by decide +kernel
theorem dX5_ask_15 : decode cX5_ask 15 = .ok (.getfield 198, 3) := by decide +kernel
theorem dX5_ask_18 : decode cX5_ask 18 = .ok (.sipush 250, 3) := by decide +kernel
theorem dX5_ask_21 : decode cX5_ask 21 = .ok (.if_icmp .le 6, 3) := by decide +kernel
theorem dX5_ask_24 : decode cX5_ask 24 = .ok (.bipush (-9), 2) := by decide +kernel
theorem dX5_ask_26 : decode cX5_ask 26 = .ok (.ireturn, 1) := by decide +kernel
theorem dX5_ask_27 : decode cX5_ask 27 = .ok (.aload_n 0, 1) := by decide +kernel
theorem dX5_ask_28 : decode cX5_ask 28 = .ok (.getfield 34, 3) := by decide +kernel
theorem dX5_ask_31 : decode cX5_ask 31 = .ok (.invokevirtual 204, 3) := by decide +kernel
theorem dX5_ask_34 : decode cX5_ask 34 = .ok (.ireturn, 1) := by decide +kernel
set_option maxHeartbeats 4000000 in
set_option maxRecDepth 100000 in
theorem c_X5_ask (E : GE) (l : Launch) (G : Nat → Nat → Nat) (pl dr : Nat → Nat) (e0 e1 e2 : Nat → Nat → Nat) (Z0 : GC) (post : Int32 → GC → Prop) (h : wp_X5_ask Z0 post) : Met l yX5_ask (wz yX5_ask cX5_ask 1 (some .int)) { frames := 3, cells := 0, slots := 0, locals := 77 } (gPc E [.ref (G 0 99)] (gcW E G pl dr e0 e1 e2 Z0)) (gQi E (gcW E G pl dr e0 e1 e2 Z0) (fun r (u : GC) => post r u) (fun (u : GC) w => w = gcW E G pl dr e0 e1 e2 u)) 0 0 (gIn (gcW E G pl dr e0 e1 e2 Z0)) := by
  unfold wp_X5_ask at h
  refine g_of_i (by decide) (Nat.le_of_ble_eq_true rfl) ?_
  intro p e s m below meth c A Q hx hb hml hown ht hE hP hD hret ls hl
  have hK := hE.1
  have hS : va_S A s.heap s.heap [] := va_S.rf
  have hl : lv_has ls 1 [(0, .ref (G 0 99))] := hl
  refine lv_aload_n hx hb dX5_ask_0 rfl (lv_at hl 0 rfl) ?_
  refine va_get (D := (E.1, E.2.1)) (ci := 5) (v := .ref (G 6 99)) (C := RX5) (T := TX5) (N := 8) hx hb ht wu_X5 hown hK hP 0 rfl rfl 4 (by decide) (ht _ wk_X5_34) (fun _ h9 => h9) rfl dX5_ask_1 ?_
  refine va_get (D := (E.1, E.2.1)) (ci := 2) (v := .int ((Z0.2.1 6).1 1)) (C := RX2) (T := TX2) (N := 9) hx hb ht wu_X2 hown hK hP 18 rfl rfl 1 (by decide) (ht _ wk_X5_198) (fun _ h9 => h9) rfl dX5_ask_4 ?_
  refine lv_iconst (v := 2) hx hb dX5_ask_7 (by decide) ?_
  refine lv_icmp_lt (tgt := 24) hx hb dX5_ask_8 (by decide) (fun c_1 => ?_) (fun c_1 => ?_)
  · have h := h.1 c_1
    refine lv_bipush (v := (-9)) hx hb dX5_ask_24 (by decide) ?_
    exact hret (-9) Z0 _ _ _ _ _ h rfl hP hD hS dX5_ask_26
  · have h := h.2 c_1
    refine lv_aload_n hx hb dX5_ask_11 rfl (lv_at hl 0 rfl) ?_
    refine va_get (D := (E.1, E.2.1)) (ci := 5) (v := .ref (G 6 99)) (C := RX5) (T := TX5) (N := 8) hx hb ht wu_X5 hown hK hP 0 rfl rfl 4 (by decide) (ht _ wk_X5_34) (fun _ h9 => h9) rfl dX5_ask_12 ?_
    refine va_get (D := (E.1, E.2.1)) (ci := 2) (v := .int ((Z0.2.1 6).1 1)) (C := RX2) (T := TX2) (N := 9) hx hb ht wu_X2 hown hK hP 18 rfl rfl 1 (by decide) (ht _ wk_X5_198) (fun _ h9 => h9) rfl dX5_ask_15 ?_
    refine lv_sipush (v := 250) hx hb dX5_ask_18 (by decide) ?_
    refine lv_icmp_le (tgt := 27) hx hb dX5_ask_21 (by decide) (fun c_2 => ?_) (fun c_2 => ?_)
    · have h := h.1 c_2
      refine lv_aload_n hx hb dX5_ask_27 rfl (lv_at hl 0 rfl) ?_
      refine va_get (D := (E.1, E.2.1)) (ci := 5) (v := .ref (G 6 99)) (C := RX5) (T := TX5) (N := 8) hx hb ht wu_X5 hown hK hP 0 rfl rfl 4 (by decide) (ht _ wk_X5_34) (fun _ h9 => h9) rfl dX5_ask_28 ?_
      have p1 := gB (n := 15) (bs := [bGC G (pl 99) (dr 99) Z0.1, bText E (G 1) (Z0.2.1 1), bNow E (G 2) (G 3) e0 (Z0.2.1 2), bScene E (G 3) (Z0.2.1 3), bPlan E pl (Z0.2.1 4), bPlan E dr (Z0.2.1 5), bRumour E (G 6) (Z0.2.1 6), bIm E G (Z0.2.1 7), bNow E (G 8) (G 10) e1 (Z0.2.1 8), bNow E (G 9) (G 11) e2 (Z0.2.1 9), bScene E (G 10) (Z0.2.1 10), bScene E (G 11) (Z0.2.1 11), bPool E e0 (Z0.2.2 0), bPool E e1 (Z0.2.2 1), bPool E e2 (Z0.2.2 2)]) (bc := [bRumour E (G 6) (Z0.2.1 6)]) (br := [bGC G (pl 99) (dr 99) Z0.1, bText E (G 1) (Z0.2.1 1), bNow E (G 2) (G 3) e0 (Z0.2.1 2), bScene E (G 3) (Z0.2.1 3), bPlan E pl (Z0.2.1 4), bPlan E dr (Z0.2.1 5), bIm E G (Z0.2.1 7), bNow E (G 8) (G 10) e1 (Z0.2.1 8), bNow E (G 9) (G 11) e2 (Z0.2.1 9), bScene E (G 10) (Z0.2.1 10), bScene E (G 11) (Z0.2.1 11), bPool E e0 (Z0.2.2 0), bPool E e1 (Z0.2.2 1), bPool E e2 (Z0.2.2 2)]) [6, 0, 1, 2, 3, 4, 5, 7, 8, 9, 10, 11, 12, 13, 14] rfl rfl (by decide)
      refine g_i (g_runV (As := []) (rest := []) ⟨hx, hb, hml, hown, ht⟩ hE (c_X2_bestQuestion E l (G 6) (Z0.2.1 6) _ h) ⟨rfl, rfl⟩ wk_X5_204 wi_X2_bestQuestion ws_X2_bestQuestion wn_X2 wc_X2_bestQuestion yd_X2_bestQuestion ⟨Nat.le_of_ble_eq_true rfl, Nat.le_of_ble_eq_true rfl⟩ hP hD p1 (ci := 2) rfl rfl rfl rfl rfl hl.1 rfl (lv_room (Nat.le_of_ble_eq_true rfl)) dX5_ask_31 ⟨Nat.zero_le _, Nat.zero_le _⟩) hP hD hS p1 (fun r_3 S_4 w H locs h hw hP hD hS => ?_)
      subst hw
      clear p1
      have p2 := gB (n := 15) (bs := [bGC G (pl 99) (dr 99) Z0.1, bText E (G 1) (Z0.2.1 1), bNow E (G 2) (G 3) e0 (Z0.2.1 2), bScene E (G 3) (Z0.2.1 3), bPlan E pl (Z0.2.1 4), bPlan E dr (Z0.2.1 5), bRumour E (G 6) S_4, bIm E G (Z0.2.1 7), bNow E (G 8) (G 10) e1 (Z0.2.1 8), bNow E (G 9) (G 11) e2 (Z0.2.1 9), bScene E (G 10) (Z0.2.1 10), bScene E (G 11) (Z0.2.1 11), bPool E e0 (Z0.2.2 0), bPool E e1 (Z0.2.2 1), bPool E e2 (Z0.2.2 2)]) (bc := [bRumour E (G 6) S_4]) (br := [bGC G (pl 99) (dr 99) Z0.1, bText E (G 1) (Z0.2.1 1), bNow E (G 2) (G 3) e0 (Z0.2.1 2), bScene E (G 3) (Z0.2.1 3), bPlan E pl (Z0.2.1 4), bPlan E dr (Z0.2.1 5), bIm E G (Z0.2.1 7), bNow E (G 8) (G 10) e1 (Z0.2.1 8), bNow E (G 9) (G 11) e2 (Z0.2.1 9), bScene E (G 10) (Z0.2.1 10), bScene E (G 11) (Z0.2.1 11), bPool E e0 (Z0.2.2 0), bPool E e1 (Z0.2.2 1), bPool E e2 (Z0.2.2 2)]) [6, 0, 1, 2, 3, 4, 5, 7, 8, 9, 10, 11, 12, 13, 14] rfl rfl (by decide)
      have hP := gP_perm p2.symm hP
      have hD := gD_perm p2.symm hD
      clear p2
      obtain ⟨Z_5, eZ_5⟩ : ∃ z : GC, z = (gx Z0 6 S_4) := ⟨_, rfl⟩
      have h := h Z_5 eZ_5
      have hP : gP E (gcW E G pl dr e0 e1 e2 Z_5) H := by rw [eZ_5]; exact hP
      have hD : va_D A (gcW E G pl dr e0 e1 e2 Z_5) := by rw [eZ_5]; exact hD
      exact hret r_3 Z_5 _ _ _ _ _ h rfl hP hD hS dX5_ask_34
    · have h := h.2 c_2
      refine lv_bipush (v := (-9)) hx hb dX5_ask_24 (by decide) ?_
      exact hret (-9) Z0 _ _ _ _ _ h rfl hP hD hS dX5_ask_26
theorem dX5_markOfLock_0 : decode cX5_markOfLock 0 = .ok (.aload_n 0, 1) := by decide +kernel
theorem dX5_markOfLock_1 : decode cX5_markOfLock 1 = .ok (.dup, 1) := by decide +kernel
theorem dX5_markOfLock_2 : decode cX5_markOfLock 2 = .ok (.getfield 48, 3) := by decide +kernel
theorem dX5_markOfLock_5 : decode cX5_markOfLock 5 = .ok (.lconst 1, 1) := by decide +kernel
theorem dX5_markOfLock_6 : decode cX5_markOfLock 6 = .ok (.ladd, 1) := by decide +kernel
theorem dX5_markOfLock_7 : decode cX5_markOfLock 7 = .ok (.putfield 48, 3) := by decide +kernel
theorem dX5_markOfLock_10 : decode cX5_markOfLock 10 = .ok (.aload_n 0, 1) := by decide +kernel
theorem dX5_markOfLock_11 : decode cX5_markOfLock 11 = .ok (.getfield 19, 3) := by decide +kernel
theorem dX5_markOfLock_14 : decode cX5_markOfLock 14 = .ok (.getfield 75, 3) := by decide +kernel
theorem dX5_markOfLock_17 : decode cX5_markOfLock 17 = .ok (.iload_n 1, 1) := by decide +kernel
theorem dX5_markOfLock_18 : decode cX5_markOfLock 18 = .ok (.invokevirtual 150, 3) := by decide +kernel
theorem dX5_markOfLock_21 : decode cX5_markOfLock 21 = .ok (.ireturn, 1) := by decide +kernel
set_option maxHeartbeats 4000000 in
set_option maxRecDepth 100000 in
theorem c_X5_markOfLock (E : GE) (l : Launch) (G : Nat → Nat → Nat) (pl dr : Nat → Nat) (e0 e1 e2 : Nat → Nat → Nat) (Z0 : GC) (x1 : Int32) (post : Int32 → GC → Prop) (h : wp_X5_markOfLock Z0 x1 post) : Met l yX5_markOfLock (wz yX5_markOfLock cX5_markOfLock 2 (some .int)) { frames := 2, cells := 0, slots := 0, locals := 41 } (gPc E [.ref (G 0 99), .int x1] (gcW E G pl dr e0 e1 e2 Z0)) (gQi E (gcW E G pl dr e0 e1 e2 Z0) (fun r (u : GC) => post r u) (fun (u : GC) w => w = gcW E G pl dr e0 e1 e2 u)) 0 0 (gIn (gcW E G pl dr e0 e1 e2 Z0)) := by
  unfold wp_X5_markOfLock at h
  refine g_of_i (by decide) (Nat.le_of_ble_eq_true rfl) ?_
  intro p e s m below meth c A Q hx hb hml hown ht hE hP hD hret ls hl
  have hK := hE.1
  have hS : va_S A s.heap s.heap [] := va_S.rf
  have hl : lv_has ls 2 [(0, .ref (G 0 99)), (1, .int x1)] := hl
  refine lv_aload_n hx hb dX5_markOfLock_0 rfl (lv_at hl 0 rfl) ?_
  refine lv_dup hx hb dX5_markOfLock_1 rfl ?_
  refine va_get (D := (E.1, E.2.1)) (ci := 5) (v := .long (Z0.1)) (C := RX5) (T := TX5) (N := 8) hx hb ht wu_X5 hown hK hP 0 rfl rfl 7 (by decide) (ht _ wk_X5_48) (fun _ h9 => h9) rfl dX5_markOfLock_2 ?_
  refine lv_lconst (v := 1) hx hb dX5_markOfLock_5 (by decide) ?_
  refine lv_ladd hx hb dX5_markOfLock_6 ?_
  refine va_put (D := (E.1, E.2.1)) (ci := 5) (v := .long (Z0.1 + 1)) (ty := .long) (C := RX5) (T := TX5) (N := 8) hx hb ht wu_X5 tyX5 tyX5_ok nmX5 hown hK hP hD hS 0 rfl rfl 7 (by decide) (ht _ wk_X5_48) (fun _ h9 => h9) rfl (by decide +kernel) rfl rfl (Nat.le_of_ble_eq_true rfl) dX5_markOfLock_7 (fun H locs hP hD hS => ?_)
  have hP : gP E (gcW E G pl dr e0 e1 e2 (gtr Z0 (Z0.1 + 1))) H := hP
  have hD : va_D A (gcW E G pl dr e0 e1 e2 (gtr Z0 (Z0.1 + 1))) := hD
  obtain ⟨Z_1, eZ_1⟩ : ∃ z : GC, z = (gtr Z0 (Z0.1 + 1)) := ⟨_, rfl⟩
  have h := h Z_1 eZ_1
  have hP : gP E (gcW E G pl dr e0 e1 e2 Z_1) H := by rw [eZ_1]; exact hP
  have hD : va_D A (gcW E G pl dr e0 e1 e2 Z_1) := by rw [eZ_1]; exact hD
  refine lv_aload_n hx hb dX5_markOfLock_10 rfl (lv_at hl 0 rfl) ?_
  refine va_get (D := (E.1, E.2.1)) (ci := 5) (v := .ref (G 2 99)) (C := RX5) (T := TX5) (N := 8) hx hb ht wu_X5 hown hK hP 0 rfl rfl 1 (by decide) (ht _ wk_X5_19) (fun _ h9 => h9) rfl dX5_markOfLock_11 ?_
  refine va_get (D := (E.1, E.2.1)) (ci := 0) (v := .ref ((G 3) 99)) (C := RX0) (T := TX0) (N := 3) hx hb ht wu_X0 hown hK hP 3 rfl rfl 0 (by decide) (ht _ wk_X5_75) (fun _ h9 => h9) rfl dX5_markOfLock_14 ?_
  refine lv_iload_n hx hb dX5_markOfLock_17 rfl (lv_at hl 1 rfl) ?_
  have p1 := gB (n := 15) (bs := [bGC G (pl 99) (dr 99) Z_1.1, bText E (G 1) (Z_1.2.1 1), bNow E (G 2) (G 3) e0 (Z_1.2.1 2), bScene E (G 3) (Z_1.2.1 3), bPlan E pl (Z_1.2.1 4), bPlan E dr (Z_1.2.1 5), bRumour E (G 6) (Z_1.2.1 6), bIm E G (Z_1.2.1 7), bNow E (G 8) (G 10) e1 (Z_1.2.1 8), bNow E (G 9) (G 11) e2 (Z_1.2.1 9), bScene E (G 10) (Z_1.2.1 10), bScene E (G 11) (Z_1.2.1 11), bPool E e0 (Z_1.2.2 0), bPool E e1 (Z_1.2.2 1), bPool E e2 (Z_1.2.2 2)]) (bc := [bScene E (G 3) (Z_1.2.1 3)]) (br := [bGC G (pl 99) (dr 99) Z_1.1, bText E (G 1) (Z_1.2.1 1), bNow E (G 2) (G 3) e0 (Z_1.2.1 2), bPlan E pl (Z_1.2.1 4), bPlan E dr (Z_1.2.1 5), bRumour E (G 6) (Z_1.2.1 6), bIm E G (Z_1.2.1 7), bNow E (G 8) (G 10) e1 (Z_1.2.1 8), bNow E (G 9) (G 11) e2 (Z_1.2.1 9), bScene E (G 10) (Z_1.2.1 10), bScene E (G 11) (Z_1.2.1 11), bPool E e0 (Z_1.2.2 0), bPool E e1 (Z_1.2.2 1), bPool E e2 (Z_1.2.2 2)]) [3, 0, 1, 2, 4, 5, 6, 7, 8, 9, 10, 11, 12, 13, 14] rfl rfl (by decide)
  refine g_i (g_runV (As := [.int x1]) (rest := []) ⟨hx, hb, hml, hown, ht⟩ hE (c_X3_knowerCount E l (G 3) (Z_1.2.1 3) x1 _ h) ⟨rfl, rfl⟩ wk_X5_150 wi_X3_knowerCount ws_X3_knowerCount wn_X3 wc_X3_knowerCount yd_X3_knowerCount ⟨Nat.le_of_ble_eq_true rfl, Nat.le_of_ble_eq_true rfl⟩ hP hD p1 (ci := 3) rfl rfl rfl rfl rfl hl.1 rfl (lv_room (Nat.le_of_ble_eq_true rfl)) dX5_markOfLock_18 ⟨Nat.zero_le _, Nat.zero_le _⟩) hP hD hS p1 (fun r_2 _ w H locs h hw hP hD hS => ?_)
  subst hw
  clear p1
  have p2 := gB (n := 15) (bs := [bGC G (pl 99) (dr 99) Z_1.1, bText E (G 1) (Z_1.2.1 1), bNow E (G 2) (G 3) e0 (Z_1.2.1 2), bScene E (G 3) (Z_1.2.1 3), bPlan E pl (Z_1.2.1 4), bPlan E dr (Z_1.2.1 5), bRumour E (G 6) (Z_1.2.1 6), bIm E G (Z_1.2.1 7), bNow E (G 8) (G 10) e1 (Z_1.2.1 8), bNow E (G 9) (G 11) e2 (Z_1.2.1 9), bScene E (G 10) (Z_1.2.1 10), bScene E (G 11) (Z_1.2.1 11), bPool E e0 (Z_1.2.2 0), bPool E e1 (Z_1.2.2 1), bPool E e2 (Z_1.2.2 2)]) (bc := [bScene E (G 3) (Z_1.2.1 3)]) (br := [bGC G (pl 99) (dr 99) Z_1.1, bText E (G 1) (Z_1.2.1 1), bNow E (G 2) (G 3) e0 (Z_1.2.1 2), bPlan E pl (Z_1.2.1 4), bPlan E dr (Z_1.2.1 5), bRumour E (G 6) (Z_1.2.1 6), bIm E G (Z_1.2.1 7), bNow E (G 8) (G 10) e1 (Z_1.2.1 8), bNow E (G 9) (G 11) e2 (Z_1.2.1 9), bScene E (G 10) (Z_1.2.1 10), bScene E (G 11) (Z_1.2.1 11), bPool E e0 (Z_1.2.2 0), bPool E e1 (Z_1.2.2 1), bPool E e2 (Z_1.2.2 2)]) [3, 0, 1, 2, 4, 5, 6, 7, 8, 9, 10, 11, 12, 13, 14] rfl rfl (by decide)
  have hP := gP_perm p2.symm hP
  have hD := gD_perm p2.symm hD
  clear p2
  have hP : gP E (gcW E G pl dr e0 e1 e2 Z_1) H := hP
  have hD : va_D A (gcW E G pl dr e0 e1 e2 Z_1) := hD
  exact hret r_2 Z_1 _ _ _ _ _ h rfl hP hD hS dX5_markOfLock_21
theorem dX5_markOfBrass_0 : decode cX5_markOfBrass 0 = .ok (.aload_n 0, 1) := by decide +kernel
theorem dX5_markOfBrass_1 : decode cX5_markOfBrass 1 = .ok (.dup, 1) := by decide +kernel
theorem dX5_markOfBrass_2 : decode cX5_markOfBrass 2 = .ok (.getfield 48, 3) := by decide +kernel
theorem dX5_markOfBrass_5 : decode cX5_markOfBrass 5 = .ok (.ldc2_w 262, 3) := by decide +kernel
theorem dX5_markOfBrass_8 : decode cX5_markOfBrass 8 = .ok (.ladd, 1) := by decide +kernel
theorem dX5_markOfBrass_9 : decode cX5_markOfBrass 9 = .ok (.putfield 48, 3) := by decide +kernel
theorem dX5_markOfBrass_12 : decode cX5_markOfBrass 12 = .ok (.aload_n 0, 1) := by decide +kernel
theorem dX5_markOfBrass_13 : decode cX5_markOfBrass 13 = .ok (.iload_n 1, 1) := by decide +kernel
theorem dX5_markOfBrass_14 : decode cX5_markOfBrass 14 = .ok (.invokevirtual 208, 3) := by decide +kernel
theorem dX5_markOfBrass_17 : decode cX5_markOfBrass 17 = .ok (.aload_n 0, 1) := by decide +kernel
theorem dX5_markOfBrass_18 : decode cX5_markOfBrass 18 = .ok (.getfield 19, 3) := by decide +kernel
theorem dX5_markOfBrass_21 : decode cX5_markOfBrass 21 = .ok (.getfield 75, 3) := by decide +kernel
theorem dX5_markOfBrass_24 : decode cX5_markOfBrass 24 = .ok (.iload_n 1, 1) := by decide +kernel
theorem dX5_markOfBrass_25 : decode cX5_markOfBrass 25 = .ok (.invokevirtual 97, 3) := by decide +kernel
theorem dX5_markOfBrass_28 : decode cX5_markOfBrass 28 = .ok (.iadd, 1) := by decide +kernel
theorem dX5_markOfBrass_29 : decode cX5_markOfBrass 29 = .ok (.ireturn, 1) := by decide +kernel
set_option maxHeartbeats 4000000 in
set_option maxRecDepth 100000 in
theorem c_X5_markOfBrass (E : GE) (l : Launch) (G : Nat → Nat → Nat) (pl dr : Nat → Nat) (e0 e1 e2 : Nat → Nat → Nat) (Z0 : GC) (x1 : Int32) (post : Int32 → GC → Prop) (h : wp_X5_markOfBrass Z0 x1 post) : Met l yX5_markOfBrass (wz yX5_markOfBrass cX5_markOfBrass 2 (some .int)) { frames := 4, cells := 0, slots := 0, locals := 85 } (gPc E [.ref (G 0 99), .int x1] (gcW E G pl dr e0 e1 e2 Z0)) (gQi E (gcW E G pl dr e0 e1 e2 Z0) (fun r (u : GC) => post r u) (fun (u : GC) w => w = gcW E G pl dr e0 e1 e2 u)) 0 0 (gIn (gcW E G pl dr e0 e1 e2 Z0)) := by
  unfold wp_X5_markOfBrass at h
  refine g_of_i (by decide) (Nat.le_of_ble_eq_true rfl) ?_
  intro p e s m below meth c A Q hx hb hml hown ht hE hP hD hret ls hl
  have hK := hE.1
  have hS : va_S A s.heap s.heap [] := va_S.rf
  have hl : lv_has ls 2 [(0, .ref (G 0 99)), (1, .int x1)] := hl
  refine lv_aload_n hx hb dX5_markOfBrass_0 rfl (lv_at hl 0 rfl) ?_
  refine lv_dup hx hb dX5_markOfBrass_1 rfl ?_
  refine va_get (D := (E.1, E.2.1)) (ci := 5) (v := .long (Z0.1)) (C := RX5) (T := TX5) (N := 8) hx hb ht wu_X5 hown hK hP 0 rfl rfl 7 (by decide) (ht _ wk_X5_48) (fun _ h9 => h9) rfl dX5_markOfBrass_2 ?_
  refine lv_ldc2 hx hb hown (ht _ wk_X5_262) dX5_markOfBrass_5 ?_
  refine lv_ladd hx hb dX5_markOfBrass_8 ?_
  refine va_put (D := (E.1, E.2.1)) (ci := 5) (v := .long (Z0.1 + 10)) (ty := .long) (C := RX5) (T := TX5) (N := 8) hx hb ht wu_X5 tyX5 tyX5_ok nmX5 hown hK hP hD hS 0 rfl rfl 7 (by decide) (ht _ wk_X5_48) (fun _ h9 => h9) rfl (by decide +kernel) rfl rfl (Nat.le_of_ble_eq_true rfl) dX5_markOfBrass_9 (fun H locs hP hD hS => ?_)
  have hP : gP E (gcW E G pl dr e0 e1 e2 (gtr Z0 (Z0.1 + 10))) H := hP
  have hD : va_D A (gcW E G pl dr e0 e1 e2 (gtr Z0 (Z0.1 + 10))) := hD
  obtain ⟨Z_1, eZ_1⟩ : ∃ z : GC, z = (gtr Z0 (Z0.1 + 10)) := ⟨_, rfl⟩
  have h := h Z_1 eZ_1
  have hP : gP E (gcW E G pl dr e0 e1 e2 Z_1) H := by rw [eZ_1]; exact hP
  have hD : va_D A (gcW E G pl dr e0 e1 e2 Z_1) := by rw [eZ_1]; exact hD
  refine lv_aload_n hx hb dX5_markOfBrass_12 rfl (lv_at hl 0 rfl) ?_
  refine lv_iload_n hx hb dX5_markOfBrass_13 rfl (lv_at hl 1 rfl) ?_
  have p1 := gB (n := 15) (bs := [bGC G (pl 99) (dr 99) Z_1.1, bText E (G 1) (Z_1.2.1 1), bNow E (G 2) (G 3) e0 (Z_1.2.1 2), bScene E (G 3) (Z_1.2.1 3), bPlan E pl (Z_1.2.1 4), bPlan E dr (Z_1.2.1 5), bRumour E (G 6) (Z_1.2.1 6), bIm E G (Z_1.2.1 7), bNow E (G 8) (G 10) e1 (Z_1.2.1 8), bNow E (G 9) (G 11) e2 (Z_1.2.1 9), bScene E (G 10) (Z_1.2.1 10), bScene E (G 11) (Z_1.2.1 11), bPool E e0 (Z_1.2.2 0), bPool E e1 (Z_1.2.2 1), bPool E e2 (Z_1.2.2 2)]) (bc := [bGC G (pl 99) (dr 99) Z_1.1, bText E (G 1) (Z_1.2.1 1), bNow E (G 2) (G 3) e0 (Z_1.2.1 2), bScene E (G 3) (Z_1.2.1 3), bPlan E pl (Z_1.2.1 4), bPlan E dr (Z_1.2.1 5), bRumour E (G 6) (Z_1.2.1 6), bIm E G (Z_1.2.1 7), bNow E (G 8) (G 10) e1 (Z_1.2.1 8), bNow E (G 9) (G 11) e2 (Z_1.2.1 9), bScene E (G 10) (Z_1.2.1 10), bScene E (G 11) (Z_1.2.1 11), bPool E e0 (Z_1.2.2 0), bPool E e1 (Z_1.2.2 1), bPool E e2 (Z_1.2.2 2)]) (br := []) [0, 1, 2, 3, 4, 5, 6, 7, 8, 9, 10, 11, 12, 13, 14] rfl rfl (by decide)
  refine g_i (g_runV (As := [.int x1]) (rest := []) ⟨hx, hb, hml, hown, ht⟩ hE (c_X5_markOfLock E l G pl dr e0 e1 e2 Z_1 x1 _ h) ⟨rfl, rfl⟩ wk_X5_208 wi_X5_markOfLock ws_X5_markOfLock wn_X5 wc_X5_markOfLock yd_X5_markOfLock ⟨Nat.le_of_ble_eq_true rfl, Nat.le_of_ble_eq_true rfl⟩ hP hD p1 (ci := 5) rfl rfl rfl rfl rfl hl.1 rfl (lv_room (Nat.le_of_ble_eq_true rfl)) dX5_markOfBrass_14 ⟨Nat.zero_le _, Nat.zero_le _⟩) hP hD hS p1 (fun r_2 Z_3 w H locs h hw hP hD hS => ?_)
  subst hw
  clear p1
  have p2 := gB (n := 15) (bs := [bGC G (pl 99) (dr 99) Z_3.1, bText E (G 1) (Z_3.2.1 1), bNow E (G 2) (G 3) e0 (Z_3.2.1 2), bScene E (G 3) (Z_3.2.1 3), bPlan E pl (Z_3.2.1 4), bPlan E dr (Z_3.2.1 5), bRumour E (G 6) (Z_3.2.1 6), bIm E G (Z_3.2.1 7), bNow E (G 8) (G 10) e1 (Z_3.2.1 8), bNow E (G 9) (G 11) e2 (Z_3.2.1 9), bScene E (G 10) (Z_3.2.1 10), bScene E (G 11) (Z_3.2.1 11), bPool E e0 (Z_3.2.2 0), bPool E e1 (Z_3.2.2 1), bPool E e2 (Z_3.2.2 2)]) (bc := [bGC G (pl 99) (dr 99) Z_3.1, bText E (G 1) (Z_3.2.1 1), bNow E (G 2) (G 3) e0 (Z_3.2.1 2), bScene E (G 3) (Z_3.2.1 3), bPlan E pl (Z_3.2.1 4), bPlan E dr (Z_3.2.1 5), bRumour E (G 6) (Z_3.2.1 6), bIm E G (Z_3.2.1 7), bNow E (G 8) (G 10) e1 (Z_3.2.1 8), bNow E (G 9) (G 11) e2 (Z_3.2.1 9), bScene E (G 10) (Z_3.2.1 10), bScene E (G 11) (Z_3.2.1 11), bPool E e0 (Z_3.2.2 0), bPool E e1 (Z_3.2.2 1), bPool E e2 (Z_3.2.2 2)]) (br := []) [0, 1, 2, 3, 4, 5, 6, 7, 8, 9, 10, 11, 12, 13, 14] rfl rfl (by decide)
  have hP := gP_perm p2.symm hP
  have hD := gD_perm p2.symm hD
  clear p2
  have hP : gP E (gcW E G pl dr e0 e1 e2 Z_3) H := hP
  have hD : va_D A (gcW E G pl dr e0 e1 e2 Z_3) := hD
  refine lv_aload_n hx hb dX5_markOfBrass_17 rfl (lv_at hl 0 rfl) ?_
  refine va_get (D := (E.1, E.2.1)) (ci := 5) (v := .ref (G 2 99)) (C := RX5) (T := TX5) (N := 8) hx hb ht wu_X5 hown hK hP 0 rfl rfl 1 (by decide) (ht _ wk_X5_19) (fun _ h9 => h9) rfl dX5_markOfBrass_18 ?_
  refine va_get (D := (E.1, E.2.1)) (ci := 0) (v := .ref ((G 3) 99)) (C := RX0) (T := TX0) (N := 3) hx hb ht wu_X0 hown hK hP 3 rfl rfl 0 (by decide) (ht _ wk_X5_75) (fun _ h9 => h9) rfl dX5_markOfBrass_21 ?_
  refine lv_iload_n hx hb dX5_markOfBrass_24 rfl (lv_at hl 1 rfl) ?_
  have p1 := gB (n := 15) (bs := [bGC G (pl 99) (dr 99) Z_3.1, bText E (G 1) (Z_3.2.1 1), bNow E (G 2) (G 3) e0 (Z_3.2.1 2), bScene E (G 3) (Z_3.2.1 3), bPlan E pl (Z_3.2.1 4), bPlan E dr (Z_3.2.1 5), bRumour E (G 6) (Z_3.2.1 6), bIm E G (Z_3.2.1 7), bNow E (G 8) (G 10) e1 (Z_3.2.1 8), bNow E (G 9) (G 11) e2 (Z_3.2.1 9), bScene E (G 10) (Z_3.2.1 10), bScene E (G 11) (Z_3.2.1 11), bPool E e0 (Z_3.2.2 0), bPool E e1 (Z_3.2.2 1), bPool E e2 (Z_3.2.2 2)]) (bc := [bScene E (G 3) (Z_3.2.1 3)]) (br := [bGC G (pl 99) (dr 99) Z_3.1, bText E (G 1) (Z_3.2.1 1), bNow E (G 2) (G 3) e0 (Z_3.2.1 2), bPlan E pl (Z_3.2.1 4), bPlan E dr (Z_3.2.1 5), bRumour E (G 6) (Z_3.2.1 6), bIm E G (Z_3.2.1 7), bNow E (G 8) (G 10) e1 (Z_3.2.1 8), bNow E (G 9) (G 11) e2 (Z_3.2.1 9), bScene E (G 10) (Z_3.2.1 10), bScene E (G 11) (Z_3.2.1 11), bPool E e0 (Z_3.2.2 0), bPool E e1 (Z_3.2.2 1), bPool E e2 (Z_3.2.2 2)]) [3, 0, 1, 2, 4, 5, 6, 7, 8, 9, 10, 11, 12, 13, 14] rfl rfl (by decide)
  refine g_i (g_runV (As := [.int x1]) (rest := [.int r_2]) ⟨hx, hb, hml, hown, ht⟩ hE (c_X3_stepsOf E l (G 3) (Z_3.2.1 3) x1 _ h) ⟨rfl, rfl⟩ wk_X5_97 wi_X3_stepsOf ws_X3_stepsOf wn_X3 wc_X3_stepsOf yd_X3_stepsOf ⟨Nat.le_of_ble_eq_true rfl, Nat.le_of_ble_eq_true rfl⟩ hP hD p1 (ci := 3) rfl rfl rfl rfl rfl hl.1 rfl (lv_room (Nat.le_of_ble_eq_true rfl)) dX5_markOfBrass_25 ⟨Nat.zero_le _, Nat.zero_le _⟩) hP hD hS p1 (fun r_4 _ w H locs h hw hP hD hS => ?_)
  subst hw
  clear p1
  have p2 := gB (n := 15) (bs := [bGC G (pl 99) (dr 99) Z_3.1, bText E (G 1) (Z_3.2.1 1), bNow E (G 2) (G 3) e0 (Z_3.2.1 2), bScene E (G 3) (Z_3.2.1 3), bPlan E pl (Z_3.2.1 4), bPlan E dr (Z_3.2.1 5), bRumour E (G 6) (Z_3.2.1 6), bIm E G (Z_3.2.1 7), bNow E (G 8) (G 10) e1 (Z_3.2.1 8), bNow E (G 9) (G 11) e2 (Z_3.2.1 9), bScene E (G 10) (Z_3.2.1 10), bScene E (G 11) (Z_3.2.1 11), bPool E e0 (Z_3.2.2 0), bPool E e1 (Z_3.2.2 1), bPool E e2 (Z_3.2.2 2)]) (bc := [bScene E (G 3) (Z_3.2.1 3)]) (br := [bGC G (pl 99) (dr 99) Z_3.1, bText E (G 1) (Z_3.2.1 1), bNow E (G 2) (G 3) e0 (Z_3.2.1 2), bPlan E pl (Z_3.2.1 4), bPlan E dr (Z_3.2.1 5), bRumour E (G 6) (Z_3.2.1 6), bIm E G (Z_3.2.1 7), bNow E (G 8) (G 10) e1 (Z_3.2.1 8), bNow E (G 9) (G 11) e2 (Z_3.2.1 9), bScene E (G 10) (Z_3.2.1 10), bScene E (G 11) (Z_3.2.1 11), bPool E e0 (Z_3.2.2 0), bPool E e1 (Z_3.2.2 1), bPool E e2 (Z_3.2.2 2)]) [3, 0, 1, 2, 4, 5, 6, 7, 8, 9, 10, 11, 12, 13, 14] rfl rfl (by decide)
  have hP := gP_perm p2.symm hP
  have hD := gD_perm p2.symm hD
  clear p2
  have hP : gP E (gcW E G pl dr e0 e1 e2 Z_3) H := hP
  have hD : va_D A (gcW E G pl dr e0 e1 e2 Z_3) := hD
  refine lv_iadd hx hb dX5_markOfBrass_28 ?_
  exact hret (r_2 + r_4) Z_3 _ _ _ _ _ h rfl hP hD hS dX5_markOfBrass_29
theorem dX5_markOfRusty_0 : decode cX5_markOfRusty 0 = .ok (.aload_n 0, 1) := by decide +kernel
theorem dX5_markOfRusty_1 : decode cX5_markOfRusty 1 = .ok (.dup, 1) := by decide +kernel
theorem dX5_markOfRusty_2 : decode cX5_markOfRusty 2 = .ok (.getfield 48, 3) := by decide +kernel
theorem dX5_markOfRusty_5 : decode cX5_markOfRusty 5 = .ok (.ldc2_w 264, 3) := by decide +kernel
theorem dX5_markOfRusty_8 : decode cX5_markOfRusty 8 = .ok (.ladd, 1) := by decide +kernel
theorem dX5_markOfRusty_9 : decode cX5_markOfRusty 9 = .ok (.putfield 48, 3) := by decide +kernel
theorem dX5_markOfRusty_12 : decode cX5_markOfRusty 12 = .ok (.aload_n 0, 1) := by decide +kernel
theorem dX5_markOfRusty_13 : decode cX5_markOfRusty 13 = .ok (.iload_n 1, 1) := by decide +kernel
theorem dX5_markOfRusty_14 : decode cX5_markOfRusty 14 = .ok (.invokevirtual 208, 3) := by decide +kernel
theorem dX5_markOfRusty_17 : decode cX5_markOfRusty 17 = .ok (.aload_n 0, 1) := by decide +kernel
theorem dX5_markOfRusty_18 : decode cX5_markOfRusty 18 = .ok (.getfield 19, 3) := by decide +kernel
theorem dX5_markOfRusty_21 : decode cX5_markOfRusty 21 = .ok (.getfield 75, 3) := by decide +kernel
theorem dX5_markOfRusty_24 : decode cX5_markOfRusty 24 = .ok (.invokevirtual 133, 3) := by decide +kernel
theorem dX5_markOfRusty_27 : decode cX5_markOfRusty 27 = .ok (.isub, 1) := by decide +kernel
theorem dX5_markOfRusty_28 : decode cX5_markOfRusty 28 = .ok (.ireturn, 1) := by decide +kernel
set_option maxHeartbeats 4000000 in
set_option maxRecDepth 100000 in
theorem c_X5_markOfRusty (E : GE) (l : Launch) (G : Nat → Nat → Nat) (pl dr : Nat → Nat) (e0 e1 e2 : Nat → Nat → Nat) (Z0 : GC) (x1 : Int32) (post : Int32 → GC → Prop) (h : wp_X5_markOfRusty Z0 x1 post) : Met l yX5_markOfRusty (wz yX5_markOfRusty cX5_markOfRusty 2 (some .int)) { frames := 4, cells := 0, slots := 0, locals := 84 } (gPc E [.ref (G 0 99), .int x1] (gcW E G pl dr e0 e1 e2 Z0)) (gQi E (gcW E G pl dr e0 e1 e2 Z0) (fun r (u : GC) => post r u) (fun (u : GC) w => w = gcW E G pl dr e0 e1 e2 u)) 0 0 (gIn (gcW E G pl dr e0 e1 e2 Z0)) := by
  unfold wp_X5_markOfRusty at h
  refine g_of_i (by decide) (Nat.le_of_ble_eq_true rfl) ?_
  intro p e s m below meth c A Q hx hb hml hown ht hE hP hD hret ls hl
  have hK := hE.1
  have hS : va_S A s.heap s.heap [] := va_S.rf
  have hl : lv_has ls 2 [(0, .ref (G 0 99)), (1, .int x1)] := hl
  refine lv_aload_n hx hb dX5_markOfRusty_0 rfl (lv_at hl 0 rfl) ?_
  refine lv_dup hx hb dX5_markOfRusty_1 rfl ?_
  refine va_get (D := (E.1, E.2.1)) (ci := 5) (v := .long (Z0.1)) (C := RX5) (T := TX5) (N := 8) hx hb ht wu_X5 hown hK hP 0 rfl rfl 7 (by decide) (ht _ wk_X5_48) (fun _ h9 => h9) rfl dX5_markOfRusty_2 ?_
  refine lv_ldc2 hx hb hown (ht _ wk_X5_264) dX5_markOfRusty_5 ?_
  refine lv_ladd hx hb dX5_markOfRusty_8 ?_
  refine va_put (D := (E.1, E.2.1)) (ci := 5) (v := .long (Z0.1 + 100)) (ty := .long) (C := RX5) (T := TX5) (N := 8) hx hb ht wu_X5 tyX5 tyX5_ok nmX5 hown hK hP hD hS 0 rfl rfl 7 (by decide) (ht _ wk_X5_48) (fun _ h9 => h9) rfl (by decide +kernel) rfl rfl (Nat.le_of_ble_eq_true rfl) dX5_markOfRusty_9 (fun H locs hP hD hS => ?_)
  have hP : gP E (gcW E G pl dr e0 e1 e2 (gtr Z0 (Z0.1 + 100))) H := hP
  have hD : va_D A (gcW E G pl dr e0 e1 e2 (gtr Z0 (Z0.1 + 100))) := hD
  obtain ⟨Z_1, eZ_1⟩ : ∃ z : GC, z = (gtr Z0 (Z0.1 + 100)) := ⟨_, rfl⟩
  have h := h Z_1 eZ_1
  have hP : gP E (gcW E G pl dr e0 e1 e2 Z_1) H := by rw [eZ_1]; exact hP
  have hD : va_D A (gcW E G pl dr e0 e1 e2 Z_1) := by rw [eZ_1]; exact hD
  refine lv_aload_n hx hb dX5_markOfRusty_12 rfl (lv_at hl 0 rfl) ?_
  refine lv_iload_n hx hb dX5_markOfRusty_13 rfl (lv_at hl 1 rfl) ?_
  have p1 := gB (n := 15) (bs := [bGC G (pl 99) (dr 99) Z_1.1, bText E (G 1) (Z_1.2.1 1), bNow E (G 2) (G 3) e0 (Z_1.2.1 2), bScene E (G 3) (Z_1.2.1 3), bPlan E pl (Z_1.2.1 4), bPlan E dr (Z_1.2.1 5), bRumour E (G 6) (Z_1.2.1 6), bIm E G (Z_1.2.1 7), bNow E (G 8) (G 10) e1 (Z_1.2.1 8), bNow E (G 9) (G 11) e2 (Z_1.2.1 9), bScene E (G 10) (Z_1.2.1 10), bScene E (G 11) (Z_1.2.1 11), bPool E e0 (Z_1.2.2 0), bPool E e1 (Z_1.2.2 1), bPool E e2 (Z_1.2.2 2)]) (bc := [bGC G (pl 99) (dr 99) Z_1.1, bText E (G 1) (Z_1.2.1 1), bNow E (G 2) (G 3) e0 (Z_1.2.1 2), bScene E (G 3) (Z_1.2.1 3), bPlan E pl (Z_1.2.1 4), bPlan E dr (Z_1.2.1 5), bRumour E (G 6) (Z_1.2.1 6), bIm E G (Z_1.2.1 7), bNow E (G 8) (G 10) e1 (Z_1.2.1 8), bNow E (G 9) (G 11) e2 (Z_1.2.1 9), bScene E (G 10) (Z_1.2.1 10), bScene E (G 11) (Z_1.2.1 11), bPool E e0 (Z_1.2.2 0), bPool E e1 (Z_1.2.2 1), bPool E e2 (Z_1.2.2 2)]) (br := []) [0, 1, 2, 3, 4, 5, 6, 7, 8, 9, 10, 11, 12, 13, 14] rfl rfl (by decide)
  refine g_i (g_runV (As := [.int x1]) (rest := []) ⟨hx, hb, hml, hown, ht⟩ hE (c_X5_markOfLock E l G pl dr e0 e1 e2 Z_1 x1 _ h) ⟨rfl, rfl⟩ wk_X5_208 wi_X5_markOfLock ws_X5_markOfLock wn_X5 wc_X5_markOfLock yd_X5_markOfLock ⟨Nat.le_of_ble_eq_true rfl, Nat.le_of_ble_eq_true rfl⟩ hP hD p1 (ci := 5) rfl rfl rfl rfl rfl hl.1 rfl (lv_room (Nat.le_of_ble_eq_true rfl)) dX5_markOfRusty_14 ⟨Nat.zero_le _, Nat.zero_le _⟩) hP hD hS p1 (fun r_2 Z_3 w H locs h hw hP hD hS => ?_)
  subst hw
  clear p1
  have p2 := gB (n := 15) (bs := [bGC G (pl 99) (dr 99) Z_3.1, bText E (G 1) (Z_3.2.1 1), bNow E (G 2) (G 3) e0 (Z_3.2.1 2), bScene E (G 3) (Z_3.2.1 3), bPlan E pl (Z_3.2.1 4), bPlan E dr (Z_3.2.1 5), bRumour E (G 6) (Z_3.2.1 6), bIm E G (Z_3.2.1 7), bNow E (G 8) (G 10) e1 (Z_3.2.1 8), bNow E (G 9) (G 11) e2 (Z_3.2.1 9), bScene E (G 10) (Z_3.2.1 10), bScene E (G 11) (Z_3.2.1 11), bPool E e0 (Z_3.2.2 0), bPool E e1 (Z_3.2.2 1), bPool E e2 (Z_3.2.2 2)]) (bc := [bGC G (pl 99) (dr 99) Z_3.1, bText E (G 1) (Z_3.2.1 1), bNow E (G 2) (G 3) e0 (Z_3.2.1 2), bScene E (G 3) (Z_3.2.1 3), bPlan E pl (Z_3.2.1 4), bPlan E dr (Z_3.2.1 5), bRumour E (G 6) (Z_3.2.1 6), bIm E G (Z_3.2.1 7), bNow E (G 8) (G 10) e1 (Z_3.2.1 8), bNow E (G 9) (G 11) e2 (Z_3.2.1 9), bScene E (G 10) (Z_3.2.1 10), bScene E (G 11) (Z_3.2.1 11), bPool E e0 (Z_3.2.2 0), bPool E e1 (Z_3.2.2 1), bPool E e2 (Z_3.2.2 2)]) (br := []) [0, 1, 2, 3, 4, 5, 6, 7, 8, 9, 10, 11, 12, 13, 14] rfl rfl (by decide)
  have hP := gP_perm p2.symm hP
  have hD := gD_perm p2.symm hD
  clear p2
  have hP : gP E (gcW E G pl dr e0 e1 e2 Z_3) H := hP
  have hD : va_D A (gcW E G pl dr e0 e1 e2 Z_3) := hD
  refine lv_aload_n hx hb dX5_markOfRusty_17 rfl (lv_at hl 0 rfl) ?_
  refine va_get (D := (E.1, E.2.1)) (ci := 5) (v := .ref (G 2 99)) (C := RX5) (T := TX5) (N := 8) hx hb ht wu_X5 hown hK hP 0 rfl rfl 1 (by decide) (ht _ wk_X5_19) (fun _ h9 => h9) rfl dX5_markOfRusty_18 ?_
  refine va_get (D := (E.1, E.2.1)) (ci := 0) (v := .ref ((G 3) 99)) (C := RX0) (T := TX0) (N := 3) hx hb ht wu_X0 hown hK hP 3 rfl rfl 0 (by decide) (ht _ wk_X5_75) (fun _ h9 => h9) rfl dX5_markOfRusty_21 ?_
  have p1 := gB (n := 15) (bs := [bGC G (pl 99) (dr 99) Z_3.1, bText E (G 1) (Z_3.2.1 1), bNow E (G 2) (G 3) e0 (Z_3.2.1 2), bScene E (G 3) (Z_3.2.1 3), bPlan E pl (Z_3.2.1 4), bPlan E dr (Z_3.2.1 5), bRumour E (G 6) (Z_3.2.1 6), bIm E G (Z_3.2.1 7), bNow E (G 8) (G 10) e1 (Z_3.2.1 8), bNow E (G 9) (G 11) e2 (Z_3.2.1 9), bScene E (G 10) (Z_3.2.1 10), bScene E (G 11) (Z_3.2.1 11), bPool E e0 (Z_3.2.2 0), bPool E e1 (Z_3.2.2 1), bPool E e2 (Z_3.2.2 2)]) (bc := [bScene E (G 3) (Z_3.2.1 3)]) (br := [bGC G (pl 99) (dr 99) Z_3.1, bText E (G 1) (Z_3.2.1 1), bNow E (G 2) (G 3) e0 (Z_3.2.1 2), bPlan E pl (Z_3.2.1 4), bPlan E dr (Z_3.2.1 5), bRumour E (G 6) (Z_3.2.1 6), bIm E G (Z_3.2.1 7), bNow E (G 8) (G 10) e1 (Z_3.2.1 8), bNow E (G 9) (G 11) e2 (Z_3.2.1 9), bScene E (G 10) (Z_3.2.1 10), bScene E (G 11) (Z_3.2.1 11), bPool E e0 (Z_3.2.2 0), bPool E e1 (Z_3.2.2 1), bPool E e2 (Z_3.2.2 2)]) [3, 0, 1, 2, 4, 5, 6, 7, 8, 9, 10, 11, 12, 13, 14] rfl rfl (by decide)
  refine g_i (g_runV (As := []) (rest := [.int r_2]) ⟨hx, hb, hml, hown, ht⟩ hE (c_X3_ringSize E l (G 3) (Z_3.2.1 3) _ h) ⟨rfl, rfl⟩ wk_X5_133 wi_X3_ringSize ws_X3_ringSize wn_X3 wc_X3_ringSize yd_X3_ringSize ⟨Nat.le_of_ble_eq_true rfl, Nat.le_of_ble_eq_true rfl⟩ hP hD p1 (ci := 3) rfl rfl rfl rfl rfl hl.1 rfl (lv_room (Nat.le_of_ble_eq_true rfl)) dX5_markOfRusty_24 ⟨Nat.zero_le _, Nat.zero_le _⟩) hP hD hS p1 (fun r_4 _ w H locs h hw hP hD hS => ?_)
  subst hw
  clear p1
  have p2 := gB (n := 15) (bs := [bGC G (pl 99) (dr 99) Z_3.1, bText E (G 1) (Z_3.2.1 1), bNow E (G 2) (G 3) e0 (Z_3.2.1 2), bScene E (G 3) (Z_3.2.1 3), bPlan E pl (Z_3.2.1 4), bPlan E dr (Z_3.2.1 5), bRumour E (G 6) (Z_3.2.1 6), bIm E G (Z_3.2.1 7), bNow E (G 8) (G 10) e1 (Z_3.2.1 8), bNow E (G 9) (G 11) e2 (Z_3.2.1 9), bScene E (G 10) (Z_3.2.1 10), bScene E (G 11) (Z_3.2.1 11), bPool E e0 (Z_3.2.2 0), bPool E e1 (Z_3.2.2 1), bPool E e2 (Z_3.2.2 2)]) (bc := [bScene E (G 3) (Z_3.2.1 3)]) (br := [bGC G (pl 99) (dr 99) Z_3.1, bText E (G 1) (Z_3.2.1 1), bNow E (G 2) (G 3) e0 (Z_3.2.1 2), bPlan E pl (Z_3.2.1 4), bPlan E dr (Z_3.2.1 5), bRumour E (G 6) (Z_3.2.1 6), bIm E G (Z_3.2.1 7), bNow E (G 8) (G 10) e1 (Z_3.2.1 8), bNow E (G 9) (G 11) e2 (Z_3.2.1 9), bScene E (G 10) (Z_3.2.1 10), bScene E (G 11) (Z_3.2.1 11), bPool E e0 (Z_3.2.2 0), bPool E e1 (Z_3.2.2 1), bPool E e2 (Z_3.2.2 2)]) [3, 0, 1, 2, 4, 5, 6, 7, 8, 9, 10, 11, 12, 13, 14] rfl rfl (by decide)
  have hP := gP_perm p2.symm hP
  have hD := gD_perm p2.symm hD
  clear p2
  have hP : gP E (gcW E G pl dr e0 e1 e2 Z_3) H := hP
  have hD : va_D A (gcW E G pl dr e0 e1 e2 Z_3) := hD
  refine lv_isub hx hb dX5_markOfRusty_27 ?_
  exact hret (r_2 - r_4) Z_3 _ _ _ _ _ h rfl hP hD hS dX5_markOfRusty_28
theorem dX5_markOfDouble_0 : decode cX5_markOfDouble 0 = .ok (.aload_n 0, 1) := by decide +kernel
theorem dX5_markOfDouble_1 : decode cX5_markOfDouble 1 = .ok (.dup, 1) := by decide +kernel
theorem dX5_markOfDouble_2 : decode cX5_markOfDouble 2 = .ok (.getfield 48, 3) := by decide +kernel
theorem dX5_markOfDouble_5 : decode cX5_markOfDouble 5 = .ok (.ldc2_w 266, 3) := by decide +kernel
theorem dX5_markOfDouble_8 : decode cX5_markOfDouble 8 = .ok (.ladd, 1) := by decide +kernel
theorem dX5_markOfDouble_9 : decode cX5_markOfDouble 9 = .ok (.putfield 48, 3) := by decide +kernel
theorem dX5_markOfDouble_12 : decode cX5_markOfDouble 12 = .ok (.aload_n 0, 1) := by decide +kernel
theorem dX5_markOfDouble_13 : decode cX5_markOfDouble 13 = .ok (.iload_n 1, 1) := by decide +kernel
theorem dX5_markOfDouble_14 : decode cX5_markOfDouble 14 = .ok (.invokevirtual 211, 3) := by decide +kernel
theorem dX5_markOfDouble_17 : decode cX5_markOfDouble 17 = .ok (.iconst 2, 1) := by decide +kernel
theorem dX5_markOfDouble_18 : decode cX5_markOfDouble 18 = .ok (.imul, 1) := by decide +kernel
theorem dX5_markOfDouble_19 : decode cX5_markOfDouble 19 = .ok (.ireturn, 1) := by decide +kernel
set_option maxHeartbeats 4000000 in
set_option maxRecDepth 100000 in
theorem c_X5_markOfDouble (E : GE) (l : Launch) (G : Nat → Nat → Nat) (pl dr : Nat → Nat) (e0 e1 e2 : Nat → Nat → Nat) (Z0 : GC) (x1 : Int32) (post : Int32 → GC → Prop) (h : wp_X5_markOfDouble Z0 x1 post) : Met l yX5_markOfDouble (wz yX5_markOfDouble cX5_markOfDouble 2 (some .int)) { frames := 5, cells := 0, slots := 0, locals := 106 } (gPc E [.ref (G 0 99), .int x1] (gcW E G pl dr e0 e1 e2 Z0)) (gQi E (gcW E G pl dr e0 e1 e2 Z0) (fun r (u : GC) => post r u) (fun (u : GC) w => w = gcW E G pl dr e0 e1 e2 u)) 0 0 (gIn (gcW E G pl dr e0 e1 e2 Z0)) := by
  unfold wp_X5_markOfDouble at h
  refine g_of_i (by decide) (Nat.le_of_ble_eq_true rfl) ?_
  intro p e s m below meth c A Q hx hb hml hown ht hE hP hD hret ls hl
  have hK := hE.1
  have hS : va_S A s.heap s.heap [] := va_S.rf
  have hl : lv_has ls 2 [(0, .ref (G 0 99)), (1, .int x1)] := hl
  refine lv_aload_n hx hb dX5_markOfDouble_0 rfl (lv_at hl 0 rfl) ?_
  refine lv_dup hx hb dX5_markOfDouble_1 rfl ?_
  refine va_get (D := (E.1, E.2.1)) (ci := 5) (v := .long (Z0.1)) (C := RX5) (T := TX5) (N := 8) hx hb ht wu_X5 hown hK hP 0 rfl rfl 7 (by decide) (ht _ wk_X5_48) (fun _ h9 => h9) rfl dX5_markOfDouble_2 ?_
  refine lv_ldc2 hx hb hown (ht _ wk_X5_266) dX5_markOfDouble_5 ?_
  refine lv_ladd hx hb dX5_markOfDouble_8 ?_
  refine va_put (D := (E.1, E.2.1)) (ci := 5) (v := .long (Z0.1 + 1000)) (ty := .long) (C := RX5) (T := TX5) (N := 8) hx hb ht wu_X5 tyX5 tyX5_ok nmX5 hown hK hP hD hS 0 rfl rfl 7 (by decide) (ht _ wk_X5_48) (fun _ h9 => h9) rfl (by decide +kernel) rfl rfl (Nat.le_of_ble_eq_true rfl) dX5_markOfDouble_9 (fun H locs hP hD hS => ?_)
  have hP : gP E (gcW E G pl dr e0 e1 e2 (gtr Z0 (Z0.1 + 1000))) H := hP
  have hD : va_D A (gcW E G pl dr e0 e1 e2 (gtr Z0 (Z0.1 + 1000))) := hD
  obtain ⟨Z_1, eZ_1⟩ : ∃ z : GC, z = (gtr Z0 (Z0.1 + 1000)) := ⟨_, rfl⟩
  have h := h Z_1 eZ_1
  have hP : gP E (gcW E G pl dr e0 e1 e2 Z_1) H := by rw [eZ_1]; exact hP
  have hD : va_D A (gcW E G pl dr e0 e1 e2 Z_1) := by rw [eZ_1]; exact hD
  refine lv_aload_n hx hb dX5_markOfDouble_12 rfl (lv_at hl 0 rfl) ?_
  refine lv_iload_n hx hb dX5_markOfDouble_13 rfl (lv_at hl 1 rfl) ?_
  have p1 := gB (n := 15) (bs := [bGC G (pl 99) (dr 99) Z_1.1, bText E (G 1) (Z_1.2.1 1), bNow E (G 2) (G 3) e0 (Z_1.2.1 2), bScene E (G 3) (Z_1.2.1 3), bPlan E pl (Z_1.2.1 4), bPlan E dr (Z_1.2.1 5), bRumour E (G 6) (Z_1.2.1 6), bIm E G (Z_1.2.1 7), bNow E (G 8) (G 10) e1 (Z_1.2.1 8), bNow E (G 9) (G 11) e2 (Z_1.2.1 9), bScene E (G 10) (Z_1.2.1 10), bScene E (G 11) (Z_1.2.1 11), bPool E e0 (Z_1.2.2 0), bPool E e1 (Z_1.2.2 1), bPool E e2 (Z_1.2.2 2)]) (bc := [bGC G (pl 99) (dr 99) Z_1.1, bText E (G 1) (Z_1.2.1 1), bNow E (G 2) (G 3) e0 (Z_1.2.1 2), bScene E (G 3) (Z_1.2.1 3), bPlan E pl (Z_1.2.1 4), bPlan E dr (Z_1.2.1 5), bRumour E (G 6) (Z_1.2.1 6), bIm E G (Z_1.2.1 7), bNow E (G 8) (G 10) e1 (Z_1.2.1 8), bNow E (G 9) (G 11) e2 (Z_1.2.1 9), bScene E (G 10) (Z_1.2.1 10), bScene E (G 11) (Z_1.2.1 11), bPool E e0 (Z_1.2.2 0), bPool E e1 (Z_1.2.2 1), bPool E e2 (Z_1.2.2 2)]) (br := []) [0, 1, 2, 3, 4, 5, 6, 7, 8, 9, 10, 11, 12, 13, 14] rfl rfl (by decide)
  refine g_i (g_runV (As := [.int x1]) (rest := []) ⟨hx, hb, hml, hown, ht⟩ hE (c_X5_markOfBrass E l G pl dr e0 e1 e2 Z_1 x1 _ h) ⟨rfl, rfl⟩ wk_X5_211 wi_X5_markOfBrass ws_X5_markOfBrass wn_X5 wc_X5_markOfBrass yd_X5_markOfBrass ⟨Nat.le_of_ble_eq_true rfl, Nat.le_of_ble_eq_true rfl⟩ hP hD p1 (ci := 5) rfl rfl rfl rfl rfl hl.1 rfl (lv_room (Nat.le_of_ble_eq_true rfl)) dX5_markOfDouble_14 ⟨Nat.zero_le _, Nat.zero_le _⟩) hP hD hS p1 (fun r_2 Z_3 w H locs h hw hP hD hS => ?_)
  subst hw
  clear p1
  have p2 := gB (n := 15) (bs := [bGC G (pl 99) (dr 99) Z_3.1, bText E (G 1) (Z_3.2.1 1), bNow E (G 2) (G 3) e0 (Z_3.2.1 2), bScene E (G 3) (Z_3.2.1 3), bPlan E pl (Z_3.2.1 4), bPlan E dr (Z_3.2.1 5), bRumour E (G 6) (Z_3.2.1 6), bIm E G (Z_3.2.1 7), bNow E (G 8) (G 10) e1 (Z_3.2.1 8), bNow E (G 9) (G 11) e2 (Z_3.2.1 9), bScene E (G 10) (Z_3.2.1 10), bScene E (G 11) (Z_3.2.1 11), bPool E e0 (Z_3.2.2 0), bPool E e1 (Z_3.2.2 1), bPool E e2 (Z_3.2.2 2)]) (bc := [bGC G (pl 99) (dr 99) Z_3.1, bText E (G 1) (Z_3.2.1 1), bNow E (G 2) (G 3) e0 (Z_3.2.1 2), bScene E (G 3) (Z_3.2.1 3), bPlan E pl (Z_3.2.1 4), bPlan E dr (Z_3.2.1 5), bRumour E (G 6) (Z_3.2.1 6), bIm E G (Z_3.2.1 7), bNow E (G 8) (G 10) e1 (Z_3.2.1 8), bNow E (G 9) (G 11) e2 (Z_3.2.1 9), bScene E (G 10) (Z_3.2.1 10), bScene E (G 11) (Z_3.2.1 11), bPool E e0 (Z_3.2.2 0), bPool E e1 (Z_3.2.2 1), bPool E e2 (Z_3.2.2 2)]) (br := []) [0, 1, 2, 3, 4, 5, 6, 7, 8, 9, 10, 11, 12, 13, 14] rfl rfl (by decide)
  have hP := gP_perm p2.symm hP
  have hD := gD_perm p2.symm hD
  clear p2
  have hP : gP E (gcW E G pl dr e0 e1 e2 Z_3) H := hP
  have hD : va_D A (gcW E G pl dr e0 e1 e2 Z_3) := hD
  refine lv_iconst (v := 2) hx hb dX5_markOfDouble_17 (by decide) ?_
  refine lv_imul hx hb dX5_markOfDouble_18 ?_
  exact hret (r_2 * 2) Z_3 _ _ _ _ _ h rfl hP hD hS dX5_markOfDouble_19
theorem dX5_markOfSeized_0 : decode cX5_markOfSeized 0 = .ok (.aload_n 0, 1) := by decide +kernel
theorem dX5_markOfSeized_1 : decode cX5_markOfSeized 1 = .ok (.dup, 1) := by decide +kernel
theorem dX5_markOfSeized_2 : decode cX5_markOfSeized 2 = .ok (.getfield 48, 3) := by decide +kernel
theorem dX5_markOfSeized_5 : decode cX5_markOfSeized 5 = .ok (.ldc2_w 268, 3) := by decide +kernel
theorem dX5_markOfSeized_8 : decode cX5_markOfSeized 8 = .ok (.ladd, 1) := by decide +kernel
theorem dX5_markOfSeized_9 : decode cX5_markOfSeized 9 = .ok (.putfield 48, 3) := by decide +kernel
theorem dX5_markOfSeized_12 : decode cX5_markOfSeized 12 = .ok (.aload_n 0, 1) := by decide +kernel
theorem dX5_markOfSeized_13 : decode cX5_markOfSeized 13 = .ok (.iload_n 1, 1) := by decide +kernel
theorem dX5_markOfSeized_14 : decode cX5_markOfSeized 14 = .ok (.invokevirtual 214, 3) := by decide +kernel
theorem dX5_markOfSeized_17 : decode cX5_markOfSeized 17 = .ok (.iload_n 1, 1) := by decide +kernel
theorem dX5_markOfSeized_18 : decode cX5_markOfSeized 18 = .ok (.iadd, 1) := by decide +kernel
theorem dX5_markOfSeized_19 : decode cX5_markOfSeized 19 = .ok (.ireturn, 1) := by decide +kernel
set_option maxHeartbeats 4000000 in
set_option maxRecDepth 100000 in
theorem c_X5_markOfSeized (E : GE) (l : Launch) (G : Nat → Nat → Nat) (pl dr : Nat → Nat) (e0 e1 e2 : Nat → Nat → Nat) (Z0 : GC) (x1 : Int32) (post : Int32 → GC → Prop) (h : wp_X5_markOfSeized Z0 x1 post) : Met l yX5_markOfSeized (wz yX5_markOfSeized cX5_markOfSeized 2 (some .int)) { frames := 5, cells := 0, slots := 0, locals := 105 } (gPc E [.ref (G 0 99), .int x1] (gcW E G pl dr e0 e1 e2 Z0)) (gQi E (gcW E G pl dr e0 e1 e2 Z0) (fun r (u : GC) => post r u) (fun (u : GC) w => w = gcW E G pl dr e0 e1 e2 u)) 0 0 (gIn (gcW E G pl dr e0 e1 e2 Z0)) := by
  unfold wp_X5_markOfSeized at h
  refine g_of_i (by decide) (Nat.le_of_ble_eq_true rfl) ?_
  intro p e s m below meth c A Q hx hb hml hown ht hE hP hD hret ls hl
  have hK := hE.1
  have hS : va_S A s.heap s.heap [] := va_S.rf
  have hl : lv_has ls 2 [(0, .ref (G 0 99)), (1, .int x1)] := hl
  refine lv_aload_n hx hb dX5_markOfSeized_0 rfl (lv_at hl 0 rfl) ?_
  refine lv_dup hx hb dX5_markOfSeized_1 rfl ?_
  refine va_get (D := (E.1, E.2.1)) (ci := 5) (v := .long (Z0.1)) (C := RX5) (T := TX5) (N := 8) hx hb ht wu_X5 hown hK hP 0 rfl rfl 7 (by decide) (ht _ wk_X5_48) (fun _ h9 => h9) rfl dX5_markOfSeized_2 ?_
  refine lv_ldc2 hx hb hown (ht _ wk_X5_268) dX5_markOfSeized_5 ?_
  refine lv_ladd hx hb dX5_markOfSeized_8 ?_
  refine va_put (D := (E.1, E.2.1)) (ci := 5) (v := .long (Z0.1 + 10000)) (ty := .long) (C := RX5) (T := TX5) (N := 8) hx hb ht wu_X5 tyX5 tyX5_ok nmX5 hown hK hP hD hS 0 rfl rfl 7 (by decide) (ht _ wk_X5_48) (fun _ h9 => h9) rfl (by decide +kernel) rfl rfl (Nat.le_of_ble_eq_true rfl) dX5_markOfSeized_9 (fun H locs hP hD hS => ?_)
  have hP : gP E (gcW E G pl dr e0 e1 e2 (gtr Z0 (Z0.1 + 10000))) H := hP
  have hD : va_D A (gcW E G pl dr e0 e1 e2 (gtr Z0 (Z0.1 + 10000))) := hD
  obtain ⟨Z_1, eZ_1⟩ : ∃ z : GC, z = (gtr Z0 (Z0.1 + 10000)) := ⟨_, rfl⟩
  have h := h Z_1 eZ_1
  have hP : gP E (gcW E G pl dr e0 e1 e2 Z_1) H := by rw [eZ_1]; exact hP
  have hD : va_D A (gcW E G pl dr e0 e1 e2 Z_1) := by rw [eZ_1]; exact hD
  refine lv_aload_n hx hb dX5_markOfSeized_12 rfl (lv_at hl 0 rfl) ?_
  refine lv_iload_n hx hb dX5_markOfSeized_13 rfl (lv_at hl 1 rfl) ?_
  have p1 := gB (n := 15) (bs := [bGC G (pl 99) (dr 99) Z_1.1, bText E (G 1) (Z_1.2.1 1), bNow E (G 2) (G 3) e0 (Z_1.2.1 2), bScene E (G 3) (Z_1.2.1 3), bPlan E pl (Z_1.2.1 4), bPlan E dr (Z_1.2.1 5), bRumour E (G 6) (Z_1.2.1 6), bIm E G (Z_1.2.1 7), bNow E (G 8) (G 10) e1 (Z_1.2.1 8), bNow E (G 9) (G 11) e2 (Z_1.2.1 9), bScene E (G 10) (Z_1.2.1 10), bScene E (G 11) (Z_1.2.1 11), bPool E e0 (Z_1.2.2 0), bPool E e1 (Z_1.2.2 1), bPool E e2 (Z_1.2.2 2)]) (bc := [bGC G (pl 99) (dr 99) Z_1.1, bText E (G 1) (Z_1.2.1 1), bNow E (G 2) (G 3) e0 (Z_1.2.1 2), bScene E (G 3) (Z_1.2.1 3), bPlan E pl (Z_1.2.1 4), bPlan E dr (Z_1.2.1 5), bRumour E (G 6) (Z_1.2.1 6), bIm E G (Z_1.2.1 7), bNow E (G 8) (G 10) e1 (Z_1.2.1 8), bNow E (G 9) (G 11) e2 (Z_1.2.1 9), bScene E (G 10) (Z_1.2.1 10), bScene E (G 11) (Z_1.2.1 11), bPool E e0 (Z_1.2.2 0), bPool E e1 (Z_1.2.2 1), bPool E e2 (Z_1.2.2 2)]) (br := []) [0, 1, 2, 3, 4, 5, 6, 7, 8, 9, 10, 11, 12, 13, 14] rfl rfl (by decide)
  refine g_i (g_runV (As := [.int x1]) (rest := []) ⟨hx, hb, hml, hown, ht⟩ hE (c_X5_markOfRusty E l G pl dr e0 e1 e2 Z_1 x1 _ h) ⟨rfl, rfl⟩ wk_X5_214 wi_X5_markOfRusty ws_X5_markOfRusty wn_X5 wc_X5_markOfRusty yd_X5_markOfRusty ⟨Nat.le_of_ble_eq_true rfl, Nat.le_of_ble_eq_true rfl⟩ hP hD p1 (ci := 5) rfl rfl rfl rfl rfl hl.1 rfl (lv_room (Nat.le_of_ble_eq_true rfl)) dX5_markOfSeized_14 ⟨Nat.zero_le _, Nat.zero_le _⟩) hP hD hS p1 (fun r_2 Z_3 w H locs h hw hP hD hS => ?_)
  subst hw
  clear p1
  have p2 := gB (n := 15) (bs := [bGC G (pl 99) (dr 99) Z_3.1, bText E (G 1) (Z_3.2.1 1), bNow E (G 2) (G 3) e0 (Z_3.2.1 2), bScene E (G 3) (Z_3.2.1 3), bPlan E pl (Z_3.2.1 4), bPlan E dr (Z_3.2.1 5), bRumour E (G 6) (Z_3.2.1 6), bIm E G (Z_3.2.1 7), bNow E (G 8) (G 10) e1 (Z_3.2.1 8), bNow E (G 9) (G 11) e2 (Z_3.2.1 9), bScene E (G 10) (Z_3.2.1 10), bScene E (G 11) (Z_3.2.1 11), bPool E e0 (Z_3.2.2 0), bPool E e1 (Z_3.2.2 1), bPool E e2 (Z_3.2.2 2)]) (bc := [bGC G (pl 99) (dr 99) Z_3.1, bText E (G 1) (Z_3.2.1 1), bNow E (G 2) (G 3) e0 (Z_3.2.1 2), bScene E (G 3) (Z_3.2.1 3), bPlan E pl (Z_3.2.1 4), bPlan E dr (Z_3.2.1 5), bRumour E (G 6) (Z_3.2.1 6), bIm E G (Z_3.2.1 7), bNow E (G 8) (G 10) e1 (Z_3.2.1 8), bNow E (G 9) (G 11) e2 (Z_3.2.1 9), bScene E (G 10) (Z_3.2.1 10), bScene E (G 11) (Z_3.2.1 11), bPool E e0 (Z_3.2.2 0), bPool E e1 (Z_3.2.2 1), bPool E e2 (Z_3.2.2 2)]) (br := []) [0, 1, 2, 3, 4, 5, 6, 7, 8, 9, 10, 11, 12, 13, 14] rfl rfl (by decide)
  have hP := gP_perm p2.symm hP
  have hD := gD_perm p2.symm hD
  clear p2
  have hP : gP E (gcW E G pl dr e0 e1 e2 Z_3) H := hP
  have hD : va_D A (gcW E G pl dr e0 e1 e2 Z_3) := hD
  refine lv_iload_n hx hb dX5_markOfSeized_17 rfl (lv_at hl 1 rfl) ?_
  refine lv_iadd hx hb dX5_markOfSeized_18 ?_
  exact hret (r_2 + x1) Z_3 _ _ _ _ _ h rfl hP hD hS dX5_markOfSeized_19
theorem dX5_markOfPainted_0 : decode cX5_markOfPainted 0 = .ok (.aload_n 0, 1) := by decide +kernel
theorem dX5_markOfPainted_1 : decode cX5_markOfPainted 1 = .ok (.dup, 1) := by decide +kernel
theorem dX5_markOfPainted_2 : decode cX5_markOfPainted 2 = .ok (.getfield 48, 3) := by decide +kernel
theorem dX5_markOfPainted_5 : decode cX5_markOfPainted 5 = .ok (.ldc2_w 270, 3) := by decide +kernel
theorem dX5_markOfPainted_8 : decode cX5_markOfPainted 8 = .ok (.ladd, 1) := by decide +kernel
theorem dX5_markOfPainted_9 : decode cX5_markOfPainted 9 = .ok (.putfield 48, 3) := by decide +kernel
theorem dX5_markOfPainted_12 : decode cX5_markOfPainted 12 = .ok (.aload_n 0, 1) := by decide +kernel
theorem dX5_markOfPainted_13 : decode cX5_markOfPainted 13 = .ok (.iload_n 1, 1) := by decide +kernel
theorem dX5_markOfPainted_14 : decode cX5_markOfPainted 14 = .ok (.invokevirtual 208, 3) := by decide +kernel
theorem dX5_markOfPainted_17 : decode cX5_markOfPainted 17 = .ok (.aload_n 0, 1) := by decide +kernel
theorem dX5_markOfPainted_18 : decode cX5_markOfPainted 18 = .ok (.getfield 19, 3) := by decide +kernel
theorem dX5_markOfPainted_21 : decode cX5_markOfPainted 21 = .ok (.getfield 75, 3) := by decide +kernel
theorem dX5_markOfPainted_24 : decode cX5_markOfPainted 24 = .ok (.getfield 85, 3) := by decide +kernel
theorem dX5_markOfPainted_27 : decode cX5_markOfPainted 27 = .ok (.iload_n 1, 1) := by decide +kernel
theorem dX5_markOfPainted_28 : decode cX5_markOfPainted 28 = .ok (.iaload, 1) := by decide +kernel
theorem dX5_markOfPainted_29 : decode cX5_markOfPainted 29 = .ok (.iadd, 1) := by decide +kernel
theorem dX5_markOfPainted_30 : decode cX5_markOfPainted 30 = .ok (.ireturn, 1) := by decide +kernel
set_option maxHeartbeats 4000000 in
set_option maxRecDepth 100000 in
theorem c_X5_markOfPainted (E : GE) (l : Launch) (G : Nat → Nat → Nat) (pl dr : Nat → Nat) (e0 e1 e2 : Nat → Nat → Nat) (Z0 : GC) (x1 : Int32) (post : Int32 → GC → Prop) (h : wp_X5_markOfPainted Z0 x1 post) : Met l yX5_markOfPainted (wz yX5_markOfPainted cX5_markOfPainted 2 (some .int)) { frames := 3, cells := 0, slots := 0, locals := 62 } (gPc E [.ref (G 0 99), .int x1] (gcW E G pl dr e0 e1 e2 Z0)) (gQi E (gcW E G pl dr e0 e1 e2 Z0) (fun r (u : GC) => post r u) (fun (u : GC) w => w = gcW E G pl dr e0 e1 e2 u)) 0 0 (gIn (gcW E G pl dr e0 e1 e2 Z0)) := by
  unfold wp_X5_markOfPainted at h
  refine g_of_i (by decide) (Nat.le_of_ble_eq_true rfl) ?_
  intro p e s m below meth c A Q hx hb hml hown ht hE hP hD hret ls hl
  have hK := hE.1
  have hS : va_S A s.heap s.heap [] := va_S.rf
  have hl : lv_has ls 2 [(0, .ref (G 0 99)), (1, .int x1)] := hl
  refine lv_aload_n hx hb dX5_markOfPainted_0 rfl (lv_at hl 0 rfl) ?_
  refine lv_dup hx hb dX5_markOfPainted_1 rfl ?_
  refine va_get (D := (E.1, E.2.1)) (ci := 5) (v := .long (Z0.1)) (C := RX5) (T := TX5) (N := 8) hx hb ht wu_X5 hown hK hP 0 rfl rfl 7 (by decide) (ht _ wk_X5_48) (fun _ h9 => h9) rfl dX5_markOfPainted_2 ?_
  refine lv_ldc2 hx hb hown (ht _ wk_X5_270) dX5_markOfPainted_5 ?_
  refine lv_ladd hx hb dX5_markOfPainted_8 ?_
  refine va_put (D := (E.1, E.2.1)) (ci := 5) (v := .long (Z0.1 + 100000)) (ty := .long) (C := RX5) (T := TX5) (N := 8) hx hb ht wu_X5 tyX5 tyX5_ok nmX5 hown hK hP hD hS 0 rfl rfl 7 (by decide) (ht _ wk_X5_48) (fun _ h9 => h9) rfl (by decide +kernel) rfl rfl (Nat.le_of_ble_eq_true rfl) dX5_markOfPainted_9 (fun H locs hP hD hS => ?_)
  have hP : gP E (gcW E G pl dr e0 e1 e2 (gtr Z0 (Z0.1 + 100000))) H := hP
  have hD : va_D A (gcW E G pl dr e0 e1 e2 (gtr Z0 (Z0.1 + 100000))) := hD
  obtain ⟨Z_1, eZ_1⟩ : ∃ z : GC, z = (gtr Z0 (Z0.1 + 100000)) := ⟨_, rfl⟩
  have h := h Z_1 eZ_1
  have hP : gP E (gcW E G pl dr e0 e1 e2 Z_1) H := by rw [eZ_1]; exact hP
  have hD : va_D A (gcW E G pl dr e0 e1 e2 Z_1) := by rw [eZ_1]; exact hD
  refine lv_aload_n hx hb dX5_markOfPainted_12 rfl (lv_at hl 0 rfl) ?_
  refine lv_iload_n hx hb dX5_markOfPainted_13 rfl (lv_at hl 1 rfl) ?_
  have p1 := gB (n := 15) (bs := [bGC G (pl 99) (dr 99) Z_1.1, bText E (G 1) (Z_1.2.1 1), bNow E (G 2) (G 3) e0 (Z_1.2.1 2), bScene E (G 3) (Z_1.2.1 3), bPlan E pl (Z_1.2.1 4), bPlan E dr (Z_1.2.1 5), bRumour E (G 6) (Z_1.2.1 6), bIm E G (Z_1.2.1 7), bNow E (G 8) (G 10) e1 (Z_1.2.1 8), bNow E (G 9) (G 11) e2 (Z_1.2.1 9), bScene E (G 10) (Z_1.2.1 10), bScene E (G 11) (Z_1.2.1 11), bPool E e0 (Z_1.2.2 0), bPool E e1 (Z_1.2.2 1), bPool E e2 (Z_1.2.2 2)]) (bc := [bGC G (pl 99) (dr 99) Z_1.1, bText E (G 1) (Z_1.2.1 1), bNow E (G 2) (G 3) e0 (Z_1.2.1 2), bScene E (G 3) (Z_1.2.1 3), bPlan E pl (Z_1.2.1 4), bPlan E dr (Z_1.2.1 5), bRumour E (G 6) (Z_1.2.1 6), bIm E G (Z_1.2.1 7), bNow E (G 8) (G 10) e1 (Z_1.2.1 8), bNow E (G 9) (G 11) e2 (Z_1.2.1 9), bScene E (G 10) (Z_1.2.1 10), bScene E (G 11) (Z_1.2.1 11), bPool E e0 (Z_1.2.2 0), bPool E e1 (Z_1.2.2 1), bPool E e2 (Z_1.2.2 2)]) (br := []) [0, 1, 2, 3, 4, 5, 6, 7, 8, 9, 10, 11, 12, 13, 14] rfl rfl (by decide)
  refine g_i (g_runV (As := [.int x1]) (rest := []) ⟨hx, hb, hml, hown, ht⟩ hE (c_X5_markOfLock E l G pl dr e0 e1 e2 Z_1 x1 _ h) ⟨rfl, rfl⟩ wk_X5_208 wi_X5_markOfLock ws_X5_markOfLock wn_X5 wc_X5_markOfLock yd_X5_markOfLock ⟨Nat.le_of_ble_eq_true rfl, Nat.le_of_ble_eq_true rfl⟩ hP hD p1 (ci := 5) rfl rfl rfl rfl rfl hl.1 rfl (lv_room (Nat.le_of_ble_eq_true rfl)) dX5_markOfPainted_14 ⟨Nat.zero_le _, Nat.zero_le _⟩) hP hD hS p1 (fun r_2 Z_3 w H locs h hw hP hD hS => ?_)
  subst hw
  clear p1
  have p2 := gB (n := 15) (bs := [bGC G (pl 99) (dr 99) Z_3.1, bText E (G 1) (Z_3.2.1 1), bNow E (G 2) (G 3) e0 (Z_3.2.1 2), bScene E (G 3) (Z_3.2.1 3), bPlan E pl (Z_3.2.1 4), bPlan E dr (Z_3.2.1 5), bRumour E (G 6) (Z_3.2.1 6), bIm E G (Z_3.2.1 7), bNow E (G 8) (G 10) e1 (Z_3.2.1 8), bNow E (G 9) (G 11) e2 (Z_3.2.1 9), bScene E (G 10) (Z_3.2.1 10), bScene E (G 11) (Z_3.2.1 11), bPool E e0 (Z_3.2.2 0), bPool E e1 (Z_3.2.2 1), bPool E e2 (Z_3.2.2 2)]) (bc := [bGC G (pl 99) (dr 99) Z_3.1, bText E (G 1) (Z_3.2.1 1), bNow E (G 2) (G 3) e0 (Z_3.2.1 2), bScene E (G 3) (Z_3.2.1 3), bPlan E pl (Z_3.2.1 4), bPlan E dr (Z_3.2.1 5), bRumour E (G 6) (Z_3.2.1 6), bIm E G (Z_3.2.1 7), bNow E (G 8) (G 10) e1 (Z_3.2.1 8), bNow E (G 9) (G 11) e2 (Z_3.2.1 9), bScene E (G 10) (Z_3.2.1 10), bScene E (G 11) (Z_3.2.1 11), bPool E e0 (Z_3.2.2 0), bPool E e1 (Z_3.2.2 1), bPool E e2 (Z_3.2.2 2)]) (br := []) [0, 1, 2, 3, 4, 5, 6, 7, 8, 9, 10, 11, 12, 13, 14] rfl rfl (by decide)
  have hP := gP_perm p2.symm hP
  have hD := gD_perm p2.symm hD
  clear p2
  have hP : gP E (gcW E G pl dr e0 e1 e2 Z_3) H := hP
  have hD : va_D A (gcW E G pl dr e0 e1 e2 Z_3) := hD
  refine lv_aload_n hx hb dX5_markOfPainted_17 rfl (lv_at hl 0 rfl) ?_
  refine va_get (D := (E.1, E.2.1)) (ci := 5) (v := .ref (G 2 99)) (C := RX5) (T := TX5) (N := 8) hx hb ht wu_X5 hown hK hP 0 rfl rfl 1 (by decide) (ht _ wk_X5_19) (fun _ h9 => h9) rfl dX5_markOfPainted_18 ?_
  refine va_get (D := (E.1, E.2.1)) (ci := 0) (v := .ref ((G 3) 99)) (C := RX0) (T := TX0) (N := 3) hx hb ht wu_X0 hown hK hP 3 rfl rfl 0 (by decide) (ht _ wk_X5_75) (fun _ h9 => h9) rfl dX5_markOfPainted_21 ?_
  refine va_get (D := (E.1, E.2.1)) (ci := 3) (v := .ref ((G 3) 1)) (C := RX3) (T := TX3) (N := 5) hx hb ht wu_X3 hown hK hP 5 rfl rfl 1 (by decide) (ht _ wk_X5_85) (fun _ h9 => h9) rfl dX5_markOfPainted_24 ?_
  refine lv_iload_n hx hb dX5_markOfPainted_27 rfl (lv_at hl 1 rfl) ?_
  refine va_iald hx hb hK hP 7 0 rfl rfl h.1 dX5_markOfPainted_28 ?_
  have h := h.2
  refine lv_iadd hx hb dX5_markOfPainted_29 ?_
  exact hret (r_2 + ((Z_3.2.1 3).2 1 x1.toNatClampNeg)) Z_3 _ _ _ _ _ h rfl hP hD hS dX5_markOfPainted_30
theorem dX5_mark_0 : decode cX5_mark 0 = .ok (.aload_n 0, 1) := by decide +kernel
theorem dX5_mark_1 : decode cX5_mark 1 = .ok (.iload_n 2, 1) := by decide +kernel
theorem dX5_mark_2 : decode cX5_mark 2 = .ok (.invokevirtual 71, 3) := by decide +kernel
theorem dX5_mark_5 : decode cX5_mark 5 = .ok (.ifCond .ne 6, 3) := by decide +kernel
theorem dX5_mark_8 : decode cX5_mark 8 = .ok (.ldc 207, 2) := by decide +kernel
theorem dX5_mark_10 : decode cX5_mark 10 = .ok (.ireturn, 1) := by decide +kernel
theorem dX5_mark_11 : decode cX5_mark 11 = .ok (.iload_n 1, 1) := by decide +kernel
theorem dX5_mark_12 : decode cX5_mark 12 = .ok (.tableswitch 76 0 5 #[40, 46, 52, 58, 64, 70], 40) := by decide +kernel
theorem dX5_mark_52 : decode cX5_mark 52 = .ok (.aload_n 0, 1) := by decide +kernel
theorem dX5_mark_53 : decode cX5_mark 53 = .ok (.iload_n 2, 1) := by decide +kernel
theorem dX5_mark_54 : decode cX5_mark 54 = .ok (.invokevirtual 208, 3) := by decide +kernel
theorem dX5_mark_57 : decode cX5_mark 57 = .ok (.ireturn, 1) := by decide +kernel
theorem dX5_mark_58 : decode cX5_mark 58 = .ok (.aload_n 0, 1) := by decide +kernel
theorem dX5_mark_59 : decode cX5_mark 59 = .ok (.iload_n 2, 1) := by decide +kernel
theorem dX5_mark_60 : decode cX5_mark 60 = .ok (.invokevirtual 211, 3) := by decide +kernel
theorem dX5_mark_63 : decode cX5_mark 63 = .ok (.ireturn, 1) := by decide +kernel
theorem dX5_mark_64 : decode cX5_mark 64 = .ok (.aload_n 0, 1) := by decide +kernel
theorem dX5_mark_65 : decode cX5_mark 65 = .ok (.iload_n 2, 1) := by decide +kernel
theorem dX5_mark_66 : decode cX5_mark 66 = .ok (.invokevirtual 214, 3) := by decide +kernel
theorem dX5_mark_69 : decode cX5_mark 69 = .ok (.ireturn, 1) := by decide +kernel
theorem dX5_mark_70 : decode cX5_mark 70 = .ok (.aload_n 0, 1) := by decide +kernel
theorem dX5_mark_71 : decode cX5_mark 71 = .ok (.iload_n 2, 1) := by decide +kernel
theorem dX5_mark_72 : decode cX5_mark 72 = .ok (.invokevirtual 217, 3) := by decide +kernel
theorem dX5_mark_75 : decode cX5_mark 75 = .ok (.ireturn, 1) := by decide +kernel
theorem dX5_mark_76 : decode cX5_mark 76 = .ok (.aload_n 0, 1) := by decide +kernel
theorem dX5_mark_77 : decode cX5_mark 77 = .ok (.iload_n 2, 1) := by decide +kernel
theorem dX5_mark_78 : decode cX5_mark 78 = .ok (.invokevirtual 220, 3) := by decide +kernel
theorem dX5_mark_81 : decode cX5_mark 81 = .ok (.ireturn, 1) := by decide +kernel
theorem dX5_mark_82 : decode cX5_mark 82 = .ok (.aload_n 0, 1) := by decide +kernel
theorem dX5_mark_83 : decode cX5_mark 83 = .ok (.iload_n 2, 1) := by decide +kernel
theorem dX5_mark_84 : decode cX5_mark 84 = .ok (.invokevirtual 223, 3) := by decide +kernel
theorem dX5_mark_87 : decode cX5_mark 87 = .ok (.ireturn, 1) := by decide +kernel
theorem dX5_mark_88 : decode cX5_mark 88 = .ok (.ldc 207, 2) := by decide +kernel
theorem dX5_mark_90 : decode cX5_mark 90 = .ok (.ireturn, 1) := by decide +kernel
set_option maxHeartbeats 4000000 in
set_option maxRecDepth 100000 in
theorem c_X5_mark (E : GE) (l : Launch) (G : Nat → Nat → Nat) (pl dr : Nat → Nat) (e0 e1 e2 : Nat → Nat → Nat) (Z0 : GC) (x1 : Int32) (x2 : Int32) (post : Int32 → GC → Prop) (h : wp_X5_mark Z0 x1 x2 post) : Met l yX5_mark (wz yX5_mark cX5_mark 3 (some .int)) { frames := 6, cells := 0, slots := 0, locals := 127 } (gPc E [.ref (G 0 99), .int x1, .int x2] (gcW E G pl dr e0 e1 e2 Z0)) (gQi E (gcW E G pl dr e0 e1 e2 Z0) (fun r (u : GC) => post r u) (fun (u : GC) w => w = gcW E G pl dr e0 e1 e2 u)) 0 0 (gIn (gcW E G pl dr e0 e1 e2 Z0)) := by
  unfold wp_X5_mark at h
  refine g_of_i (by decide) (Nat.le_of_ble_eq_true rfl) ?_
  intro p e s m below meth c A Q hx hb hml hown ht hE hP hD hret ls hl
  have hK := hE.1
  have hS : va_S A s.heap s.heap [] := va_S.rf
  have hl : lv_has ls 3 [(0, .ref (G 0 99)), (1, .int x1), (2, .int x2)] := hl
  refine lv_aload_n hx hb dX5_mark_0 rfl (lv_at hl 0 rfl) ?_
  refine lv_iload_n hx hb dX5_mark_1 rfl (lv_at hl 2 rfl) ?_
  have p1 := gB (n := 15) (bs := [bGC G (pl 99) (dr 99) Z0.1, bText E (G 1) (Z0.2.1 1), bNow E (G 2) (G 3) e0 (Z0.2.1 2), bScene E (G 3) (Z0.2.1 3), bPlan E pl (Z0.2.1 4), bPlan E dr (Z0.2.1 5), bRumour E (G 6) (Z0.2.1 6), bIm E G (Z0.2.1 7), bNow E (G 8) (G 10) e1 (Z0.2.1 8), bNow E (G 9) (G 11) e2 (Z0.2.1 9), bScene E (G 10) (Z0.2.1 10), bScene E (G 11) (Z0.2.1 11), bPool E e0 (Z0.2.2 0), bPool E e1 (Z0.2.2 1), bPool E e2 (Z0.2.2 2)]) (bc := [bGC G (pl 99) (dr 99) Z0.1, bText E (G 1) (Z0.2.1 1), bNow E (G 2) (G 3) e0 (Z0.2.1 2), bScene E (G 3) (Z0.2.1 3), bPlan E pl (Z0.2.1 4), bPlan E dr (Z0.2.1 5), bRumour E (G 6) (Z0.2.1 6), bIm E G (Z0.2.1 7), bNow E (G 8) (G 10) e1 (Z0.2.1 8), bNow E (G 9) (G 11) e2 (Z0.2.1 9), bScene E (G 10) (Z0.2.1 10), bScene E (G 11) (Z0.2.1 11), bPool E e0 (Z0.2.2 0), bPool E e1 (Z0.2.2 1), bPool E e2 (Z0.2.2 2)]) (br := []) [0, 1, 2, 3, 4, 5, 6, 7, 8, 9, 10, 11, 12, 13, 14] rfl rfl (by decide)
  refine g_i (g_runV (As := [.int x2]) (rest := []) ⟨hx, hb, hml, hown, ht⟩ hE (c_X5_isLock E l G pl dr e0 e1 e2 Z0 x2 _ h) ⟨rfl, rfl⟩ wk_X5_71 wi_X5_isLock ws_X5_isLock wn_X5 wc_X5_isLock yd_X5_isLock ⟨Nat.le_of_ble_eq_true rfl, Nat.le_of_ble_eq_true rfl⟩ hP hD p1 (ci := 5) rfl rfl rfl rfl rfl hl.1 rfl (lv_room (Nat.le_of_ble_eq_true rfl)) dX5_mark_2 ⟨Nat.zero_le _, Nat.zero_le _⟩) hP hD hS p1 (fun r_1 _ w H locs h hw hP hD hS => ?_)
  subst hw
  clear p1
  have p2 := gB (n := 15) (bs := [bGC G (pl 99) (dr 99) Z0.1, bText E (G 1) (Z0.2.1 1), bNow E (G 2) (G 3) e0 (Z0.2.1 2), bScene E (G 3) (Z0.2.1 3), bPlan E pl (Z0.2.1 4), bPlan E dr (Z0.2.1 5), bRumour E (G 6) (Z0.2.1 6), bIm E G (Z0.2.1 7), bNow E (G 8) (G 10) e1 (Z0.2.1 8), bNow E (G 9) (G 11) e2 (Z0.2.1 9), bScene E (G 10) (Z0.2.1 10), bScene E (G 11) (Z0.2.1 11), bPool E e0 (Z0.2.2 0), bPool E e1 (Z0.2.2 1), bPool E e2 (Z0.2.2 2)]) (bc := [bGC G (pl 99) (dr 99) Z0.1, bText E (G 1) (Z0.2.1 1), bNow E (G 2) (G 3) e0 (Z0.2.1 2), bScene E (G 3) (Z0.2.1 3), bPlan E pl (Z0.2.1 4), bPlan E dr (Z0.2.1 5), bRumour E (G 6) (Z0.2.1 6), bIm E G (Z0.2.1 7), bNow E (G 8) (G 10) e1 (Z0.2.1 8), bNow E (G 9) (G 11) e2 (Z0.2.1 9), bScene E (G 10) (Z0.2.1 10), bScene E (G 11) (Z0.2.1 11), bPool E e0 (Z0.2.2 0), bPool E e1 (Z0.2.2 1), bPool E e2 (Z0.2.2 2)]) (br := []) [0, 1, 2, 3, 4, 5, 6, 7, 8, 9, 10, 11, 12, 13, 14] rfl rfl (by decide)
  have hP := gP_perm p2.symm hP
  have hD := gD_perm p2.symm hD
  clear p2
  have hP : gP E (gcW E G pl dr e0 e1 e2 Z0) H := hP
  have hD : va_D A (gcW E G pl dr e0 e1 e2 Z0) := hD
  refine lv_if_ne (tgt := 11) hx hb dX5_mark_5 (by decide) (fun c_2 => ?_) (fun c_2 => ?_)
  · have h := h.1 c_2
    refine lv_iload_n hx hb dX5_mark_11 rfl (lv_at hl 1 rfl) ?_
    rcases sw_0_5 x1 with c | c | c | c | c | c | c
    · have h := h.1 c
      refine lv_asi c ?_
      refine lv_tableIn (off := 40) (tgt := 52) hx hb dX5_mark_12 (by decide) (by decide) rfl (by decide) ?_
      refine lv_aload_n hx hb dX5_mark_52 rfl (lv_at hl 0 rfl) ?_
      refine lv_iload_n hx hb dX5_mark_53 rfl (lv_at hl 2 rfl) ?_
      have p1 := gB (n := 15) (bs := [bGC G (pl 99) (dr 99) Z0.1, bText E (G 1) (Z0.2.1 1), bNow E (G 2) (G 3) e0 (Z0.2.1 2), bScene E (G 3) (Z0.2.1 3), bPlan E pl (Z0.2.1 4), bPlan E dr (Z0.2.1 5), bRumour E (G 6) (Z0.2.1 6), bIm E G (Z0.2.1 7), bNow E (G 8) (G 10) e1 (Z0.2.1 8), bNow E (G 9) (G 11) e2 (Z0.2.1 9), bScene E (G 10) (Z0.2.1 10), bScene E (G 11) (Z0.2.1 11), bPool E e0 (Z0.2.2 0), bPool E e1 (Z0.2.2 1), bPool E e2 (Z0.2.2 2)]) (bc := [bGC G (pl 99) (dr 99) Z0.1, bText E (G 1) (Z0.2.1 1), bNow E (G 2) (G 3) e0 (Z0.2.1 2), bScene E (G 3) (Z0.2.1 3), bPlan E pl (Z0.2.1 4), bPlan E dr (Z0.2.1 5), bRumour E (G 6) (Z0.2.1 6), bIm E G (Z0.2.1 7), bNow E (G 8) (G 10) e1 (Z0.2.1 8), bNow E (G 9) (G 11) e2 (Z0.2.1 9), bScene E (G 10) (Z0.2.1 10), bScene E (G 11) (Z0.2.1 11), bPool E e0 (Z0.2.2 0), bPool E e1 (Z0.2.2 1), bPool E e2 (Z0.2.2 2)]) (br := []) [0, 1, 2, 3, 4, 5, 6, 7, 8, 9, 10, 11, 12, 13, 14] rfl rfl (by decide)
      refine g_i (g_runV (As := [.int x2]) (rest := []) ⟨hx, hb, hml, hown, ht⟩ hE (c_X5_markOfLock E l G pl dr e0 e1 e2 Z0 x2 _ h) ⟨rfl, rfl⟩ wk_X5_208 wi_X5_markOfLock ws_X5_markOfLock wn_X5 wc_X5_markOfLock yd_X5_markOfLock ⟨Nat.le_of_ble_eq_true rfl, Nat.le_of_ble_eq_true rfl⟩ hP hD p1 (ci := 5) rfl rfl rfl rfl rfl hl.1 rfl (lv_room (Nat.le_of_ble_eq_true rfl)) dX5_mark_54 ⟨Nat.zero_le _, Nat.zero_le _⟩) hP hD hS p1 (fun r_3 Z_4 w H locs h hw hP hD hS => ?_)
      subst hw
      clear p1
      have p2 := gB (n := 15) (bs := [bGC G (pl 99) (dr 99) Z_4.1, bText E (G 1) (Z_4.2.1 1), bNow E (G 2) (G 3) e0 (Z_4.2.1 2), bScene E (G 3) (Z_4.2.1 3), bPlan E pl (Z_4.2.1 4), bPlan E dr (Z_4.2.1 5), bRumour E (G 6) (Z_4.2.1 6), bIm E G (Z_4.2.1 7), bNow E (G 8) (G 10) e1 (Z_4.2.1 8), bNow E (G 9) (G 11) e2 (Z_4.2.1 9), bScene E (G 10) (Z_4.2.1 10), bScene E (G 11) (Z_4.2.1 11), bPool E e0 (Z_4.2.2 0), bPool E e1 (Z_4.2.2 1), bPool E e2 (Z_4.2.2 2)]) (bc := [bGC G (pl 99) (dr 99) Z_4.1, bText E (G 1) (Z_4.2.1 1), bNow E (G 2) (G 3) e0 (Z_4.2.1 2), bScene E (G 3) (Z_4.2.1 3), bPlan E pl (Z_4.2.1 4), bPlan E dr (Z_4.2.1 5), bRumour E (G 6) (Z_4.2.1 6), bIm E G (Z_4.2.1 7), bNow E (G 8) (G 10) e1 (Z_4.2.1 8), bNow E (G 9) (G 11) e2 (Z_4.2.1 9), bScene E (G 10) (Z_4.2.1 10), bScene E (G 11) (Z_4.2.1 11), bPool E e0 (Z_4.2.2 0), bPool E e1 (Z_4.2.2 1), bPool E e2 (Z_4.2.2 2)]) (br := []) [0, 1, 2, 3, 4, 5, 6, 7, 8, 9, 10, 11, 12, 13, 14] rfl rfl (by decide)
      have hP := gP_perm p2.symm hP
      have hD := gD_perm p2.symm hD
      clear p2
      have hP : gP E (gcW E G pl dr e0 e1 e2 Z_4) H := hP
      have hD : va_D A (gcW E G pl dr e0 e1 e2 Z_4) := hD
      exact hret r_3 Z_4 _ _ _ _ _ h rfl hP hD hS dX5_mark_57
    · have h := h.2.1 c
      refine lv_asi c ?_
      refine lv_tableIn (off := 46) (tgt := 58) hx hb dX5_mark_12 (by decide) (by decide) rfl (by decide) ?_
      refine lv_aload_n hx hb dX5_mark_58 rfl (lv_at hl 0 rfl) ?_
      refine lv_iload_n hx hb dX5_mark_59 rfl (lv_at hl 2 rfl) ?_
      have p1 := gB (n := 15) (bs := [bGC G (pl 99) (dr 99) Z0.1, bText E (G 1) (Z0.2.1 1), bNow E (G 2) (G 3) e0 (Z0.2.1 2), bScene E (G 3) (Z0.2.1 3), bPlan E pl (Z0.2.1 4), bPlan E dr (Z0.2.1 5), bRumour E (G 6) (Z0.2.1 6), bIm E G (Z0.2.1 7), bNow E (G 8) (G 10) e1 (Z0.2.1 8), bNow E (G 9) (G 11) e2 (Z0.2.1 9), bScene E (G 10) (Z0.2.1 10), bScene E (G 11) (Z0.2.1 11), bPool E e0 (Z0.2.2 0), bPool E e1 (Z0.2.2 1), bPool E e2 (Z0.2.2 2)]) (bc := [bGC G (pl 99) (dr 99) Z0.1, bText E (G 1) (Z0.2.1 1), bNow E (G 2) (G 3) e0 (Z0.2.1 2), bScene E (G 3) (Z0.2.1 3), bPlan E pl (Z0.2.1 4), bPlan E dr (Z0.2.1 5), bRumour E (G 6) (Z0.2.1 6), bIm E G (Z0.2.1 7), bNow E (G 8) (G 10) e1 (Z0.2.1 8), bNow E (G 9) (G 11) e2 (Z0.2.1 9), bScene E (G 10) (Z0.2.1 10), bScene E (G 11) (Z0.2.1 11), bPool E e0 (Z0.2.2 0), bPool E e1 (Z0.2.2 1), bPool E e2 (Z0.2.2 2)]) (br := []) [0, 1, 2, 3, 4, 5, 6, 7, 8, 9, 10, 11, 12, 13, 14] rfl rfl (by decide)
      refine g_i (g_runV (As := [.int x2]) (rest := []) ⟨hx, hb, hml, hown, ht⟩ hE (c_X5_markOfBrass E l G pl dr e0 e1 e2 Z0 x2 _ h) ⟨rfl, rfl⟩ wk_X5_211 wi_X5_markOfBrass ws_X5_markOfBrass wn_X5 wc_X5_markOfBrass yd_X5_markOfBrass ⟨Nat.le_of_ble_eq_true rfl, Nat.le_of_ble_eq_true rfl⟩ hP hD p1 (ci := 5) rfl rfl rfl rfl rfl hl.1 rfl (lv_room (Nat.le_of_ble_eq_true rfl)) dX5_mark_60 ⟨Nat.zero_le _, Nat.zero_le _⟩) hP hD hS p1 (fun r_5 Z_6 w H locs h hw hP hD hS => ?_)
      subst hw
      clear p1
      have p2 := gB (n := 15) (bs := [bGC G (pl 99) (dr 99) Z_6.1, bText E (G 1) (Z_6.2.1 1), bNow E (G 2) (G 3) e0 (Z_6.2.1 2), bScene E (G 3) (Z_6.2.1 3), bPlan E pl (Z_6.2.1 4), bPlan E dr (Z_6.2.1 5), bRumour E (G 6) (Z_6.2.1 6), bIm E G (Z_6.2.1 7), bNow E (G 8) (G 10) e1 (Z_6.2.1 8), bNow E (G 9) (G 11) e2 (Z_6.2.1 9), bScene E (G 10) (Z_6.2.1 10), bScene E (G 11) (Z_6.2.1 11), bPool E e0 (Z_6.2.2 0), bPool E e1 (Z_6.2.2 1), bPool E e2 (Z_6.2.2 2)]) (bc := [bGC G (pl 99) (dr 99) Z_6.1, bText E (G 1) (Z_6.2.1 1), bNow E (G 2) (G 3) e0 (Z_6.2.1 2), bScene E (G 3) (Z_6.2.1 3), bPlan E pl (Z_6.2.1 4), bPlan E dr (Z_6.2.1 5), bRumour E (G 6) (Z_6.2.1 6), bIm E G (Z_6.2.1 7), bNow E (G 8) (G 10) e1 (Z_6.2.1 8), bNow E (G 9) (G 11) e2 (Z_6.2.1 9), bScene E (G 10) (Z_6.2.1 10), bScene E (G 11) (Z_6.2.1 11), bPool E e0 (Z_6.2.2 0), bPool E e1 (Z_6.2.2 1), bPool E e2 (Z_6.2.2 2)]) (br := []) [0, 1, 2, 3, 4, 5, 6, 7, 8, 9, 10, 11, 12, 13, 14] rfl rfl (by decide)
      have hP := gP_perm p2.symm hP
      have hD := gD_perm p2.symm hD
      clear p2
      have hP : gP E (gcW E G pl dr e0 e1 e2 Z_6) H := hP
      have hD : va_D A (gcW E G pl dr e0 e1 e2 Z_6) := hD
      exact hret r_5 Z_6 _ _ _ _ _ h rfl hP hD hS dX5_mark_63
    · have h := h.2.2.1 c
      refine lv_asi c ?_
      refine lv_tableIn (off := 52) (tgt := 64) hx hb dX5_mark_12 (by decide) (by decide) rfl (by decide) ?_
      refine lv_aload_n hx hb dX5_mark_64 rfl (lv_at hl 0 rfl) ?_
      refine lv_iload_n hx hb dX5_mark_65 rfl (lv_at hl 2 rfl) ?_
      have p1 := gB (n := 15) (bs := [bGC G (pl 99) (dr 99) Z0.1, bText E (G 1) (Z0.2.1 1), bNow E (G 2) (G 3) e0 (Z0.2.1 2), bScene E (G 3) (Z0.2.1 3), bPlan E pl (Z0.2.1 4), bPlan E dr (Z0.2.1 5), bRumour E (G 6) (Z0.2.1 6), bIm E G (Z0.2.1 7), bNow E (G 8) (G 10) e1 (Z0.2.1 8), bNow E (G 9) (G 11) e2 (Z0.2.1 9), bScene E (G 10) (Z0.2.1 10), bScene E (G 11) (Z0.2.1 11), bPool E e0 (Z0.2.2 0), bPool E e1 (Z0.2.2 1), bPool E e2 (Z0.2.2 2)]) (bc := [bGC G (pl 99) (dr 99) Z0.1, bText E (G 1) (Z0.2.1 1), bNow E (G 2) (G 3) e0 (Z0.2.1 2), bScene E (G 3) (Z0.2.1 3), bPlan E pl (Z0.2.1 4), bPlan E dr (Z0.2.1 5), bRumour E (G 6) (Z0.2.1 6), bIm E G (Z0.2.1 7), bNow E (G 8) (G 10) e1 (Z0.2.1 8), bNow E (G 9) (G 11) e2 (Z0.2.1 9), bScene E (G 10) (Z0.2.1 10), bScene E (G 11) (Z0.2.1 11), bPool E e0 (Z0.2.2 0), bPool E e1 (Z0.2.2 1), bPool E e2 (Z0.2.2 2)]) (br := []) [0, 1, 2, 3, 4, 5, 6, 7, 8, 9, 10, 11, 12, 13, 14] rfl rfl (by decide)
      refine g_i (g_runV (As := [.int x2]) (rest := []) ⟨hx, hb, hml, hown, ht⟩ hE (c_X5_markOfRusty E l G pl dr e0 e1 e2 Z0 x2 _ h) ⟨rfl, rfl⟩ wk_X5_214 wi_X5_markOfRusty ws_X5_markOfRusty wn_X5 wc_X5_markOfRusty yd_X5_markOfRusty ⟨Nat.le_of_ble_eq_true rfl, Nat.le_of_ble_eq_true rfl⟩ hP hD p1 (ci := 5) rfl rfl rfl rfl rfl hl.1 rfl (lv_room (Nat.le_of_ble_eq_true rfl)) dX5_mark_66 ⟨Nat.zero_le _, Nat.zero_le _⟩) hP hD hS p1 (fun r_7 Z_8 w H locs h hw hP hD hS => ?_)
      subst hw
      clear p1
      have p2 := gB (n := 15) (bs := [bGC G (pl 99) (dr 99) Z_8.1, bText E (G 1) (Z_8.2.1 1), bNow E (G 2) (G 3) e0 (Z_8.2.1 2), bScene E (G 3) (Z_8.2.1 3), bPlan E pl (Z_8.2.1 4), bPlan E dr (Z_8.2.1 5), bRumour E (G 6) (Z_8.2.1 6), bIm E G (Z_8.2.1 7), bNow E (G 8) (G 10) e1 (Z_8.2.1 8), bNow E (G 9) (G 11) e2 (Z_8.2.1 9), bScene E (G 10) (Z_8.2.1 10), bScene E (G 11) (Z_8.2.1 11), bPool E e0 (Z_8.2.2 0), bPool E e1 (Z_8.2.2 1), bPool E e2 (Z_8.2.2 2)]) (bc := [bGC G (pl 99) (dr 99) Z_8.1, bText E (G 1) (Z_8.2.1 1), bNow E (G 2) (G 3) e0 (Z_8.2.1 2), bScene E (G 3) (Z_8.2.1 3), bPlan E pl (Z_8.2.1 4), bPlan E dr (Z_8.2.1 5), bRumour E (G 6) (Z_8.2.1 6), bIm E G (Z_8.2.1 7), bNow E (G 8) (G 10) e1 (Z_8.2.1 8), bNow E (G 9) (G 11) e2 (Z_8.2.1 9), bScene E (G 10) (Z_8.2.1 10), bScene E (G 11) (Z_8.2.1 11), bPool E e0 (Z_8.2.2 0), bPool E e1 (Z_8.2.2 1), bPool E e2 (Z_8.2.2 2)]) (br := []) [0, 1, 2, 3, 4, 5, 6, 7, 8, 9, 10, 11, 12, 13, 14] rfl rfl (by decide)
      have hP := gP_perm p2.symm hP
      have hD := gD_perm p2.symm hD
      clear p2
      have hP : gP E (gcW E G pl dr e0 e1 e2 Z_8) H := hP
      have hD : va_D A (gcW E G pl dr e0 e1 e2 Z_8) := hD
      exact hret r_7 Z_8 _ _ _ _ _ h rfl hP hD hS dX5_mark_69
    · have h := h.2.2.2.1 c
      refine lv_asi c ?_
      refine lv_tableIn (off := 58) (tgt := 70) hx hb dX5_mark_12 (by decide) (by decide) rfl (by decide) ?_
      refine lv_aload_n hx hb dX5_mark_70 rfl (lv_at hl 0 rfl) ?_
      refine lv_iload_n hx hb dX5_mark_71 rfl (lv_at hl 2 rfl) ?_
      have p1 := gB (n := 15) (bs := [bGC G (pl 99) (dr 99) Z0.1, bText E (G 1) (Z0.2.1 1), bNow E (G 2) (G 3) e0 (Z0.2.1 2), bScene E (G 3) (Z0.2.1 3), bPlan E pl (Z0.2.1 4), bPlan E dr (Z0.2.1 5), bRumour E (G 6) (Z0.2.1 6), bIm E G (Z0.2.1 7), bNow E (G 8) (G 10) e1 (Z0.2.1 8), bNow E (G 9) (G 11) e2 (Z0.2.1 9), bScene E (G 10) (Z0.2.1 10), bScene E (G 11) (Z0.2.1 11), bPool E e0 (Z0.2.2 0), bPool E e1 (Z0.2.2 1), bPool E e2 (Z0.2.2 2)]) (bc := [bGC G (pl 99) (dr 99) Z0.1, bText E (G 1) (Z0.2.1 1), bNow E (G 2) (G 3) e0 (Z0.2.1 2), bScene E (G 3) (Z0.2.1 3), bPlan E pl (Z0.2.1 4), bPlan E dr (Z0.2.1 5), bRumour E (G 6) (Z0.2.1 6), bIm E G (Z0.2.1 7), bNow E (G 8) (G 10) e1 (Z0.2.1 8), bNow E (G 9) (G 11) e2 (Z0.2.1 9), bScene E (G 10) (Z0.2.1 10), bScene E (G 11) (Z0.2.1 11), bPool E e0 (Z0.2.2 0), bPool E e1 (Z0.2.2 1), bPool E e2 (Z0.2.2 2)]) (br := []) [0, 1, 2, 3, 4, 5, 6, 7, 8, 9, 10, 11, 12, 13, 14] rfl rfl (by decide)
      refine g_i (g_runV (As := [.int x2]) (rest := []) ⟨hx, hb, hml, hown, ht⟩ hE (c_X5_markOfDouble E l G pl dr e0 e1 e2 Z0 x2 _ h) ⟨rfl, rfl⟩ wk_X5_217 wi_X5_markOfDouble ws_X5_markOfDouble wn_X5 wc_X5_markOfDouble yd_X5_markOfDouble ⟨Nat.le_of_ble_eq_true rfl, Nat.le_of_ble_eq_true rfl⟩ hP hD p1 (ci := 5) rfl rfl rfl rfl rfl hl.1 rfl (lv_room (Nat.le_of_ble_eq_true rfl)) dX5_mark_72 ⟨Nat.zero_le _, Nat.zero_le _⟩) hP hD hS p1 (fun r_9 Z_10 w H locs h hw hP hD hS => ?_)
      subst hw
      clear p1
      have p2 := gB (n := 15) (bs := [bGC G (pl 99) (dr 99) Z_10.1, bText E (G 1) (Z_10.2.1 1), bNow E (G 2) (G 3) e0 (Z_10.2.1 2), bScene E (G 3) (Z_10.2.1 3), bPlan E pl (Z_10.2.1 4), bPlan E dr (Z_10.2.1 5), bRumour E (G 6) (Z_10.2.1 6), bIm E G (Z_10.2.1 7), bNow E (G 8) (G 10) e1 (Z_10.2.1 8), bNow E (G 9) (G 11) e2 (Z_10.2.1 9), bScene E (G 10) (Z_10.2.1 10), bScene E (G 11) (Z_10.2.1 11), bPool E e0 (Z_10.2.2 0), bPool E e1 (Z_10.2.2 1), bPool E e2 (Z_10.2.2 2)]) (bc := [bGC G (pl 99) (dr 99) Z_10.1, bText E (G 1) (Z_10.2.1 1), bNow E (G 2) (G 3) e0 (Z_10.2.1 2), bScene E (G 3) (Z_10.2.1 3), bPlan E pl (Z_10.2.1 4), bPlan E dr (Z_10.2.1 5), bRumour E (G 6) (Z_10.2.1 6), bIm E G (Z_10.2.1 7), bNow E (G 8) (G 10) e1 (Z_10.2.1 8), bNow E (G 9) (G 11) e2 (Z_10.2.1 9), bScene E (G 10) (Z_10.2.1 10), bScene E (G 11) (Z_10.2.1 11), bPool E e0 (Z_10.2.2 0), bPool E e1 (Z_10.2.2 1), bPool E e2 (Z_10.2.2 2)]) (br := []) [0, 1, 2, 3, 4, 5, 6, 7, 8, 9, 10, 11, 12, 13, 14] rfl rfl (by decide)
      have hP := gP_perm p2.symm hP
      have hD := gD_perm p2.symm hD
      clear p2
      have hP : gP E (gcW E G pl dr e0 e1 e2 Z_10) H := hP
      have hD : va_D A (gcW E G pl dr e0 e1 e2 Z_10) := hD
      exact hret r_9 Z_10 _ _ _ _ _ h rfl hP hD hS dX5_mark_75
    · have h := h.2.2.2.2.1 c
      refine lv_asi c ?_
      refine lv_tableIn (off := 64) (tgt := 76) hx hb dX5_mark_12 (by decide) (by decide) rfl (by decide) ?_
      refine lv_aload_n hx hb dX5_mark_76 rfl (lv_at hl 0 rfl) ?_
      refine lv_iload_n hx hb dX5_mark_77 rfl (lv_at hl 2 rfl) ?_
      have p1 := gB (n := 15) (bs := [bGC G (pl 99) (dr 99) Z0.1, bText E (G 1) (Z0.2.1 1), bNow E (G 2) (G 3) e0 (Z0.2.1 2), bScene E (G 3) (Z0.2.1 3), bPlan E pl (Z0.2.1 4), bPlan E dr (Z0.2.1 5), bRumour E (G 6) (Z0.2.1 6), bIm E G (Z0.2.1 7), bNow E (G 8) (G 10) e1 (Z0.2.1 8), bNow E (G 9) (G 11) e2 (Z0.2.1 9), bScene E (G 10) (Z0.2.1 10), bScene E (G 11) (Z0.2.1 11), bPool E e0 (Z0.2.2 0), bPool E e1 (Z0.2.2 1), bPool E e2 (Z0.2.2 2)]) (bc := [bGC G (pl 99) (dr 99) Z0.1, bText E (G 1) (Z0.2.1 1), bNow E (G 2) (G 3) e0 (Z0.2.1 2), bScene E (G 3) (Z0.2.1 3), bPlan E pl (Z0.2.1 4), bPlan E dr (Z0.2.1 5), bRumour E (G 6) (Z0.2.1 6), bIm E G (Z0.2.1 7), bNow E (G 8) (G 10) e1 (Z0.2.1 8), bNow E (G 9) (G 11) e2 (Z0.2.1 9), bScene E (G 10) (Z0.2.1 10), bScene E (G 11) (Z0.2.1 11), bPool E e0 (Z0.2.2 0), bPool E e1 (Z0.2.2 1), bPool E e2 (Z0.2.2 2)]) (br := []) [0, 1, 2, 3, 4, 5, 6, 7, 8, 9, 10, 11, 12, 13, 14] rfl rfl (by decide)
      refine g_i (g_runV (As := [.int x2]) (rest := []) ⟨hx, hb, hml, hown, ht⟩ hE (c_X5_markOfSeized E l G pl dr e0 e1 e2 Z0 x2 _ h) ⟨rfl, rfl⟩ wk_X5_220 wi_X5_markOfSeized ws_X5_markOfSeized wn_X5 wc_X5_markOfSeized yd_X5_markOfSeized ⟨Nat.le_of_ble_eq_true rfl, Nat.le_of_ble_eq_true rfl⟩ hP hD p1 (ci := 5) rfl rfl rfl rfl rfl hl.1 rfl (lv_room (Nat.le_of_ble_eq_true rfl)) dX5_mark_78 ⟨Nat.zero_le _, Nat.zero_le _⟩) hP hD hS p1 (fun r_11 Z_12 w H locs h hw hP hD hS => ?_)
      subst hw
      clear p1
      have p2 := gB (n := 15) (bs := [bGC G (pl 99) (dr 99) Z_12.1, bText E (G 1) (Z_12.2.1 1), bNow E (G 2) (G 3) e0 (Z_12.2.1 2), bScene E (G 3) (Z_12.2.1 3), bPlan E pl (Z_12.2.1 4), bPlan E dr (Z_12.2.1 5), bRumour E (G 6) (Z_12.2.1 6), bIm E G (Z_12.2.1 7), bNow E (G 8) (G 10) e1 (Z_12.2.1 8), bNow E (G 9) (G 11) e2 (Z_12.2.1 9), bScene E (G 10) (Z_12.2.1 10), bScene E (G 11) (Z_12.2.1 11), bPool E e0 (Z_12.2.2 0), bPool E e1 (Z_12.2.2 1), bPool E e2 (Z_12.2.2 2)]) (bc := [bGC G (pl 99) (dr 99) Z_12.1, bText E (G 1) (Z_12.2.1 1), bNow E (G 2) (G 3) e0 (Z_12.2.1 2), bScene E (G 3) (Z_12.2.1 3), bPlan E pl (Z_12.2.1 4), bPlan E dr (Z_12.2.1 5), bRumour E (G 6) (Z_12.2.1 6), bIm E G (Z_12.2.1 7), bNow E (G 8) (G 10) e1 (Z_12.2.1 8), bNow E (G 9) (G 11) e2 (Z_12.2.1 9), bScene E (G 10) (Z_12.2.1 10), bScene E (G 11) (Z_12.2.1 11), bPool E e0 (Z_12.2.2 0), bPool E e1 (Z_12.2.2 1), bPool E e2 (Z_12.2.2 2)]) (br := []) [0, 1, 2, 3, 4, 5, 6, 7, 8, 9, 10, 11, 12, 13, 14] rfl rfl (by decide)
      have hP := gP_perm p2.symm hP
      have hD := gD_perm p2.symm hD
      clear p2
      have hP : gP E (gcW E G pl dr e0 e1 e2 Z_12) H := hP
      have hD : va_D A (gcW E G pl dr e0 e1 e2 Z_12) := hD
      exact hret r_11 Z_12 _ _ _ _ _ h rfl hP hD hS dX5_mark_81
    · have h := h.2.2.2.2.2.1 c
      refine lv_asi c ?_
      refine lv_tableIn (off := 70) (tgt := 82) hx hb dX5_mark_12 (by decide) (by decide) rfl (by decide) ?_
      refine lv_aload_n hx hb dX5_mark_82 rfl (lv_at hl 0 rfl) ?_
      refine lv_iload_n hx hb dX5_mark_83 rfl (lv_at hl 2 rfl) ?_
      have p1 := gB (n := 15) (bs := [bGC G (pl 99) (dr 99) Z0.1, bText E (G 1) (Z0.2.1 1), bNow E (G 2) (G 3) e0 (Z0.2.1 2), bScene E (G 3) (Z0.2.1 3), bPlan E pl (Z0.2.1 4), bPlan E dr (Z0.2.1 5), bRumour E (G 6) (Z0.2.1 6), bIm E G (Z0.2.1 7), bNow E (G 8) (G 10) e1 (Z0.2.1 8), bNow E (G 9) (G 11) e2 (Z0.2.1 9), bScene E (G 10) (Z0.2.1 10), bScene E (G 11) (Z0.2.1 11), bPool E e0 (Z0.2.2 0), bPool E e1 (Z0.2.2 1), bPool E e2 (Z0.2.2 2)]) (bc := [bGC G (pl 99) (dr 99) Z0.1, bText E (G 1) (Z0.2.1 1), bNow E (G 2) (G 3) e0 (Z0.2.1 2), bScene E (G 3) (Z0.2.1 3), bPlan E pl (Z0.2.1 4), bPlan E dr (Z0.2.1 5), bRumour E (G 6) (Z0.2.1 6), bIm E G (Z0.2.1 7), bNow E (G 8) (G 10) e1 (Z0.2.1 8), bNow E (G 9) (G 11) e2 (Z0.2.1 9), bScene E (G 10) (Z0.2.1 10), bScene E (G 11) (Z0.2.1 11), bPool E e0 (Z0.2.2 0), bPool E e1 (Z0.2.2 1), bPool E e2 (Z0.2.2 2)]) (br := []) [0, 1, 2, 3, 4, 5, 6, 7, 8, 9, 10, 11, 12, 13, 14] rfl rfl (by decide)
      refine g_i (g_runV (As := [.int x2]) (rest := []) ⟨hx, hb, hml, hown, ht⟩ hE (c_X5_markOfPainted E l G pl dr e0 e1 e2 Z0 x2 _ h) ⟨rfl, rfl⟩ wk_X5_223 wi_X5_markOfPainted ws_X5_markOfPainted wn_X5 wc_X5_markOfPainted yd_X5_markOfPainted ⟨Nat.le_of_ble_eq_true rfl, Nat.le_of_ble_eq_true rfl⟩ hP hD p1 (ci := 5) rfl rfl rfl rfl rfl hl.1 rfl (lv_room (Nat.le_of_ble_eq_true rfl)) dX5_mark_84 ⟨Nat.zero_le _, Nat.zero_le _⟩) hP hD hS p1 (fun r_13 Z_14 w H locs h hw hP hD hS => ?_)
      subst hw
      clear p1
      have p2 := gB (n := 15) (bs := [bGC G (pl 99) (dr 99) Z_14.1, bText E (G 1) (Z_14.2.1 1), bNow E (G 2) (G 3) e0 (Z_14.2.1 2), bScene E (G 3) (Z_14.2.1 3), bPlan E pl (Z_14.2.1 4), bPlan E dr (Z_14.2.1 5), bRumour E (G 6) (Z_14.2.1 6), bIm E G (Z_14.2.1 7), bNow E (G 8) (G 10) e1 (Z_14.2.1 8), bNow E (G 9) (G 11) e2 (Z_14.2.1 9), bScene E (G 10) (Z_14.2.1 10), bScene E (G 11) (Z_14.2.1 11), bPool E e0 (Z_14.2.2 0), bPool E e1 (Z_14.2.2 1), bPool E e2 (Z_14.2.2 2)]) (bc := [bGC G (pl 99) (dr 99) Z_14.1, bText E (G 1) (Z_14.2.1 1), bNow E (G 2) (G 3) e0 (Z_14.2.1 2), bScene E (G 3) (Z_14.2.1 3), bPlan E pl (Z_14.2.1 4), bPlan E dr (Z_14.2.1 5), bRumour E (G 6) (Z_14.2.1 6), bIm E G (Z_14.2.1 7), bNow E (G 8) (G 10) e1 (Z_14.2.1 8), bNow E (G 9) (G 11) e2 (Z_14.2.1 9), bScene E (G 10) (Z_14.2.1 10), bScene E (G 11) (Z_14.2.1 11), bPool E e0 (Z_14.2.2 0), bPool E e1 (Z_14.2.2 1), bPool E e2 (Z_14.2.2 2)]) (br := []) [0, 1, 2, 3, 4, 5, 6, 7, 8, 9, 10, 11, 12, 13, 14] rfl rfl (by decide)
      have hP := gP_perm p2.symm hP
      have hD := gD_perm p2.symm hD
      clear p2
      have hP : gP E (gcW E G pl dr e0 e1 e2 Z_14) H := hP
      have hD : va_D A (gcW E G pl dr e0 e1 e2 Z_14) := hD
      exact hret r_13 Z_14 _ _ _ _ _ h rfl hP hD hS dX5_mark_87
    · have h := h.2.2.2.2.2.2 c
      refine lv_tableOut (tgt := 88) hx hb dX5_mark_12 c (by decide) ?_
      refine lv_ldc hx hb hown (ht _ wk_X5_207) dX5_mark_88 ?_
      exact hret (-1000000) Z0 _ _ _ _ _ h rfl hP hD hS dX5_mark_90
  · have h := h.2 c_2
    refine lv_ldc hx hb hown (ht _ wk_X5_207) dX5_mark_8 ?_
    exact hret (-1000000) Z0 _ _ _ _ _ h rfl hP hD hS dX5_mark_10
theorem dX5_keep_0 : decode cX5_keep 0 = .ok (.iload_n 1, 1) := by decide +kernel
theorem dX5_keep_1 : decode cX5_keep 1 = .ok (.invokestatic 226, 3) := by decide +kernel
theorem dX5_keep_4 : decode cX5_keep 4 = .ok (.ifCond .ne 5, 3) := by decide +kernel
theorem dX5_keep_7 : decode cX5_keep 7 = .ok (.iconst (-1), 1) := by decide +kernel
theorem dX5_keep_8 : decode cX5_keep 8 = .ok (.ireturn, 1) := by decide +kernel
theorem dX5_keep_9 : decode cX5_keep 9 = .ok (.aload_n 0, 1) := by decide +kernel
theorem dX5_keep_10 : decode cX5_keep 10 = .ok (.getfield 23, 3) := by decide +kernel
theorem dX5_keep_13 : decode cX5_keep 13 = .ok (.iload_n 1, 1) := by decide +kernel
theorem dX5_keep_14 : decode cX5_keep 14 = .ok (.aaload, 1) := by decide +kernel
theorem dX5_keep_15 : decode cX5_keep 15 = .ok (.aload_n 0, 1) := by decide +kernel
theorem dX5_keep_16 : decode cX5_keep 16 = .ok (.getfield 19, 3) := by decide +kernel
theorem dX5_keep_19 : decode cX5_keep 19 = .ok (.invokevirtual 229, 3) := by decide +kernel
theorem dX5_keep_22 : decode cX5_keep 22 = .ok (.aload_n 0, 1) := by decide +kernel
theorem dX5_keep_23 : decode cX5_keep 23 = .ok (.getfield 27, 3) := by decide +kernel
theorem dX5_keep_26 : decode cX5_keep 26 = .ok (.iload_n 1, 1) := by decide +kernel
theorem dX5_keep_27 : decode cX5_keep 27 = .ok (.iconst 1, 1) := by decide +kernel
theorem dX5_keep_28 : decode cX5_keep 28 = .ok (.bastore, 1) := by decide +kernel
theorem dX5_keep_29 : decode cX5_keep 29 = .ok (.aload_n 0, 1) := by decide +kernel
theorem dX5_keep_30 : decode cX5_keep 30 = .ok (.getfield 19, 3) := by decide +kernel
theorem dX5_keep_33 : decode cX5_keep 33 = .ok (.getfield 75, 3) := by decide +kernel
theorem dX5_keep_36 : decode cX5_keep 36 = .ok (.invokevirtual 133, 3) := by decide +kernel
theorem dX5_keep_39 : decode cX5_keep 39 = .ok (.ireturn, 1) := by decide +kernel
set_option maxHeartbeats 4000000 in
set_option maxRecDepth 100000 in
theorem c_X5_keep (E : GE) (l : Launch) (G : Nat → Nat → Nat) (pl dr : Nat → Nat) (e0 e1 e2 : Nat → Nat → Nat) (Z0 : GC) (x1 : Int32) (post : Int32 → GC → Prop) (h : wp_X5_keep Z0 x1 post) : Met l yX5_keep (wz yX5_keep cX5_keep 2 (some .int)) { frames := 4, cells := 0, slots := 0, locals := 84 } (gPc E [.ref (G 0 99), .int x1] (gcW E G pl dr e0 e1 e2 Z0)) (gQi E (gcW E G pl dr e0 e1 e2 Z0) (fun r (u : GC) => post r u) (fun (u : GC) w => w = gcW E G pl dr e0 e1 e2 u)) 0 0 (gIn (gcW E G pl dr e0 e1 e2 Z0)) := by
  unfold wp_X5_keep at h
  refine g_of_i (by decide) (Nat.le_of_ble_eq_true rfl) ?_
  intro p e s m below meth c A Q hx hb hml hown ht hE hP hD hret ls hl
  have hK := hE.1
  have hS : va_S A s.heap s.heap [] := va_S.rf
  have hl : lv_has ls 2 [(0, .ref (G 0 99)), (1, .int x1)] := hl
  refine lv_iload_n hx hb dX5_keep_0 rfl (lv_at hl 1 rfl) ?_
  have p1 := gB (n := 15) (bs := [bGC G (pl 99) (dr 99) Z0.1, bText E (G 1) (Z0.2.1 1), bNow E (G 2) (G 3) e0 (Z0.2.1 2), bScene E (G 3) (Z0.2.1 3), bPlan E pl (Z0.2.1 4), bPlan E dr (Z0.2.1 5), bRumour E (G 6) (Z0.2.1 6), bIm E G (Z0.2.1 7), bNow E (G 8) (G 10) e1 (Z0.2.1 8), bNow E (G 9) (G 11) e2 (Z0.2.1 9), bScene E (G 10) (Z0.2.1 10), bScene E (G 11) (Z0.2.1 11), bPool E e0 (Z0.2.2 0), bPool E e1 (Z0.2.2 1), bPool E e2 (Z0.2.2 2)]) (bc := []) (br := [bGC G (pl 99) (dr 99) Z0.1, bText E (G 1) (Z0.2.1 1), bNow E (G 2) (G 3) e0 (Z0.2.1 2), bScene E (G 3) (Z0.2.1 3), bPlan E pl (Z0.2.1 4), bPlan E dr (Z0.2.1 5), bRumour E (G 6) (Z0.2.1 6), bIm E G (Z0.2.1 7), bNow E (G 8) (G 10) e1 (Z0.2.1 8), bNow E (G 9) (G 11) e2 (Z0.2.1 9), bScene E (G 10) (Z0.2.1 10), bScene E (G 11) (Z0.2.1 11), bPool E e0 (Z0.2.2 0), bPool E e1 (Z0.2.2 1), bPool E e2 (Z0.2.2 2)]) [0, 1, 2, 3, 4, 5, 6, 7, 8, 9, 10, 11, 12, 13, 14] rfl rfl (by decide)
  refine g_i (g_runS (As := [.int x1]) (rest := []) ⟨hx, hb, hml, hown, ht⟩ hE (c_X5_isImage E l x1 _ h) ⟨rfl, rfl⟩ wk_X5_226 wt_X5_isImage wn_X5 wc_X5_isImage yd_X5_isImage ⟨Nat.le_of_ble_eq_true rfl, Nat.le_of_ble_eq_true rfl⟩ hP hD p1 rfl rfl hl.1 rfl (lv_room (Nat.le_of_ble_eq_true rfl)) dX5_keep_1 ⟨Nat.zero_le _, Nat.zero_le _⟩) hP hD hS p1 (fun r_1 _ w H locs h hw hP hD hS => ?_)
  subst hw
  clear p1
  have p2 := gB (n := 15) (bs := [bGC G (pl 99) (dr 99) Z0.1, bText E (G 1) (Z0.2.1 1), bNow E (G 2) (G 3) e0 (Z0.2.1 2), bScene E (G 3) (Z0.2.1 3), bPlan E pl (Z0.2.1 4), bPlan E dr (Z0.2.1 5), bRumour E (G 6) (Z0.2.1 6), bIm E G (Z0.2.1 7), bNow E (G 8) (G 10) e1 (Z0.2.1 8), bNow E (G 9) (G 11) e2 (Z0.2.1 9), bScene E (G 10) (Z0.2.1 10), bScene E (G 11) (Z0.2.1 11), bPool E e0 (Z0.2.2 0), bPool E e1 (Z0.2.2 1), bPool E e2 (Z0.2.2 2)]) (bc := []) (br := [bGC G (pl 99) (dr 99) Z0.1, bText E (G 1) (Z0.2.1 1), bNow E (G 2) (G 3) e0 (Z0.2.1 2), bScene E (G 3) (Z0.2.1 3), bPlan E pl (Z0.2.1 4), bPlan E dr (Z0.2.1 5), bRumour E (G 6) (Z0.2.1 6), bIm E G (Z0.2.1 7), bNow E (G 8) (G 10) e1 (Z0.2.1 8), bNow E (G 9) (G 11) e2 (Z0.2.1 9), bScene E (G 10) (Z0.2.1 10), bScene E (G 11) (Z0.2.1 11), bPool E e0 (Z0.2.2 0), bPool E e1 (Z0.2.2 1), bPool E e2 (Z0.2.2 2)]) [0, 1, 2, 3, 4, 5, 6, 7, 8, 9, 10, 11, 12, 13, 14] rfl rfl (by decide)
  have hP := gP_perm p2.symm hP
  have hD := gD_perm p2.symm hD
  clear p2
  have hP : gP E (gcW E G pl dr e0 e1 e2 Z0) H := hP
  have hD : va_D A (gcW E G pl dr e0 e1 e2 Z0) := hD
  refine lv_if_ne (tgt := 9) hx hb dX5_keep_4 (by decide) (fun c_2 => ?_) (fun c_2 => ?_)
  · have h := h.1 c_2
    refine lv_aload_n hx hb dX5_keep_9 rfl (lv_at hl 0 rfl) ?_
    refine va_get (D := (E.1, E.2.1)) (ci := 5) (v := .ref (G 7 2)) (C := RX5) (T := TX5) (N := 8) hx hb ht wu_X5 hown hK hP 0 rfl rfl 2 (by decide) (ht _ wk_X5_23) (fun _ h9 => h9) rfl dX5_keep_10 ?_
    refine lv_iload_n hx hb dX5_keep_13 rfl (lv_at hl 1 rfl) ?_
    have hi_3 : vp_in x1 2 := h.1
    have h := h.2
    rcases vp_2 hi_3 with c | c
    · have h := h.1 c
      refine va_aldq hx hb hK hP 26 3 rfl rfl hi_3 dX5_keep_14 ?_
      refine W.eq (g2 := F0 m 15 ls [.ref (G 8 99)]) (by rw [c]; rfl) ?_
      refine lv_aload_n hx hb dX5_keep_15 rfl (lv_at hl 0 rfl) ?_
      refine va_get (D := (E.1, E.2.1)) (ci := 5) (v := .ref (G 2 99)) (C := RX5) (T := TX5) (N := 8) hx hb ht wu_X5 hown hK hP 0 rfl rfl 1 (by decide) (ht _ wk_X5_19) (fun _ h9 => h9) rfl dX5_keep_16 ?_
      have p1 := gB (n := 15) (bs := [bGC G (pl 99) (dr 99) Z0.1, bText E (G 1) (Z0.2.1 1), bNow E (G 2) (G 3) e0 (Z0.2.1 2), bScene E (G 3) (Z0.2.1 3), bPlan E pl (Z0.2.1 4), bPlan E dr (Z0.2.1 5), bRumour E (G 6) (Z0.2.1 6), bIm E G (Z0.2.1 7), bNow E (G 8) (G 10) e1 (Z0.2.1 8), bNow E (G 9) (G 11) e2 (Z0.2.1 9), bScene E (G 10) (Z0.2.1 10), bScene E (G 11) (Z0.2.1 11), bPool E e0 (Z0.2.2 0), bPool E e1 (Z0.2.2 1), bPool E e2 (Z0.2.2 2)]) (bc := [bNow E (G 8) (G 10) e1 (Z0.2.1 8), bScene E (G 10) (Z0.2.1 10), bNow E (G 2) (G 3) e0 (Z0.2.1 2), bScene E (G 3) (Z0.2.1 3), bPool E e1 (Z0.2.2 1), bPool E e0 (Z0.2.2 0)]) (br := [bGC G (pl 99) (dr 99) Z0.1, bText E (G 1) (Z0.2.1 1), bPlan E pl (Z0.2.1 4), bPlan E dr (Z0.2.1 5), bRumour E (G 6) (Z0.2.1 6), bIm E G (Z0.2.1 7), bNow E (G 9) (G 11) e2 (Z0.2.1 9), bScene E (G 11) (Z0.2.1 11), bPool E e2 (Z0.2.2 2)]) [8, 10, 2, 3, 13, 12, 0, 1, 4, 5, 6, 7, 9, 11, 14] rfl rfl (by decide)
      refine g_v (g_runV (As := [.ref (G 2 99)]) (rest := []) ⟨hx, hb, hml, hown, ht⟩ hE (c_X0_copyFrom E l (G 8) (G 10) (G 2) (G 3) e1 e0 (Z0.2.1 8) (Z0.2.1 10) (Z0.2.1 2) (Z0.2.1 3) (Z0.2.2 1) (Z0.2.2 0) _ h) ⟨rfl, rfl⟩ wk_X5_229 wi_X0_copyFrom ws_X0_copyFrom wn_X0 wc_X0_copyFrom yd_X0_copyFrom ⟨Nat.le_of_ble_eq_true rfl, Nat.le_of_ble_eq_true rfl⟩ hP hD p1 (ci := 0) rfl rfl rfl rfl rfl hl.1 rfl (lv_room (Nat.le_of_ble_eq_true rfl)) dX5_keep_19 ⟨Nat.zero_le _, Nat.zero_le _⟩) hP hD hS p1 (fun u w H locs h hw hP hD hS => ?_)
      obtain ⟨S_4, S_5, S_6, S_7, O_8, O_9⟩ := u
      subst hw
      clear p1
      have p2 := gB (n := 15) (bs := [bGC G (pl 99) (dr 99) Z0.1, bText E (G 1) (Z0.2.1 1), bNow E (G 2) (G 3) e0 S_6, bScene E (G 3) S_7, bPlan E pl (Z0.2.1 4), bPlan E dr (Z0.2.1 5), bRumour E (G 6) (Z0.2.1 6), bIm E G (Z0.2.1 7), bNow E (G 8) (G 10) e1 S_4, bNow E (G 9) (G 11) e2 (Z0.2.1 9), bScene E (G 10) S_5, bScene E (G 11) (Z0.2.1 11), bPool E e0 O_9, bPool E e1 O_8, bPool E e2 (Z0.2.2 2)]) (bc := [bNow E (G 8) (G 10) e1 S_4, bScene E (G 10) S_5, bNow E (G 2) (G 3) e0 S_6, bScene E (G 3) S_7, bPool E e1 O_8, bPool E e0 O_9]) (br := [bGC G (pl 99) (dr 99) Z0.1, bText E (G 1) (Z0.2.1 1), bPlan E pl (Z0.2.1 4), bPlan E dr (Z0.2.1 5), bRumour E (G 6) (Z0.2.1 6), bIm E G (Z0.2.1 7), bNow E (G 9) (G 11) e2 (Z0.2.1 9), bScene E (G 11) (Z0.2.1 11), bPool E e2 (Z0.2.2 2)]) [8, 10, 2, 3, 13, 12, 0, 1, 4, 5, 6, 7, 9, 11, 14] rfl rfl (by decide)
      have hP := gP_perm p2.symm hP
      have hD := gD_perm p2.symm hD
      clear p2
      obtain ⟨Z_10, eZ_10⟩ : ∃ z : GC, z = (gpo (gpo (gx (gx (gx (gx Z0 8 S_4) 10 S_5) 2 S_6) 3 S_7) 1 O_8) 0 O_9) := ⟨_, rfl⟩
      have h := h Z_10 eZ_10
      have hP : gP E (gcW E G pl dr e0 e1 e2 Z_10) H := by rw [eZ_10]; exact hP
      have hD : va_D A (gcW E G pl dr e0 e1 e2 Z_10) := by rw [eZ_10]; exact hD
      refine lv_aload_n hx hb dX5_keep_22 rfl (lv_at hl 0 rfl) ?_
      refine va_get (D := (E.1, E.2.1)) (ci := 5) (v := .ref (G 7 3)) (C := RX5) (T := TX5) (N := 8) hx hb ht wu_X5 hown hK hP 0 rfl rfl 3 (by decide) (ht _ wk_X5_27) (fun _ h9 => h9) rfl dX5_keep_23 ?_
      refine lv_iload_n hx hb dX5_keep_26 rfl (lv_at hl 1 rfl) ?_
      refine lv_iconst (v := 1) hx hb dX5_keep_27 (by decide) ?_
      refine va_zast hx hb hK hP hD hS 27 1 rfl rfl h.1 dX5_keep_28 (fun H locs hP hD hS => ?_)
      have h := h.2
      have hP : gP E (gcW E G pl dr e0 e1 e2 (gx Z_10 7 (pa (Z_10.2.1 7) 3 (x1.toNatClampNeg) 1))) H := hP
      have hD : va_D A (gcW E G pl dr e0 e1 e2 (gx Z_10 7 (pa (Z_10.2.1 7) 3 (x1.toNatClampNeg) 1))) := hD
      obtain ⟨Z_11, eZ_11⟩ : ∃ z : GC, z = (gx Z_10 7 (pa (Z_10.2.1 7) 3 (x1.toNatClampNeg) 1)) := ⟨_, rfl⟩
      have h := h Z_11 eZ_11
      have hP : gP E (gcW E G pl dr e0 e1 e2 Z_11) H := by rw [eZ_11]; exact hP
      have hD : va_D A (gcW E G pl dr e0 e1 e2 Z_11) := by rw [eZ_11]; exact hD
      refine lv_aload_n hx hb dX5_keep_29 rfl (lv_at hl 0 rfl) ?_
      refine va_get (D := (E.1, E.2.1)) (ci := 5) (v := .ref (G 2 99)) (C := RX5) (T := TX5) (N := 8) hx hb ht wu_X5 hown hK hP 0 rfl rfl 1 (by decide) (ht _ wk_X5_19) (fun _ h9 => h9) rfl dX5_keep_30 ?_
      refine va_get (D := (E.1, E.2.1)) (ci := 0) (v := .ref ((G 3) 99)) (C := RX0) (T := TX0) (N := 3) hx hb ht wu_X0 hown hK hP 3 rfl rfl 0 (by decide) (ht _ wk_X5_75) (fun _ h9 => h9) rfl dX5_keep_33 ?_
      have p1 := gB (n := 15) (bs := [bGC G (pl 99) (dr 99) Z_11.1, bText E (G 1) (Z_11.2.1 1), bNow E (G 2) (G 3) e0 (Z_11.2.1 2), bScene E (G 3) (Z_11.2.1 3), bPlan E pl (Z_11.2.1 4), bPlan E dr (Z_11.2.1 5), bRumour E (G 6) (Z_11.2.1 6), bIm E G (Z_11.2.1 7), bNow E (G 8) (G 10) e1 (Z_11.2.1 8), bNow E (G 9) (G 11) e2 (Z_11.2.1 9), bScene E (G 10) (Z_11.2.1 10), bScene E (G 11) (Z_11.2.1 11), bPool E e0 (Z_11.2.2 0), bPool E e1 (Z_11.2.2 1), bPool E e2 (Z_11.2.2 2)]) (bc := [bScene E (G 3) (Z_11.2.1 3)]) (br := [bGC G (pl 99) (dr 99) Z_11.1, bText E (G 1) (Z_11.2.1 1), bNow E (G 2) (G 3) e0 (Z_11.2.1 2), bPlan E pl (Z_11.2.1 4), bPlan E dr (Z_11.2.1 5), bRumour E (G 6) (Z_11.2.1 6), bIm E G (Z_11.2.1 7), bNow E (G 8) (G 10) e1 (Z_11.2.1 8), bNow E (G 9) (G 11) e2 (Z_11.2.1 9), bScene E (G 10) (Z_11.2.1 10), bScene E (G 11) (Z_11.2.1 11), bPool E e0 (Z_11.2.2 0), bPool E e1 (Z_11.2.2 1), bPool E e2 (Z_11.2.2 2)]) [3, 0, 1, 2, 4, 5, 6, 7, 8, 9, 10, 11, 12, 13, 14] rfl rfl (by decide)
      refine g_i (g_runV (As := []) (rest := []) ⟨hx, hb, hml, hown, ht⟩ hE (c_X3_ringSize E l (G 3) (Z_11.2.1 3) _ h) ⟨rfl, rfl⟩ wk_X5_133 wi_X3_ringSize ws_X3_ringSize wn_X3 wc_X3_ringSize yd_X3_ringSize ⟨Nat.le_of_ble_eq_true rfl, Nat.le_of_ble_eq_true rfl⟩ hP hD p1 (ci := 3) rfl rfl rfl rfl rfl hl.1 rfl (lv_room (Nat.le_of_ble_eq_true rfl)) dX5_keep_36 ⟨Nat.zero_le _, Nat.zero_le _⟩) hP hD hS p1 (fun r_12 _ w H locs h hw hP hD hS => ?_)
      subst hw
      clear p1
      have p2 := gB (n := 15) (bs := [bGC G (pl 99) (dr 99) Z_11.1, bText E (G 1) (Z_11.2.1 1), bNow E (G 2) (G 3) e0 (Z_11.2.1 2), bScene E (G 3) (Z_11.2.1 3), bPlan E pl (Z_11.2.1 4), bPlan E dr (Z_11.2.1 5), bRumour E (G 6) (Z_11.2.1 6), bIm E G (Z_11.2.1 7), bNow E (G 8) (G 10) e1 (Z_11.2.1 8), bNow E (G 9) (G 11) e2 (Z_11.2.1 9), bScene E (G 10) (Z_11.2.1 10), bScene E (G 11) (Z_11.2.1 11), bPool E e0 (Z_11.2.2 0), bPool E e1 (Z_11.2.2 1), bPool E e2 (Z_11.2.2 2)]) (bc := [bScene E (G 3) (Z_11.2.1 3)]) (br := [bGC G (pl 99) (dr 99) Z_11.1, bText E (G 1) (Z_11.2.1 1), bNow E (G 2) (G 3) e0 (Z_11.2.1 2), bPlan E pl (Z_11.2.1 4), bPlan E dr (Z_11.2.1 5), bRumour E (G 6) (Z_11.2.1 6), bIm E G (Z_11.2.1 7), bNow E (G 8) (G 10) e1 (Z_11.2.1 8), bNow E (G 9) (G 11) e2 (Z_11.2.1 9), bScene E (G 10) (Z_11.2.1 10), bScene E (G 11) (Z_11.2.1 11), bPool E e0 (Z_11.2.2 0), bPool E e1 (Z_11.2.2 1), bPool E e2 (Z_11.2.2 2)]) [3, 0, 1, 2, 4, 5, 6, 7, 8, 9, 10, 11, 12, 13, 14] rfl rfl (by decide)
      have hP := gP_perm p2.symm hP
      have hD := gD_perm p2.symm hD
      clear p2
      have hP : gP E (gcW E G pl dr e0 e1 e2 Z_11) H := hP
      have hD : va_D A (gcW E G pl dr e0 e1 e2 Z_11) := hD
      exact hret r_12 Z_11 _ _ _ _ _ h rfl hP hD hS dX5_keep_39
    · have h := h.2 c
      refine va_aldq hx hb hK hP 26 3 rfl rfl hi_3 dX5_keep_14 ?_
      refine W.eq (g2 := F0 m 15 ls [.ref (G 9 99)]) (by rw [c]; rfl) ?_
      refine lv_aload_n hx hb dX5_keep_15 rfl (lv_at hl 0 rfl) ?_
      refine va_get (D := (E.1, E.2.1)) (ci := 5) (v := .ref (G 2 99)) (C := RX5) (T := TX5) (N := 8) hx hb ht wu_X5 hown hK hP 0 rfl rfl 1 (by decide) (ht _ wk_X5_19) (fun _ h9 => h9) rfl dX5_keep_16 ?_
      have p1 := gB (n := 15) (bs := [bGC G (pl 99) (dr 99) Z0.1, bText E (G 1) (Z0.2.1 1), bNow E (G 2) (G 3) e0 (Z0.2.1 2), bScene E (G 3) (Z0.2.1 3), bPlan E pl (Z0.2.1 4), bPlan E dr (Z0.2.1 5), bRumour E (G 6) (Z0.2.1 6), bIm E G (Z0.2.1 7), bNow E (G 8) (G 10) e1 (Z0.2.1 8), bNow E (G 9) (G 11) e2 (Z0.2.1 9), bScene E (G 10) (Z0.2.1 10), bScene E (G 11) (Z0.2.1 11), bPool E e0 (Z0.2.2 0), bPool E e1 (Z0.2.2 1), bPool E e2 (Z0.2.2 2)]) (bc := [bNow E (G 9) (G 11) e2 (Z0.2.1 9), bScene E (G 11) (Z0.2.1 11), bNow E (G 2) (G 3) e0 (Z0.2.1 2), bScene E (G 3) (Z0.2.1 3), bPool E e2 (Z0.2.2 2), bPool E e0 (Z0.2.2 0)]) (br := [bGC G (pl 99) (dr 99) Z0.1, bText E (G 1) (Z0.2.1 1), bPlan E pl (Z0.2.1 4), bPlan E dr (Z0.2.1 5), bRumour E (G 6) (Z0.2.1 6), bIm E G (Z0.2.1 7), bNow E (G 8) (G 10) e1 (Z0.2.1 8), bScene E (G 10) (Z0.2.1 10), bPool E e1 (Z0.2.2 1)]) [9, 11, 2, 3, 14, 12, 0, 1, 4, 5, 6, 7, 8, 10, 13] rfl rfl (by decide)
      refine g_v (g_runV (As := [.ref (G 2 99)]) (rest := []) ⟨hx, hb, hml, hown, ht⟩ hE (c_X0_copyFrom E l (G 9) (G 11) (G 2) (G 3) e2 e0 (Z0.2.1 9) (Z0.2.1 11) (Z0.2.1 2) (Z0.2.1 3) (Z0.2.2 2) (Z0.2.2 0) _ h) ⟨rfl, rfl⟩ wk_X5_229 wi_X0_copyFrom ws_X0_copyFrom wn_X0 wc_X0_copyFrom yd_X0_copyFrom ⟨Nat.le_of_ble_eq_true rfl, Nat.le_of_ble_eq_true rfl⟩ hP hD p1 (ci := 0) rfl rfl rfl rfl rfl hl.1 rfl (lv_room (Nat.le_of_ble_eq_true rfl)) dX5_keep_19 ⟨Nat.zero_le _, Nat.zero_le _⟩) hP hD hS p1 (fun u w H locs h hw hP hD hS => ?_)
      obtain ⟨S_13, S_14, S_15, S_16, O_17, O_18⟩ := u
      subst hw
      clear p1
      have p2 := gB (n := 15) (bs := [bGC G (pl 99) (dr 99) Z0.1, bText E (G 1) (Z0.2.1 1), bNow E (G 2) (G 3) e0 S_15, bScene E (G 3) S_16, bPlan E pl (Z0.2.1 4), bPlan E dr (Z0.2.1 5), bRumour E (G 6) (Z0.2.1 6), bIm E G (Z0.2.1 7), bNow E (G 8) (G 10) e1 (Z0.2.1 8), bNow E (G 9) (G 11) e2 S_13, bScene E (G 10) (Z0.2.1 10), bScene E (G 11) S_14, bPool E e0 O_18, bPool E e1 (Z0.2.2 1), bPool E e2 O_17]) (bc := [bNow E (G 9) (G 11) e2 S_13, bScene E (G 11) S_14, bNow E (G 2) (G 3) e0 S_15, bScene E (G 3) S_16, bPool E e2 O_17, bPool E e0 O_18]) (br := [bGC G (pl 99) (dr 99) Z0.1, bText E (G 1) (Z0.2.1 1), bPlan E pl (Z0.2.1 4), bPlan E dr (Z0.2.1 5), bRumour E (G 6) (Z0.2.1 6), bIm E G (Z0.2.1 7), bNow E (G 8) (G 10) e1 (Z0.2.1 8), bScene E (G 10) (Z0.2.1 10), bPool E e1 (Z0.2.2 1)]) [9, 11, 2, 3, 14, 12, 0, 1, 4, 5, 6, 7, 8, 10, 13] rfl rfl (by decide)
      have hP := gP_perm p2.symm hP
      have hD := gD_perm p2.symm hD
      clear p2
      obtain ⟨Z_19, eZ_19⟩ : ∃ z : GC, z = (gpo (gpo (gx (gx (gx (gx Z0 9 S_13) 11 S_14) 2 S_15) 3 S_16) 2 O_17) 0 O_18) := ⟨_, rfl⟩
      have h := h Z_19 eZ_19
      have hP : gP E (gcW E G pl dr e0 e1 e2 Z_19) H := by rw [eZ_19]; exact hP
      have hD : va_D A (gcW E G pl dr e0 e1 e2 Z_19) := by rw [eZ_19]; exact hD
      refine lv_aload_n hx hb dX5_keep_22 rfl (lv_at hl 0 rfl) ?_
      refine va_get (D := (E.1, E.2.1)) (ci := 5) (v := .ref (G 7 3)) (C := RX5) (T := TX5) (N := 8) hx hb ht wu_X5 hown hK hP 0 rfl rfl 3 (by decide) (ht _ wk_X5_27) (fun _ h9 => h9) rfl dX5_keep_23 ?_
      refine lv_iload_n hx hb dX5_keep_26 rfl (lv_at hl 1 rfl) ?_
      refine lv_iconst (v := 1) hx hb dX5_keep_27 (by decide) ?_
      refine va_zast hx hb hK hP hD hS 27 1 rfl rfl h.1 dX5_keep_28 (fun H locs hP hD hS => ?_)
      have h := h.2
      have hP : gP E (gcW E G pl dr e0 e1 e2 (gx Z_19 7 (pa (Z_19.2.1 7) 3 (x1.toNatClampNeg) 1))) H := hP
      have hD : va_D A (gcW E G pl dr e0 e1 e2 (gx Z_19 7 (pa (Z_19.2.1 7) 3 (x1.toNatClampNeg) 1))) := hD
      obtain ⟨Z_20, eZ_20⟩ : ∃ z : GC, z = (gx Z_19 7 (pa (Z_19.2.1 7) 3 (x1.toNatClampNeg) 1)) := ⟨_, rfl⟩
      have h := h Z_20 eZ_20
      have hP : gP E (gcW E G pl dr e0 e1 e2 Z_20) H := by rw [eZ_20]; exact hP
      have hD : va_D A (gcW E G pl dr e0 e1 e2 Z_20) := by rw [eZ_20]; exact hD
      refine lv_aload_n hx hb dX5_keep_29 rfl (lv_at hl 0 rfl) ?_
      refine va_get (D := (E.1, E.2.1)) (ci := 5) (v := .ref (G 2 99)) (C := RX5) (T := TX5) (N := 8) hx hb ht wu_X5 hown hK hP 0 rfl rfl 1 (by decide) (ht _ wk_X5_19) (fun _ h9 => h9) rfl dX5_keep_30 ?_
      refine va_get (D := (E.1, E.2.1)) (ci := 0) (v := .ref ((G 3) 99)) (C := RX0) (T := TX0) (N := 3) hx hb ht wu_X0 hown hK hP 3 rfl rfl 0 (by decide) (ht _ wk_X5_75) (fun _ h9 => h9) rfl dX5_keep_33 ?_
      have p1 := gB (n := 15) (bs := [bGC G (pl 99) (dr 99) Z_20.1, bText E (G 1) (Z_20.2.1 1), bNow E (G 2) (G 3) e0 (Z_20.2.1 2), bScene E (G 3) (Z_20.2.1 3), bPlan E pl (Z_20.2.1 4), bPlan E dr (Z_20.2.1 5), bRumour E (G 6) (Z_20.2.1 6), bIm E G (Z_20.2.1 7), bNow E (G 8) (G 10) e1 (Z_20.2.1 8), bNow E (G 9) (G 11) e2 (Z_20.2.1 9), bScene E (G 10) (Z_20.2.1 10), bScene E (G 11) (Z_20.2.1 11), bPool E e0 (Z_20.2.2 0), bPool E e1 (Z_20.2.2 1), bPool E e2 (Z_20.2.2 2)]) (bc := [bScene E (G 3) (Z_20.2.1 3)]) (br := [bGC G (pl 99) (dr 99) Z_20.1, bText E (G 1) (Z_20.2.1 1), bNow E (G 2) (G 3) e0 (Z_20.2.1 2), bPlan E pl (Z_20.2.1 4), bPlan E dr (Z_20.2.1 5), bRumour E (G 6) (Z_20.2.1 6), bIm E G (Z_20.2.1 7), bNow E (G 8) (G 10) e1 (Z_20.2.1 8), bNow E (G 9) (G 11) e2 (Z_20.2.1 9), bScene E (G 10) (Z_20.2.1 10), bScene E (G 11) (Z_20.2.1 11), bPool E e0 (Z_20.2.2 0), bPool E e1 (Z_20.2.2 1), bPool E e2 (Z_20.2.2 2)]) [3, 0, 1, 2, 4, 5, 6, 7, 8, 9, 10, 11, 12, 13, 14] rfl rfl (by decide)
      refine g_i (g_runV (As := []) (rest := []) ⟨hx, hb, hml, hown, ht⟩ hE (c_X3_ringSize E l (G 3) (Z_20.2.1 3) _ h) ⟨rfl, rfl⟩ wk_X5_133 wi_X3_ringSize ws_X3_ringSize wn_X3 wc_X3_ringSize yd_X3_ringSize ⟨Nat.le_of_ble_eq_true rfl, Nat.le_of_ble_eq_true rfl⟩ hP hD p1 (ci := 3) rfl rfl rfl rfl rfl hl.1 rfl (lv_room (Nat.le_of_ble_eq_true rfl)) dX5_keep_36 ⟨Nat.zero_le _, Nat.zero_le _⟩) hP hD hS p1 (fun r_21 _ w H locs h hw hP hD hS => ?_)
      subst hw
      clear p1
      have p2 := gB (n := 15) (bs := [bGC G (pl 99) (dr 99) Z_20.1, bText E (G 1) (Z_20.2.1 1), bNow E (G 2) (G 3) e0 (Z_20.2.1 2), bScene E (G 3) (Z_20.2.1 3), bPlan E pl (Z_20.2.1 4), bPlan E dr (Z_20.2.1 5), bRumour E (G 6) (Z_20.2.1 6), bIm E G (Z_20.2.1 7), bNow E (G 8) (G 10) e1 (Z_20.2.1 8), bNow E (G 9) (G 11) e2 (Z_20.2.1 9), bScene E (G 10) (Z_20.2.1 10), bScene E (G 11) (Z_20.2.1 11), bPool E e0 (Z_20.2.2 0), bPool E e1 (Z_20.2.2 1), bPool E e2 (Z_20.2.2 2)]) (bc := [bScene E (G 3) (Z_20.2.1 3)]) (br := [bGC G (pl 99) (dr 99) Z_20.1, bText E (G 1) (Z_20.2.1 1), bNow E (G 2) (G 3) e0 (Z_20.2.1 2), bPlan E pl (Z_20.2.1 4), bPlan E dr (Z_20.2.1 5), bRumour E (G 6) (Z_20.2.1 6), bIm E G (Z_20.2.1 7), bNow E (G 8) (G 10) e1 (Z_20.2.1 8), bNow E (G 9) (G 11) e2 (Z_20.2.1 9), bScene E (G 10) (Z_20.2.1 10), bScene E (G 11) (Z_20.2.1 11), bPool E e0 (Z_20.2.2 0), bPool E e1 (Z_20.2.2 1), bPool E e2 (Z_20.2.2 2)]) [3, 0, 1, 2, 4, 5, 6, 7, 8, 9, 10, 11, 12, 13, 14] rfl rfl (by decide)
      have hP := gP_perm p2.symm hP
      have hD := gD_perm p2.symm hD
      clear p2
      have hP : gP E (gcW E G pl dr e0 e1 e2 Z_20) H := hP
      have hD : va_D A (gcW E G pl dr e0 e1 e2 Z_20) := hD
      exact hret r_21 Z_20 _ _ _ _ _ h rfl hP hD hS dX5_keep_39
  · have h := h.2 c_2
    refine lv_iconst (v := (-1)) hx hb dX5_keep_7 (by decide) ?_
    exact hret (-1) Z0 _ _ _ _ _ h rfl hP hD hS dX5_keep_8
theorem dX5_back_0 : decode cX5_back 0 = .ok (.iload_n 1, 1) := by decide +kernel
theorem dX5_back_1 : decode cX5_back 1 = .ok (.invokestatic 226, 3) := by decide +kernel
theorem dX5_back_4 : decode cX5_back 4 = .ok (.ifCond .ne 5, 3) := by decide +kernel
theorem dX5_back_7 : decode cX5_back 7 = .ok (.iconst (-1), 1) := by decide +kernel
theorem dX5_back_8 : decode cX5_back 8 = .ok (.ireturn, 1) := by decide +kernel
theorem dX5_back_9 : decode cX5_back 9 = .ok (.aload_n 0, 1) := by decide +kernel
theorem dX5_back_10 : decode cX5_back 10 = .ok (.getfield 27, 3) := by decide +kernel
theorem dX5_back_13 : decode cX5_back 13 = .ok (.iload_n 1, 1) := by decide +kernel
theorem dX5_back_14 : decode cX5_back 14 = .ok (.baload, 1) := by decide +kernel
theorem dX5_back_15 : decode cX5_back 15 = .ok (.ifCond .ne 6, 3) := by decide +kernel
theorem dX5_back_18 : decode cX5_back 18 = .ok (.bipush (-2), 2) := by decide +kernel
theorem dX5_back_20 : decode cX5_back 20 = .ok (.ireturn, 1) := by decide +kernel
theorem dX5_back_21 : decode cX5_back 21 = .ok (.aload_n 0, 1) := by decide +kernel
theorem dX5_back_22 : decode cX5_back 22 = .ok (.getfield 19, 3) := by decide +kernel
theorem dX5_back_25 : decode cX5_back 25 = .ok (.aload_n 0, 1) := by decide +kernel
theorem dX5_back_26 : decode cX5_back 26 = .ok (.getfield 23, 3) := by decide +kernel
theorem dX5_back_29 : decode cX5_back 29 = .ok (.iload_n 1, 1) := by decide +kernel
theorem dX5_back_30 : decode cX5_back 30 = .ok (.aaload, 1) := by decide +kernel
theorem dX5_back_31 : decode cX5_back 31 = .ok (.invokevirtual 229, 3) := by decide +kernel
theorem dX5_back_34 : decode cX5_back 34 = .ok (.aload_n 0, 1) := by decide +kernel
theorem dX5_back_35 : decode cX5_back 35 = .ok (.getfield 19, 3) := by decide +kernel
theorem dX5_back_38 : decode cX5_back 38 = .ok (.getfield 75, 3) := by decide +kernel
theorem dX5_back_41 : decode cX5_back 41 = .ok (.invokevirtual 133, 3) := by decide +kernel
theorem dX5_back_44 : decode cX5_back 44 = .ok (.ireturn, 1) := by decide +kernel
set_option maxHeartbeats 4000000 in
set_option maxRecDepth 100000 in
theorem c_X5_back (E : GE) (l : Launch) (G : Nat → Nat → Nat) (pl dr : Nat → Nat) (e0 e1 e2 : Nat → Nat → Nat) (Z0 : GC) (x1 : Int32) (post : Int32 → GC → Prop) (h : wp_X5_back Z0 x1 post) : Met l yX5_back (wz yX5_back cX5_back 2 (some .int)) { frames := 4, cells := 0, slots := 0, locals := 84 } (gPc E [.ref (G 0 99), .int x1] (gcW E G pl dr e0 e1 e2 Z0)) (gQi E (gcW E G pl dr e0 e1 e2 Z0) (fun r (u : GC) => post r u) (fun (u : GC) w => w = gcW E G pl dr e0 e1 e2 u)) 0 0 (gIn (gcW E G pl dr e0 e1 e2 Z0)) := by
  unfold wp_X5_back at h
  refine g_of_i (by decide) (Nat.le_of_ble_eq_true rfl) ?_
  intro p e s m below meth c A Q hx hb hml hown ht hE hP hD hret ls hl
  have hK := hE.1
  have hS : va_S A s.heap s.heap [] := va_S.rf
  have hl : lv_has ls 2 [(0, .ref (G 0 99)), (1, .int x1)] := hl
  refine lv_iload_n hx hb dX5_back_0 rfl (lv_at hl 1 rfl) ?_
  have p1 := gB (n := 15) (bs := [bGC G (pl 99) (dr 99) Z0.1, bText E (G 1) (Z0.2.1 1), bNow E (G 2) (G 3) e0 (Z0.2.1 2), bScene E (G 3) (Z0.2.1 3), bPlan E pl (Z0.2.1 4), bPlan E dr (Z0.2.1 5), bRumour E (G 6) (Z0.2.1 6), bIm E G (Z0.2.1 7), bNow E (G 8) (G 10) e1 (Z0.2.1 8), bNow E (G 9) (G 11) e2 (Z0.2.1 9), bScene E (G 10) (Z0.2.1 10), bScene E (G 11) (Z0.2.1 11), bPool E e0 (Z0.2.2 0), bPool E e1 (Z0.2.2 1), bPool E e2 (Z0.2.2 2)]) (bc := []) (br := [bGC G (pl 99) (dr 99) Z0.1, bText E (G 1) (Z0.2.1 1), bNow E (G 2) (G 3) e0 (Z0.2.1 2), bScene E (G 3) (Z0.2.1 3), bPlan E pl (Z0.2.1 4), bPlan E dr (Z0.2.1 5), bRumour E (G 6) (Z0.2.1 6), bIm E G (Z0.2.1 7), bNow E (G 8) (G 10) e1 (Z0.2.1 8), bNow E (G 9) (G 11) e2 (Z0.2.1 9), bScene E (G 10) (Z0.2.1 10), bScene E (G 11) (Z0.2.1 11), bPool E e0 (Z0.2.2 0), bPool E e1 (Z0.2.2 1), bPool E e2 (Z0.2.2 2)]) [0, 1, 2, 3, 4, 5, 6, 7, 8, 9, 10, 11, 12, 13, 14] rfl rfl (by decide)
  refine g_i (g_runS (As := [.int x1]) (rest := []) ⟨hx, hb, hml, hown, ht⟩ hE (c_X5_isImage E l x1 _ h) ⟨rfl, rfl⟩ wk_X5_226 wt_X5_isImage wn_X5 wc_X5_isImage yd_X5_isImage ⟨Nat.le_of_ble_eq_true rfl, Nat.le_of_ble_eq_true rfl⟩ hP hD p1 rfl rfl hl.1 rfl (lv_room (Nat.le_of_ble_eq_true rfl)) dX5_back_1 ⟨Nat.zero_le _, Nat.zero_le _⟩) hP hD hS p1 (fun r_1 _ w H locs h hw hP hD hS => ?_)
  subst hw
  clear p1
  have p2 := gB (n := 15) (bs := [bGC G (pl 99) (dr 99) Z0.1, bText E (G 1) (Z0.2.1 1), bNow E (G 2) (G 3) e0 (Z0.2.1 2), bScene E (G 3) (Z0.2.1 3), bPlan E pl (Z0.2.1 4), bPlan E dr (Z0.2.1 5), bRumour E (G 6) (Z0.2.1 6), bIm E G (Z0.2.1 7), bNow E (G 8) (G 10) e1 (Z0.2.1 8), bNow E (G 9) (G 11) e2 (Z0.2.1 9), bScene E (G 10) (Z0.2.1 10), bScene E (G 11) (Z0.2.1 11), bPool E e0 (Z0.2.2 0), bPool E e1 (Z0.2.2 1), bPool E e2 (Z0.2.2 2)]) (bc := []) (br := [bGC G (pl 99) (dr 99) Z0.1, bText E (G 1) (Z0.2.1 1), bNow E (G 2) (G 3) e0 (Z0.2.1 2), bScene E (G 3) (Z0.2.1 3), bPlan E pl (Z0.2.1 4), bPlan E dr (Z0.2.1 5), bRumour E (G 6) (Z0.2.1 6), bIm E G (Z0.2.1 7), bNow E (G 8) (G 10) e1 (Z0.2.1 8), bNow E (G 9) (G 11) e2 (Z0.2.1 9), bScene E (G 10) (Z0.2.1 10), bScene E (G 11) (Z0.2.1 11), bPool E e0 (Z0.2.2 0), bPool E e1 (Z0.2.2 1), bPool E e2 (Z0.2.2 2)]) [0, 1, 2, 3, 4, 5, 6, 7, 8, 9, 10, 11, 12, 13, 14] rfl rfl (by decide)
  have hP := gP_perm p2.symm hP
  have hD := gD_perm p2.symm hD
  clear p2
  have hP : gP E (gcW E G pl dr e0 e1 e2 Z0) H := hP
  have hD : va_D A (gcW E G pl dr e0 e1 e2 Z0) := hD
  refine lv_if_ne (tgt := 9) hx hb dX5_back_4 (by decide) (fun c_2 => ?_) (fun c_2 => ?_)
  · have h := h.1 c_2
    refine lv_aload_n hx hb dX5_back_9 rfl (lv_at hl 0 rfl) ?_
    refine va_get (D := (E.1, E.2.1)) (ci := 5) (v := .ref (G 7 3)) (C := RX5) (T := TX5) (N := 8) hx hb ht wu_X5 hown hK hP 0 rfl rfl 3 (by decide) (ht _ wk_X5_27) (fun _ h9 => h9) rfl dX5_back_10 ?_
    refine lv_iload_n hx hb dX5_back_13 rfl (lv_at hl 1 rfl) ?_
    refine va_zald hx hb hK hP 27 1 rfl rfl h.1 dX5_back_14 ?_
    have h := h.2
    refine lv_if_ne (tgt := 21) hx hb dX5_back_15 (by decide) (fun c_3 => ?_) (fun c_3 => ?_)
    · have h := h.1 c_3
      refine lv_aload_n hx hb dX5_back_21 rfl (lv_at hl 0 rfl) ?_
      refine va_get (D := (E.1, E.2.1)) (ci := 5) (v := .ref (G 2 99)) (C := RX5) (T := TX5) (N := 8) hx hb ht wu_X5 hown hK hP 0 rfl rfl 1 (by decide) (ht _ wk_X5_19) (fun _ h9 => h9) rfl dX5_back_22 ?_
      refine lv_aload_n hx hb dX5_back_25 rfl (lv_at hl 0 rfl) ?_
      refine va_get (D := (E.1, E.2.1)) (ci := 5) (v := .ref (G 7 2)) (C := RX5) (T := TX5) (N := 8) hx hb ht wu_X5 hown hK hP 0 rfl rfl 2 (by decide) (ht _ wk_X5_23) (fun _ h9 => h9) rfl dX5_back_26 ?_
      refine lv_iload_n hx hb dX5_back_29 rfl (lv_at hl 1 rfl) ?_
      have hi_4 : vp_in x1 2 := h.1
      have h := h.2
      rcases vp_2 hi_4 with c | c
      · have h := h.1 c
        refine va_aldq hx hb hK hP 26 3 rfl rfl hi_4 dX5_back_30 ?_
        refine W.eq (g2 := F0 m 31 ls [.ref (G 8 99), .ref (G 2 99)]) (by rw [c]; rfl) ?_
        have p1 := gB (n := 15) (bs := [bGC G (pl 99) (dr 99) Z0.1, bText E (G 1) (Z0.2.1 1), bNow E (G 2) (G 3) e0 (Z0.2.1 2), bScene E (G 3) (Z0.2.1 3), bPlan E pl (Z0.2.1 4), bPlan E dr (Z0.2.1 5), bRumour E (G 6) (Z0.2.1 6), bIm E G (Z0.2.1 7), bNow E (G 8) (G 10) e1 (Z0.2.1 8), bNow E (G 9) (G 11) e2 (Z0.2.1 9), bScene E (G 10) (Z0.2.1 10), bScene E (G 11) (Z0.2.1 11), bPool E e0 (Z0.2.2 0), bPool E e1 (Z0.2.2 1), bPool E e2 (Z0.2.2 2)]) (bc := [bNow E (G 2) (G 3) e0 (Z0.2.1 2), bScene E (G 3) (Z0.2.1 3), bNow E (G 8) (G 10) e1 (Z0.2.1 8), bScene E (G 10) (Z0.2.1 10), bPool E e0 (Z0.2.2 0), bPool E e1 (Z0.2.2 1)]) (br := [bGC G (pl 99) (dr 99) Z0.1, bText E (G 1) (Z0.2.1 1), bPlan E pl (Z0.2.1 4), bPlan E dr (Z0.2.1 5), bRumour E (G 6) (Z0.2.1 6), bIm E G (Z0.2.1 7), bNow E (G 9) (G 11) e2 (Z0.2.1 9), bScene E (G 11) (Z0.2.1 11), bPool E e2 (Z0.2.2 2)]) [2, 3, 8, 10, 12, 13, 0, 1, 4, 5, 6, 7, 9, 11, 14] rfl rfl (by decide)
        refine g_v (g_runV (As := [.ref (G 8 99)]) (rest := []) ⟨hx, hb, hml, hown, ht⟩ hE (c_X0_copyFrom E l (G 2) (G 3) (G 8) (G 10) e0 e1 (Z0.2.1 2) (Z0.2.1 3) (Z0.2.1 8) (Z0.2.1 10) (Z0.2.2 0) (Z0.2.2 1) _ h) ⟨rfl, rfl⟩ wk_X5_229 wi_X0_copyFrom ws_X0_copyFrom wn_X0 wc_X0_copyFrom yd_X0_copyFrom ⟨Nat.le_of_ble_eq_true rfl, Nat.le_of_ble_eq_true rfl⟩ hP hD p1 (ci := 0) rfl rfl rfl rfl rfl hl.1 rfl (lv_room (Nat.le_of_ble_eq_true rfl)) dX5_back_31 ⟨Nat.zero_le _, Nat.zero_le _⟩) hP hD hS p1 (fun u w H locs h hw hP hD hS => ?_)
        obtain ⟨S_5, S_6, S_7, S_8, O_9, O_10⟩ := u
        subst hw
        clear p1
        have p2 := gB (n := 15) (bs := [bGC G (pl 99) (dr 99) Z0.1, bText E (G 1) (Z0.2.1 1), bNow E (G 2) (G 3) e0 S_5, bScene E (G 3) S_6, bPlan E pl (Z0.2.1 4), bPlan E dr (Z0.2.1 5), bRumour E (G 6) (Z0.2.1 6), bIm E G (Z0.2.1 7), bNow E (G 8) (G 10) e1 S_7, bNow E (G 9) (G 11) e2 (Z0.2.1 9), bScene E (G 10) S_8, bScene E (G 11) (Z0.2.1 11), bPool E e0 O_9, bPool E e1 O_10, bPool E e2 (Z0.2.2 2)]) (bc := [bNow E (G 2) (G 3) e0 S_5, bScene E (G 3) S_6, bNow E (G 8) (G 10) e1 S_7, bScene E (G 10) S_8, bPool E e0 O_9, bPool E e1 O_10]) (br := [bGC G (pl 99) (dr 99) Z0.1, bText E (G 1) (Z0.2.1 1), bPlan E pl (Z0.2.1 4), bPlan E dr (Z0.2.1 5), bRumour E (G 6) (Z0.2.1 6), bIm E G (Z0.2.1 7), bNow E (G 9) (G 11) e2 (Z0.2.1 9), bScene E (G 11) (Z0.2.1 11), bPool E e2 (Z0.2.2 2)]) [2, 3, 8, 10, 12, 13, 0, 1, 4, 5, 6, 7, 9, 11, 14] rfl rfl (by decide)
        have hP := gP_perm p2.symm hP
        have hD := gD_perm p2.symm hD
        clear p2
        obtain ⟨Z_11, eZ_11⟩ : ∃ z : GC, z = (gpo (gpo (gx (gx (gx (gx Z0 2 S_5) 3 S_6) 8 S_7) 10 S_8) 0 O_9) 1 O_10) := ⟨_, rfl⟩
        have h := h Z_11 eZ_11
        have hP : gP E (gcW E G pl dr e0 e1 e2 Z_11) H := by rw [eZ_11]; exact hP
        have hD : va_D A (gcW E G pl dr e0 e1 e2 Z_11) := by rw [eZ_11]; exact hD
        refine lv_aload_n hx hb dX5_back_34 rfl (lv_at hl 0 rfl) ?_
        refine va_get (D := (E.1, E.2.1)) (ci := 5) (v := .ref (G 2 99)) (C := RX5) (T := TX5) (N := 8) hx hb ht wu_X5 hown hK hP 0 rfl rfl 1 (by decide) (ht _ wk_X5_19) (fun _ h9 => h9) rfl dX5_back_35 ?_
        refine va_get (D := (E.1, E.2.1)) (ci := 0) (v := .ref ((G 3) 99)) (C := RX0) (T := TX0) (N := 3) hx hb ht wu_X0 hown hK hP 3 rfl rfl 0 (by decide) (ht _ wk_X5_75) (fun _ h9 => h9) rfl dX5_back_38 ?_
        have p1 := gB (n := 15) (bs := [bGC G (pl 99) (dr 99) Z_11.1, bText E (G 1) (Z_11.2.1 1), bNow E (G 2) (G 3) e0 (Z_11.2.1 2), bScene E (G 3) (Z_11.2.1 3), bPlan E pl (Z_11.2.1 4), bPlan E dr (Z_11.2.1 5), bRumour E (G 6) (Z_11.2.1 6), bIm E G (Z_11.2.1 7), bNow E (G 8) (G 10) e1 (Z_11.2.1 8), bNow E (G 9) (G 11) e2 (Z_11.2.1 9), bScene E (G 10) (Z_11.2.1 10), bScene E (G 11) (Z_11.2.1 11), bPool E e0 (Z_11.2.2 0), bPool E e1 (Z_11.2.2 1), bPool E e2 (Z_11.2.2 2)]) (bc := [bScene E (G 3) (Z_11.2.1 3)]) (br := [bGC G (pl 99) (dr 99) Z_11.1, bText E (G 1) (Z_11.2.1 1), bNow E (G 2) (G 3) e0 (Z_11.2.1 2), bPlan E pl (Z_11.2.1 4), bPlan E dr (Z_11.2.1 5), bRumour E (G 6) (Z_11.2.1 6), bIm E G (Z_11.2.1 7), bNow E (G 8) (G 10) e1 (Z_11.2.1 8), bNow E (G 9) (G 11) e2 (Z_11.2.1 9), bScene E (G 10) (Z_11.2.1 10), bScene E (G 11) (Z_11.2.1 11), bPool E e0 (Z_11.2.2 0), bPool E e1 (Z_11.2.2 1), bPool E e2 (Z_11.2.2 2)]) [3, 0, 1, 2, 4, 5, 6, 7, 8, 9, 10, 11, 12, 13, 14] rfl rfl (by decide)
        refine g_i (g_runV (As := []) (rest := []) ⟨hx, hb, hml, hown, ht⟩ hE (c_X3_ringSize E l (G 3) (Z_11.2.1 3) _ h) ⟨rfl, rfl⟩ wk_X5_133 wi_X3_ringSize ws_X3_ringSize wn_X3 wc_X3_ringSize yd_X3_ringSize ⟨Nat.le_of_ble_eq_true rfl, Nat.le_of_ble_eq_true rfl⟩ hP hD p1 (ci := 3) rfl rfl rfl rfl rfl hl.1 rfl (lv_room (Nat.le_of_ble_eq_true rfl)) dX5_back_41 ⟨Nat.zero_le _, Nat.zero_le _⟩) hP hD hS p1 (fun r_12 _ w H locs h hw hP hD hS => ?_)
        subst hw
        clear p1
        have p2 := gB (n := 15) (bs := [bGC G (pl 99) (dr 99) Z_11.1, bText E (G 1) (Z_11.2.1 1), bNow E (G 2) (G 3) e0 (Z_11.2.1 2), bScene E (G 3) (Z_11.2.1 3), bPlan E pl (Z_11.2.1 4), bPlan E dr (Z_11.2.1 5), bRumour E (G 6) (Z_11.2.1 6), bIm E G (Z_11.2.1 7), bNow E (G 8) (G 10) e1 (Z_11.2.1 8), bNow E (G 9) (G 11) e2 (Z_11.2.1 9), bScene E (G 10) (Z_11.2.1 10), bScene E (G 11) (Z_11.2.1 11), bPool E e0 (Z_11.2.2 0), bPool E e1 (Z_11.2.2 1), bPool E e2 (Z_11.2.2 2)]) (bc := [bScene E (G 3) (Z_11.2.1 3)]) (br := [bGC G (pl 99) (dr 99) Z_11.1, bText E (G 1) (Z_11.2.1 1), bNow E (G 2) (G 3) e0 (Z_11.2.1 2), bPlan E pl (Z_11.2.1 4), bPlan E dr (Z_11.2.1 5), bRumour E (G 6) (Z_11.2.1 6), bIm E G (Z_11.2.1 7), bNow E (G 8) (G 10) e1 (Z_11.2.1 8), bNow E (G 9) (G 11) e2 (Z_11.2.1 9), bScene E (G 10) (Z_11.2.1 10), bScene E (G 11) (Z_11.2.1 11), bPool E e0 (Z_11.2.2 0), bPool E e1 (Z_11.2.2 1), bPool E e2 (Z_11.2.2 2)]) [3, 0, 1, 2, 4, 5, 6, 7, 8, 9, 10, 11, 12, 13, 14] rfl rfl (by decide)
        have hP := gP_perm p2.symm hP
        have hD := gD_perm p2.symm hD
        clear p2
        have hP : gP E (gcW E G pl dr e0 e1 e2 Z_11) H := hP
        have hD : va_D A (gcW E G pl dr e0 e1 e2 Z_11) := hD
        exact hret r_12 Z_11 _ _ _ _ _ h rfl hP hD hS dX5_back_44
      · have h := h.2 c
        refine va_aldq hx hb hK hP 26 3 rfl rfl hi_4 dX5_back_30 ?_
        refine W.eq (g2 := F0 m 31 ls [.ref (G 9 99), .ref (G 2 99)]) (by rw [c]; rfl) ?_
        have p1 := gB (n := 15) (bs := [bGC G (pl 99) (dr 99) Z0.1, bText E (G 1) (Z0.2.1 1), bNow E (G 2) (G 3) e0 (Z0.2.1 2), bScene E (G 3) (Z0.2.1 3), bPlan E pl (Z0.2.1 4), bPlan E dr (Z0.2.1 5), bRumour E (G 6) (Z0.2.1 6), bIm E G (Z0.2.1 7), bNow E (G 8) (G 10) e1 (Z0.2.1 8), bNow E (G 9) (G 11) e2 (Z0.2.1 9), bScene E (G 10) (Z0.2.1 10), bScene E (G 11) (Z0.2.1 11), bPool E e0 (Z0.2.2 0), bPool E e1 (Z0.2.2 1), bPool E e2 (Z0.2.2 2)]) (bc := [bNow E (G 2) (G 3) e0 (Z0.2.1 2), bScene E (G 3) (Z0.2.1 3), bNow E (G 9) (G 11) e2 (Z0.2.1 9), bScene E (G 11) (Z0.2.1 11), bPool E e0 (Z0.2.2 0), bPool E e2 (Z0.2.2 2)]) (br := [bGC G (pl 99) (dr 99) Z0.1, bText E (G 1) (Z0.2.1 1), bPlan E pl (Z0.2.1 4), bPlan E dr (Z0.2.1 5), bRumour E (G 6) (Z0.2.1 6), bIm E G (Z0.2.1 7), bNow E (G 8) (G 10) e1 (Z0.2.1 8), bScene E (G 10) (Z0.2.1 10), bPool E e1 (Z0.2.2 1)]) [2, 3, 9, 11, 12, 14, 0, 1, 4, 5, 6, 7, 8, 10, 13] rfl rfl (by decide)
        refine g_v (g_runV (As := [.ref (G 9 99)]) (rest := []) ⟨hx, hb, hml, hown, ht⟩ hE (c_X0_copyFrom E l (G 2) (G 3) (G 9) (G 11) e0 e2 (Z0.2.1 2) (Z0.2.1 3) (Z0.2.1 9) (Z0.2.1 11) (Z0.2.2 0) (Z0.2.2 2) _ h) ⟨rfl, rfl⟩ wk_X5_229 wi_X0_copyFrom ws_X0_copyFrom wn_X0 wc_X0_copyFrom yd_X0_copyFrom ⟨Nat.le_of_ble_eq_true rfl, Nat.le_of_ble_eq_true rfl⟩ hP hD p1 (ci := 0) rfl rfl rfl rfl rfl hl.1 rfl (lv_room (Nat.le_of_ble_eq_true rfl)) dX5_back_31 ⟨Nat.zero_le _, Nat.zero_le _⟩) hP hD hS p1 (fun u w H locs h hw hP hD hS => ?_)
        obtain ⟨S_13, S_14, S_15, S_16, O_17, O_18⟩ := u
        subst hw
        clear p1
        have p2 := gB (n := 15) (bs := [bGC G (pl 99) (dr 99) Z0.1, bText E (G 1) (Z0.2.1 1), bNow E (G 2) (G 3) e0 S_13, bScene E (G 3) S_14, bPlan E pl (Z0.2.1 4), bPlan E dr (Z0.2.1 5), bRumour E (G 6) (Z0.2.1 6), bIm E G (Z0.2.1 7), bNow E (G 8) (G 10) e1 (Z0.2.1 8), bNow E (G 9) (G 11) e2 S_15, bScene E (G 10) (Z0.2.1 10), bScene E (G 11) S_16, bPool E e0 O_17, bPool E e1 (Z0.2.2 1), bPool E e2 O_18]) (bc := [bNow E (G 2) (G 3) e0 S_13, bScene E (G 3) S_14, bNow E (G 9) (G 11) e2 S_15, bScene E (G 11) S_16, bPool E e0 O_17, bPool E e2 O_18]) (br := [bGC G (pl 99) (dr 99) Z0.1, bText E (G 1) (Z0.2.1 1), bPlan E pl (Z0.2.1 4), bPlan E dr (Z0.2.1 5), bRumour E (G 6) (Z0.2.1 6), bIm E G (Z0.2.1 7), bNow E (G 8) (G 10) e1 (Z0.2.1 8), bScene E (G 10) (Z0.2.1 10), bPool E e1 (Z0.2.2 1)]) [2, 3, 9, 11, 12, 14, 0, 1, 4, 5, 6, 7, 8, 10, 13] rfl rfl (by decide)
        have hP := gP_perm p2.symm hP
        have hD := gD_perm p2.symm hD
        clear p2
        obtain ⟨Z_19, eZ_19⟩ : ∃ z : GC, z = (gpo (gpo (gx (gx (gx (gx Z0 2 S_13) 3 S_14) 9 S_15) 11 S_16) 0 O_17) 2 O_18) := ⟨_, rfl⟩
        have h := h Z_19 eZ_19
        have hP : gP E (gcW E G pl dr e0 e1 e2 Z_19) H := by rw [eZ_19]; exact hP
        have hD : va_D A (gcW E G pl dr e0 e1 e2 Z_19) := by rw [eZ_19]; exact hD
        refine lv_aload_n hx hb dX5_back_34 rfl (lv_at hl 0 rfl) ?_
        refine va_get (D := (E.1, E.2.1)) (ci := 5) (v := .ref (G 2 99)) (C := RX5) (T := TX5) (N := 8) hx hb ht wu_X5 hown hK hP 0 rfl rfl 1 (by decide) (ht _ wk_X5_19) (fun _ h9 => h9) rfl dX5_back_35 ?_
        refine va_get (D := (E.1, E.2.1)) (ci := 0) (v := .ref ((G 3) 99)) (C := RX0) (T := TX0) (N := 3) hx hb ht wu_X0 hown hK hP 3 rfl rfl 0 (by decide) (ht _ wk_X5_75) (fun _ h9 => h9) rfl dX5_back_38 ?_
        have p1 := gB (n := 15) (bs := [bGC G (pl 99) (dr 99) Z_19.1, bText E (G 1) (Z_19.2.1 1), bNow E (G 2) (G 3) e0 (Z_19.2.1 2), bScene E (G 3) (Z_19.2.1 3), bPlan E pl (Z_19.2.1 4), bPlan E dr (Z_19.2.1 5), bRumour E (G 6) (Z_19.2.1 6), bIm E G (Z_19.2.1 7), bNow E (G 8) (G 10) e1 (Z_19.2.1 8), bNow E (G 9) (G 11) e2 (Z_19.2.1 9), bScene E (G 10) (Z_19.2.1 10), bScene E (G 11) (Z_19.2.1 11), bPool E e0 (Z_19.2.2 0), bPool E e1 (Z_19.2.2 1), bPool E e2 (Z_19.2.2 2)]) (bc := [bScene E (G 3) (Z_19.2.1 3)]) (br := [bGC G (pl 99) (dr 99) Z_19.1, bText E (G 1) (Z_19.2.1 1), bNow E (G 2) (G 3) e0 (Z_19.2.1 2), bPlan E pl (Z_19.2.1 4), bPlan E dr (Z_19.2.1 5), bRumour E (G 6) (Z_19.2.1 6), bIm E G (Z_19.2.1 7), bNow E (G 8) (G 10) e1 (Z_19.2.1 8), bNow E (G 9) (G 11) e2 (Z_19.2.1 9), bScene E (G 10) (Z_19.2.1 10), bScene E (G 11) (Z_19.2.1 11), bPool E e0 (Z_19.2.2 0), bPool E e1 (Z_19.2.2 1), bPool E e2 (Z_19.2.2 2)]) [3, 0, 1, 2, 4, 5, 6, 7, 8, 9, 10, 11, 12, 13, 14] rfl rfl (by decide)
        refine g_i (g_runV (As := []) (rest := []) ⟨hx, hb, hml, hown, ht⟩ hE (c_X3_ringSize E l (G 3) (Z_19.2.1 3) _ h) ⟨rfl, rfl⟩ wk_X5_133 wi_X3_ringSize ws_X3_ringSize wn_X3 wc_X3_ringSize yd_X3_ringSize ⟨Nat.le_of_ble_eq_true rfl, Nat.le_of_ble_eq_true rfl⟩ hP hD p1 (ci := 3) rfl rfl rfl rfl rfl hl.1 rfl (lv_room (Nat.le_of_ble_eq_true rfl)) dX5_back_41 ⟨Nat.zero_le _, Nat.zero_le _⟩) hP hD hS p1 (fun r_20 _ w H locs h hw hP hD hS => ?_)
        subst hw
        clear p1
        have p2 := gB (n := 15) (bs := [bGC G (pl 99) (dr 99) Z_19.1, bText E (G 1) (Z_19.2.1 1), bNow E (G 2) (G 3) e0 (Z_19.2.1 2), bScene E (G 3) (Z_19.2.1 3), bPlan E pl (Z_19.2.1 4), bPlan E dr (Z_19.2.1 5), bRumour E (G 6) (Z_19.2.1 6), bIm E G (Z_19.2.1 7), bNow E (G 8) (G 10) e1 (Z_19.2.1 8), bNow E (G 9) (G 11) e2 (Z_19.2.1 9), bScene E (G 10) (Z_19.2.1 10), bScene E (G 11) (Z_19.2.1 11), bPool E e0 (Z_19.2.2 0), bPool E e1 (Z_19.2.2 1), bPool E e2 (Z_19.2.2 2)]) (bc := [bScene E (G 3) (Z_19.2.1 3)]) (br := [bGC G (pl 99) (dr 99) Z_19.1, bText E (G 1) (Z_19.2.1 1), bNow E (G 2) (G 3) e0 (Z_19.2.1 2), bPlan E pl (Z_19.2.1 4), bPlan E dr (Z_19.2.1 5), bRumour E (G 6) (Z_19.2.1 6), bIm E G (Z_19.2.1 7), bNow E (G 8) (G 10) e1 (Z_19.2.1 8), bNow E (G 9) (G 11) e2 (Z_19.2.1 9), bScene E (G 10) (Z_19.2.1 10), bScene E (G 11) (Z_19.2.1 11), bPool E e0 (Z_19.2.2 0), bPool E e1 (Z_19.2.2 1), bPool E e2 (Z_19.2.2 2)]) [3, 0, 1, 2, 4, 5, 6, 7, 8, 9, 10, 11, 12, 13, 14] rfl rfl (by decide)
        have hP := gP_perm p2.symm hP
        have hD := gD_perm p2.symm hD
        clear p2
        have hP : gP E (gcW E G pl dr e0 e1 e2 Z_19) H := hP
        have hD : va_D A (gcW E G pl dr e0 e1 e2 Z_19) := hD
        exact hret r_20 Z_19 _ _ _ _ _ h rfl hP hD hS dX5_back_44
    · have h := h.2 c_3
      refine lv_bipush (v := (-2)) hx hb dX5_back_18 (by decide) ?_
      exact hret (-2) Z0 _ _ _ _ _ h rfl hP hD hS dX5_back_20
  · have h := h.2 c_2
    refine lv_iconst (v := (-1)) hx hb dX5_back_7 (by decide) ?_
    exact hret (-1) Z0 _ _ _ _ _ h rfl hP hD hS dX5_back_8
theorem dX5_count_0 : decode cX5_count 0 = .ok (.iload_n 1, 1) := by decide +kernel
theorem dX5_count_1 : decode cX5_count 1 = .ok (.tableswitch 75 0 4 #[35, 43, 51, 59, 67], 35) := by decide +kernel
theorem dX5_count_36 : decode cX5_count 36 = .ok (.aload_n 0, 1) := by decide +kernel
theorem dX5_count_37 : decode cX5_count 37 = .ok (.getfield 41, 3) := by decide +kernel
theorem dX5_count_40 : decode cX5_count 40 = .ok (.getfield 233, 3) := by decide +kernel
theorem dX5_count_43 : decode cX5_count 43 = .ok (.ireturn, 1) := by decide +kernel
theorem dX5_count_44 : decode cX5_count 44 = .ok (.aload_n 0, 1) := by decide +kernel
theorem dX5_count_45 : decode cX5_count 45 = .ok (.getfield 41, 3) := by decide +kernel
theorem dX5_count_48 : decode cX5_count 48 = .ok (.getfield 236, 3) := by decide +kernel
theorem dX5_count_51 : decode cX5_count 51 = .ok (.ireturn, 1) := by decide +kernel
theorem dX5_count_52 : decode cX5_count 52 = .ok (.aload_n 0, 1) := by decide +kernel
theorem dX5_count_53 : decode cX5_count 53 = .ok (.getfield 34, 3) := by decide +kernel
theorem dX5_count_56 : decode cX5_count 56 = .ok (.getfield 191, 3) := by decide +kernel
theorem dX5_count_59 : decode cX5_count 59 = .ok (.ireturn, 1) := by decide +kernel
theorem dX5_count_60 : decode cX5_count 60 = .ok (.aload_n 0, 1) := by decide +kernel
theorem dX5_count_61 : decode cX5_count 61 = .ok (.getfield 19, 3) := by decide +kernel
theorem dX5_count_64 : decode cX5_count 64 = .ok (.getfield 159, 3) := by decide +kernel
theorem dX5_count_67 : decode cX5_count 67 = .ok (.ireturn, 1) := by decide +kernel
theorem dX5_count_68 : decode cX5_count 68 = .ok (.aload_n 0, 1) := by decide +kernel
theorem dX5_count_69 : decode cX5_count 69 = .ok (.getfield 10, 3) := by decide +kernel
theorem dX5_count_72 : decode cX5_count 72 = .ok (.getfield 239, 3) := by decide +kernel
theorem dX5_count_75 : decode cX5_count 75 = .ok (.ireturn, 1) := by decide +kernel
theorem dX5_count_76 : decode cX5_count 76 = .ok (.iconst (-1), 1) := by decide +kernel
theorem dX5_count_77 : decode cX5_count 77 = .ok (.ireturn, 1) := by decide +kernel
set_option maxHeartbeats 4000000 in
set_option maxRecDepth 100000 in
theorem c_X5_count (E : GE) (l : Launch) (G : Nat → Nat → Nat) (pl dr : Nat → Nat) (e0 e1 e2 : Nat → Nat → Nat) (Z0 : GC) (x1 : Int32) (post : Int32 → Prop) (h : wp_X5_count Z0 x1 post) : Met l yX5_count (wz yX5_count cX5_count 2 (some .int)) { frames := 0, cells := 0, slots := 0, locals := 0 } (gPc E [.ref (G 0 99), .int x1] (gcW E G pl dr e0 e1 e2 Z0)) (gQi E (gcW E G pl dr e0 e1 e2 Z0) (fun r (_ : Unit) => post r) (fun (_ : Unit) w => w = gcW E G pl dr e0 e1 e2 Z0)) 0 0 (gIn (gcW E G pl dr e0 e1 e2 Z0)) := by
  unfold wp_X5_count at h
  refine g_of_i (by decide) (Nat.le_of_ble_eq_true rfl) ?_
  intro p e s m below meth c A Q hx hb hml hown ht hE hP hD hret ls hl
  have hK := hE.1
  have hS : va_S A s.heap s.heap [] := va_S.rf
  have hl : lv_has ls 2 [(0, .ref (G 0 99)), (1, .int x1)] := hl
  refine lv_iload_n hx hb dX5_count_0 rfl (lv_at hl 1 rfl) ?_
  rcases sw_0_4 x1 with c | c | c | c | c | c
  · have h := h.1 c
    refine lv_asi c ?_
    refine lv_tableIn (off := 35) (tgt := 36) hx hb dX5_count_1 (by decide) (by decide) rfl (by decide) ?_
    refine lv_aload_n hx hb dX5_count_36 rfl (lv_at hl 0 rfl) ?_
    refine va_get (D := (E.1, E.2.1)) (ci := 5) (v := .ref (pl 99)) (C := RX5) (T := TX5) (N := 8) hx hb ht wu_X5 hown hK hP 0 rfl rfl 5 (by decide) (ht _ wk_X5_41) (fun _ h9 => h9) rfl dX5_count_37 ?_
    refine va_get (D := (E.1, E.2.1)) (ci := 1) (v := .int ((Z0.2.1 4).1 3)) (C := RX1) (T := TX1) (N := 5) hx hb ht wu_X1 hown hK hP 10 rfl rfl 3 (by decide) (ht _ wk_X5_233) (fun _ h9 => h9) rfl dX5_count_40 ?_
    exact hret ((Z0.2.1 4).1 3) () _ _ _ _ _ h rfl hP hD hS dX5_count_43
  · have h := h.2.1 c
    refine lv_asi c ?_
    refine lv_tableIn (off := 43) (tgt := 44) hx hb dX5_count_1 (by decide) (by decide) rfl (by decide) ?_
    refine lv_aload_n hx hb dX5_count_44 rfl (lv_at hl 0 rfl) ?_
    refine va_get (D := (E.1, E.2.1)) (ci := 5) (v := .ref (pl 99)) (C := RX5) (T := TX5) (N := 8) hx hb ht wu_X5 hown hK hP 0 rfl rfl 5 (by decide) (ht _ wk_X5_41) (fun _ h9 => h9) rfl dX5_count_45 ?_
    refine va_get (D := (E.1, E.2.1)) (ci := 1) (v := .int ((Z0.2.1 4).1 4)) (C := RX1) (T := TX1) (N := 5) hx hb ht wu_X1 hown hK hP 10 rfl rfl 4 (by decide) (ht _ wk_X5_236) (fun _ h9 => h9) rfl dX5_count_48 ?_
    exact hret ((Z0.2.1 4).1 4) () _ _ _ _ _ h rfl hP hD hS dX5_count_51
  · have h := h.2.2.1 c
    refine lv_asi c ?_
    refine lv_tableIn (off := 51) (tgt := 52) hx hb dX5_count_1 (by decide) (by decide) rfl (by decide) ?_
    refine lv_aload_n hx hb dX5_count_52 rfl (lv_at hl 0 rfl) ?_
    refine va_get (D := (E.1, E.2.1)) (ci := 5) (v := .ref (G 6 99)) (C := RX5) (T := TX5) (N := 8) hx hb ht wu_X5 hown hK hP 0 rfl rfl 4 (by decide) (ht _ wk_X5_34) (fun _ h9 => h9) rfl dX5_count_53 ?_
    refine va_get (D := (E.1, E.2.1)) (ci := 2) (v := .int ((Z0.2.1 6).1 2)) (C := RX2) (T := TX2) (N := 9) hx hb ht wu_X2 hown hK hP 18 rfl rfl 2 (by decide) (ht _ wk_X5_191) (fun _ h9 => h9) rfl dX5_count_56 ?_
    exact hret ((Z0.2.1 6).1 2) () _ _ _ _ _ h rfl hP hD hS dX5_count_59
  · have h := h.2.2.2.1 c
    refine lv_asi c ?_
    refine lv_tableIn (off := 59) (tgt := 60) hx hb dX5_count_1 (by decide) (by decide) rfl (by decide) ?_
    refine lv_aload_n hx hb dX5_count_60 rfl (lv_at hl 0 rfl) ?_
    refine va_get (D := (E.1, E.2.1)) (ci := 5) (v := .ref (G 2 99)) (C := RX5) (T := TX5) (N := 8) hx hb ht wu_X5 hown hK hP 0 rfl rfl 1 (by decide) (ht _ wk_X5_19) (fun _ h9 => h9) rfl dX5_count_61 ?_
    refine va_get (D := (E.1, E.2.1)) (ci := 0) (v := .int ((Z0.2.1 2).1 2)) (C := RX0) (T := TX0) (N := 3) hx hb ht wu_X0 hown hK hP 3 rfl rfl 2 (by decide) (ht _ wk_X5_159) (fun _ h9 => h9) rfl dX5_count_64 ?_
    exact hret ((Z0.2.1 2).1 2) () _ _ _ _ _ h rfl hP hD hS dX5_count_67
  · have h := h.2.2.2.2.1 c
    refine lv_asi c ?_
    refine lv_tableIn (off := 67) (tgt := 68) hx hb dX5_count_1 (by decide) (by decide) rfl (by decide) ?_
    refine lv_aload_n hx hb dX5_count_68 rfl (lv_at hl 0 rfl) ?_
    refine va_get (D := (E.1, E.2.1)) (ci := 5) (v := .ref (G 1 99)) (C := RX5) (T := TX5) (N := 8) hx hb ht wu_X5 hown hK hP 0 rfl rfl 0 (by decide) (ht _ wk_X5_10) (fun _ h9 => h9) rfl dX5_count_69 ?_
    refine va_get (D := (E.1, E.2.1)) (ci := 4) (v := .int ((Z0.2.1 1).1 1)) (C := RX4) (T := TX4) (N := 6) hx hb ht wu_X4 hown hK hP 1 rfl rfl 1 (by decide) (ht _ wk_X5_239) (fun _ h9 => h9) rfl dX5_count_72 ?_
    exact hret ((Z0.2.1 1).1 1) () _ _ _ _ _ h rfl hP hD hS dX5_count_75
  · have h := h.2.2.2.2.2 c
    refine lv_tableOut (tgt := 76) hx hb dX5_count_1 c (by decide) ?_
    refine lv_iconst (v := (-1)) hx hb dX5_count_76 (by decide) ?_
    exact hret (-1) () _ _ _ _ _ h rfl hP hD hS dX5_count_77
theorem dX5_trace_0 : decode cX5_trace 0 = .ok (.aload_n 0, 1) := by decide +kernel
theorem dX5_trace_1 : decode cX5_trace 1 = .ok (.getfield 48, 3) := by decide +kernel
theorem dX5_trace_4 : decode cX5_trace 4 = .ok (.lreturn, 1) := by decide +kernel
set_option maxHeartbeats 4000000 in
set_option maxRecDepth 100000 in
theorem c_X5_trace (E : GE) (l : Launch) (G : Nat → Nat → Nat) (pl dr : Nat → Nat) (e0 e1 e2 : Nat → Nat → Nat) (Z0 : GC) (post : Int64 → Prop) (h : wp_X5_trace Z0 post) : Met l yX5_trace (wz yX5_trace cX5_trace 1 (some .long)) { frames := 0, cells := 0, slots := 0, locals := 0 } (gPc E [.ref (G 0 99)] (gcW E G pl dr e0 e1 e2 Z0)) (gQl E (gcW E G pl dr e0 e1 e2 Z0) (fun r (_ : Unit) => post r) (fun (_ : Unit) w => w = gcW E G pl dr e0 e1 e2 Z0)) 0 0 (gIn (gcW E G pl dr e0 e1 e2 Z0)) := by
  unfold wp_X5_trace at h
  refine g_of_l (by decide) (Nat.le_of_ble_eq_true rfl) ?_
  intro p e s m below meth c A Q hx hb hml hown ht hE hP hD hret ls hl
  have hK := hE.1
  have hS : va_S A s.heap s.heap [] := va_S.rf
  have hl : lv_has ls 1 [(0, .ref (G 0 99))] := hl
  refine lv_aload_n hx hb dX5_trace_0 rfl (lv_at hl 0 rfl) ?_
  refine va_get (D := (E.1, E.2.1)) (ci := 5) (v := .long (Z0.1)) (C := RX5) (T := TX5) (N := 8) hx hb ht wu_X5 hown hK hP 0 rfl rfl 7 (by decide) (ht _ wk_X5_48) (fun _ h9 => h9) rfl dX5_trace_1 ?_
  exact hret (Z0.1) () _ _ _ _ _ h rfl hP hD hS dX5_trace_4
