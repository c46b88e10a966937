theorem sw_0_3 (x : Int32) : x = 0 ∨ x = 1 ∨ x = 2 ∨ x = 3 ∨ (x.toInt < 0 ∨ 3 < x.toInt) := by
  by_cases h0 : x = 0
  · exact Or.inl h0
  by_cases h1 : x = 1
  · exact Or.inr (Or.inl h1)
  by_cases h2 : x = 2
  · exact Or.inr (Or.inr (Or.inl h2))
  by_cases h3 : x = 3
  · exact Or.inr (Or.inr (Or.inr (Or.inl h3)))
  refine Or.inr (Or.inr (Or.inr (Or.inr (?_))))
  have g0 : x.toInt ≠ 0 := fun e => h0 (Int32.toInt_inj.mp (e.trans (by decide)))
  have g1 : x.toInt ≠ 1 := fun e => h1 (Int32.toInt_inj.mp (e.trans (by decide)))
  have g2 : x.toInt ≠ 2 := fun e => h2 (Int32.toInt_inj.mp (e.trans (by decide)))
  have g3 : x.toInt ≠ 3 := fun e => h3 (Int32.toInt_inj.mp (e.trans (by decide)))
  omega
theorem sw_0_4 (x : Int32) : x = 0 ∨ x = 1 ∨ x = 2 ∨ x = 3 ∨ x = 4 ∨ (x.toInt < 0 ∨ 4 < x.toInt) := by
  by_cases h0 : x = 0
  · exact Or.inl h0
  by_cases h1 : x = 1
  · exact Or.inr (Or.inl h1)
  by_cases h2 : x = 2
  · exact Or.inr (Or.inr (Or.inl h2))
  by_cases h3 : x = 3
  · exact Or.inr (Or.inr (Or.inr (Or.inl h3)))
  by_cases h4 : x = 4
  · exact Or.inr (Or.inr (Or.inr (Or.inr (Or.inl h4))))
  refine Or.inr (Or.inr (Or.inr (Or.inr (Or.inr (?_)))))
  have g0 : x.toInt ≠ 0 := fun e => h0 (Int32.toInt_inj.mp (e.trans (by decide)))
  have g1 : x.toInt ≠ 1 := fun e => h1 (Int32.toInt_inj.mp (e.trans (by decide)))
  have g2 : x.toInt ≠ 2 := fun e => h2 (Int32.toInt_inj.mp (e.trans (by decide)))
  have g3 : x.toInt ≠ 3 := fun e => h3 (Int32.toInt_inj.mp (e.trans (by decide)))
  have g4 : x.toInt ≠ 4 := fun e => h4 (Int32.toInt_inj.mp (e.trans (by decide)))
  omega
theorem sw_0_5 (x : Int32) : x = 0 ∨ x = 1 ∨ x = 2 ∨ x = 3 ∨ x = 4 ∨ x = 5 ∨ (x.toInt < 0 ∨ 5 < x.toInt) := by
  by_cases h0 : x = 0
  · exact Or.inl h0
  by_cases h1 : x = 1
  · exact Or.inr (Or.inl h1)
  by_cases h2 : x = 2
  · exact Or.inr (Or.inr (Or.inl h2))
  by_cases h3 : x = 3
  · exact Or.inr (Or.inr (Or.inr (Or.inl h3)))
  by_cases h4 : x = 4
  · exact Or.inr (Or.inr (Or.inr (Or.inr (Or.inl h4))))
  by_cases h5 : x = 5
  · exact Or.inr (Or.inr (Or.inr (Or.inr (Or.inr (Or.inl h5)))))
  refine Or.inr (Or.inr (Or.inr (Or.inr (Or.inr (Or.inr (?_))))))
  have g0 : x.toInt ≠ 0 := fun e => h0 (Int32.toInt_inj.mp (e.trans (by decide)))
  have g1 : x.toInt ≠ 1 := fun e => h1 (Int32.toInt_inj.mp (e.trans (by decide)))
  have g2 : x.toInt ≠ 2 := fun e => h2 (Int32.toInt_inj.mp (e.trans (by decide)))
  have g3 : x.toInt ≠ 3 := fun e => h3 (Int32.toInt_inj.mp (e.trans (by decide)))
  have g4 : x.toInt ≠ 4 := fun e => h4 (Int32.toInt_inj.mp (e.trans (by decide)))
  have g5 : x.toInt ≠ 5 := fun e => h5 (Int32.toInt_inj.mp (e.trans (by decide)))
  omega
theorem sw_102_110 (x : Int32) : x = 102 ∨ x = 103 ∨ x = 104 ∨ x = 105 ∨ x = 106 ∨ x = 107 ∨ x = 108 ∨ x = 109 ∨ x = 110 ∨ (x.toInt < 102 ∨ 110 < x.toInt) := by
  by_cases h102 : x = 102
  · exact Or.inl h102
  by_cases h103 : x = 103
  · exact Or.inr (Or.inl h103)
  by_cases h104 : x = 104
  · exact Or.inr (Or.inr (Or.inl h104))
  by_cases h105 : x = 105
  · exact Or.inr (Or.inr (Or.inr (Or.inl h105)))
  by_cases h106 : x = 106
  · exact Or.inr (Or.inr (Or.inr (Or.inr (Or.inl h106))))
  by_cases h107 : x = 107
  · exact Or.inr (Or.inr (Or.inr (Or.inr (Or.inr (Or.inl h107)))))
  by_cases h108 : x = 108
  · exact Or.inr (Or.inr (Or.inr (Or.inr (Or.inr (Or.inr (Or.inl h108))))))
  by_cases h109 : x = 109
  · exact Or.inr (Or.inr (Or.inr (Or.inr (Or.inr (Or.inr (Or.inr (Or.inl h109)))))))
  by_cases h110 : x = 110
  · exact Or.inr (Or.inr (Or.inr (Or.inr (Or.inr (Or.inr (Or.inr (Or.inr (Or.inl h110))))))))
  refine Or.inr (Or.inr (Or.inr (Or.inr (Or.inr (Or.inr (Or.inr (Or.inr (Or.inr (?_)))))))))
  have g102 : x.toInt ≠ 102 := fun e => h102 (Int32.toInt_inj.mp (e.trans (by decide)))
  have g103 : x.toInt ≠ 103 := fun e => h103 (Int32.toInt_inj.mp (e.trans (by decide)))
  have g104 : x.toInt ≠ 104 := fun e => h104 (Int32.toInt_inj.mp (e.trans (by decide)))
  have g105 : x.toInt ≠ 105 := fun e => h105 (Int32.toInt_inj.mp (e.trans (by decide)))
  have g106 : x.toInt ≠ 106 := fun e => h106 (Int32.toInt_inj.mp (e.trans (by decide)))
  have g107 : x.toInt ≠ 107 := fun e => h107 (Int32.toInt_inj.mp (e.trans (by decide)))
  have g108 : x.toInt ≠ 108 := fun e => h108 (Int32.toInt_inj.mp (e.trans (by decide)))
  have g109 : x.toInt ≠ 109 := fun e => h109 (Int32.toInt_inj.mp (e.trans (by decide)))
  have g110 : x.toInt ≠ 110 := fun e => h110 (Int32.toInt_inj.mp (e.trans (by decide)))
  omega
theorem dJ7_fill_53178_0 : decode cJ7_fill_53178 0 = .ok (.iconst 0, 1) := by decide +kernel
theorem dJ7_fill_53178_1 : decode cJ7_fill_53178 1 = .ok (.istore_n 2, 1) := by decide +kernel
theorem dJ7_fill_53178_2 : decode cJ7_fill_53178 2 = .ok (.aload_n 0, 1) := by decide +kernel
theorem dJ7_fill_53178_3 : decode cJ7_fill_53178 3 = .ok (.arraylength, 1) := by decide +kernel
theorem dJ7_fill_53178_4 : decode cJ7_fill_53178 4 = .ok (.istore_n 3, 1) := by decide +kernel
theorem dJ7_fill_53178_5 : decode cJ7_fill_53178 5 = .ok (.iload_n 2, 1) := by decide +kernel
theorem dJ7_fill_53178_6 : decode cJ7_fill_53178 6 = .ok (.iload_n 3, 1) := by decide +kernel
theorem dJ7_fill_53178_7 : decode cJ7_fill_53178 7 = .ok (.if_icmp .ge 13, 3) := by decide +kernel
theorem dJ7_fill_53178_10 : decode cJ7_fill_53178 10 = .ok (.aload_n 0, 1) := by decide +kernel
theorem dJ7_fill_53178_11 : decode cJ7_fill_53178 11 = .ok (.iload_n 2, 1) := by decide +kernel
theorem dJ7_fill_53178_12 : decode cJ7_fill_53178 12 = .ok (.iload_n 1, 1) := by decide +kernel
theorem dJ7_fill_53178_13 : decode cJ7_fill_53178 13 = .ok (.iastore, 1) := by decide +kernel
theorem dJ7_fill_53178_14 : decode cJ7_fill_53178 14 = .ok (.iinc 2 1, 3) := by decide +kernel
theorem dJ7_fill_53178_17 : decode cJ7_fill_53178 17 = .ok (.goto (-12), 3) := by decide +kernel
theorem dJ7_fill_53178_20 : decode cJ7_fill_53178 20 = .ok (.return_, 1) := by decide +kernel
set_option maxHeartbeats 4000000 in
set_option maxRecDepth 100000 in
theorem c_J7_fill_53178 (E : GE) (l : Launch) (q n : Nat) (hn : n < 2 ^ 31) (f : Nat → Int32) (v : Int32) : Met l yJ7_fill_53178 (wz yJ7_fill_53178 cJ7_fill_53178 4 none) { frames := 0, cells := 0, slots := 0, locals := 0 } (gPc E [.ref q, .int v] [bInt E q n f]) (gQv E [bInt E q n f] (fun (_ : Unit) => True) (fun _ w => w = [bInt E q n (afill n f v)])) 0 0 (gIn [bInt E q n f]) := by
  refine g_of_v (by decide) (Nat.le_of_ble_eq_true rfl) ?_
  intro p e s m below meth c A Q hx hb hml hown ht hE hP hD hret ls hl
  have hK := hE.1
  have hS : va_S A s.heap s.heap [] := va_S.rf
  have hl : lv_has ls 4 [(0, .ref q), (1, .int v)] := hl
  have L5 : ∀ (k i : Nat) (H : Heap) (locs : List Loc) (ls : Array Slot), i + k = n → gP E [bInt E q n (afill i f v)] H → va_D A [bInt E q n (afill i f v)] → va_S A s.heap H locs → lv_has ls 4 [(0, .ref q), (1, .int v), (2, .int (nI i)), (3, .int (nI n))] → W p l e { frames := 0, cells := 0, slots := 0, locals := 0 } s m ([.ref q, .int v] : List Value).toArray below meth c H locs 0 0 Q (F0 m 5 ls []) := by
    intro k
    induction k with
    | zero =>
      intro i H locs ls hi hP hD hS hl
      have hi : i = n := by omega
      subst hi
      refine lv_iload_n hx hb dJ7_fill_53178_5 rfl (lv_at hl 2 rfl) ?_
      refine lv_iload_n hx hb dJ7_fill_53178_6 rfl (lv_at hl 3 rfl) ?_
      refine lv_icmp_ge (tgt := 20) hx hb dJ7_fill_53178_7 (by decide) (fun c1 => ?_) (fun c1 => ?_)
      · exact hret () _ _ _ _ _ trivial rfl hP hD hS dJ7_fill_53178_20
      · exact absurd (nI_le (Nat.le_refl _) hn) c1
    | succ k ih =>
      intro i H locs ls hi hP hD hS hl
      refine lv_iload_n hx hb dJ7_fill_53178_5 rfl (lv_at hl 2 rfl) ?_
      refine lv_iload_n hx hb dJ7_fill_53178_6 rfl (lv_at hl 3 rfl) ?_
      refine lv_icmp_ge (tgt := 20) hx hb dJ7_fill_53178_7 (by decide) (fun c1 => ?_) (fun c1 => ?_)
      · exact absurd c1 (nI_ge (by omega) hn)
      · refine lv_aload_n hx hb dJ7_fill_53178_10 rfl (lv_at hl 0 rfl) ?_
        refine lv_iload_n hx hb dJ7_fill_53178_11 rfl (lv_at hl 2 rfl) ?_
        refine lv_iload_n hx hb dJ7_fill_53178_12 rfl (lv_at hl 1 rfl) ?_
        refine va_iast hx hb hK hP hD hS 0 0 rfl rfl (vp_in_nI (by omega) hn) dJ7_fill_53178_13 (fun H locs hP hD hS => ?_)
        rw [nI_clamp (show i < 2 ^ 31 by omega), afill_succ] at hP hD
        have hP : gP E [bInt E q n (afill (i + 1) f v)] H := hP
        have hD : va_D A [bInt E q n (afill (i + 1) f v)] := hD
        refine lv_iinc (v := nI (i + 1)) (lv' := [(2, .int (nI (i + 1))), (0, .ref q), (1, .int v), (3, .int (nI n))]) hx hb dJ7_fill_53178_14 hl (k := 2) rfl (nI_1 i) (by decide) rfl (fun ls hl => ?_)
        refine lv_goto (tgt := 5) hx hb dJ7_fill_53178_17 (by decide) ?_
        exact ih (i + 1) _ _ _ (by omega) hP hD hS (lv_sub hl [1, 2, 0, 3] rfl)
  refine lv_iconst (v := 0) hx hb dJ7_fill_53178_0 (by decide) ?_
  refine lv_istore_n (lv' := [(2, .int 0), (0, .ref q), (1, .int v)]) hx hb dJ7_fill_53178_1 rfl hl (by decide) rfl (fun ls hl => ?_)
  refine lv_aload_n hx hb dJ7_fill_53178_2 rfl (lv_at hl 1 rfl) ?_
  refine va_alen (v := nI n) hx hb hK hP 0 0 rfl rfl rfl dJ7_fill_53178_3 ?_
  refine lv_istore_n (lv' := [(3, .int (nI n)), (2, .int 0), (0, .ref q), (1, .int v)]) hx hb dJ7_fill_53178_4 rfl hl (by decide) rfl (fun ls hl => ?_)
  have e0 : afill 0 f v = f := by funext j; simp [afill]
  exact L5 n 0 _ _ _ (by omega) (by rw [e0]; exact hP) (by rw [e0]; exact hD) hS (lv_sub hl [2, 3, 1, 0] rfl)
theorem dJ6_bitCount_0f7a4_0 : decode cJ6_bitCount_0f7a4 0 = .ok (.iload_n 0, 1) := by decide +kernel
theorem dJ6_bitCount_0f7a4_1 : decode cJ6_bitCount_0f7a4 1 = .ok (.iload_n 0, 1) := by decide +kernel
theorem dJ6_bitCount_0f7a4_2 : decode cJ6_bitCount_0f7a4 2 = .ok (.iconst 1, 1) := by decide +kernel
theorem dJ6_bitCount_0f7a4_3 : decode cJ6_bitCount_0f7a4 3 = .ok (.iushr, 1) := by decide +kernel
theorem dJ6_bitCount_0f7a4_4 : decode cJ6_bitCount_0f7a4 4 = .ok (.ldc_w 265, 3) := by decide +kernel
theorem dJ6_bitCount_0f7a4_7 : decode cJ6_bitCount_0f7a4 7 = .ok (.iand, 1) := by decide +kernel
theorem dJ6_bitCount_0f7a4_8 : decode cJ6_bitCount_0f7a4 8 = .ok (.isub, 1) := by decide +kernel
theorem dJ6_bitCount_0f7a4_9 : decode cJ6_bitCount_0f7a4 9 = .ok (.istore_n 0, 1) := by decide +kernel
theorem dJ6_bitCount_0f7a4_10 : decode cJ6_bitCount_0f7a4 10 = .ok (.iload_n 0, 1) := by decide +kernel
theorem dJ6_bitCount_0f7a4_11 : decode cJ6_bitCount_0f7a4 11 = .ok (.ldc_w 266, 3) := by decide +kernel
theorem dJ6_bitCount_0f7a4_14 : decode cJ6_bitCount_0f7a4 14 = .ok (.iand, 1) := by decide +kernel
theorem dJ6_bitCount_0f7a4_15 : decode cJ6_bitCount_0f7a4 15 = .ok (.iload_n 0, 1) := by decide +kernel
theorem dJ6_bitCount_0f7a4_16 : decode cJ6_bitCount_0f7a4 16 = .ok (.iconst 2, 1) := by decide +kernel
theorem dJ6_bitCount_0f7a4_17 : decode cJ6_bitCount_0f7a4 17 = .ok (.iushr, 1) := by decide +kernel
theorem dJ6_bitCount_0f7a4_18 : decode cJ6_bitCount_0f7a4 18 = .ok (.ldc_w 266, 3) := by decide +kernel
theorem dJ6_bitCount_0f7a4_21 : decode cJ6_bitCount_0f7a4 21 = .ok (.iand, 1) := by decide +kernel
theorem dJ6_bitCount_0f7a4_22 : decode cJ6_bitCount_0f7a4 22 = .ok (.iadd, 1) := by decide +kernel
theorem dJ6_bitCount_0f7a4_23 : decode cJ6_bitCount_0f7a4 23 = .ok (.istore_n 0, 1) := by decide +kernel
theorem dJ6_bitCount_0f7a4_24 : decode cJ6_bitCount_0f7a4 24 = .ok (.iload_n 0, 1) := by decide +kernel
theorem dJ6_bitCount_0f7a4_25 : decode cJ6_bitCount_0f7a4 25 = .ok (.iload_n 0, 1) := by decide +kernel
theorem dJ6_bitCount_0f7a4_26 : decode cJ6_bitCount_0f7a4 26 = .ok (.iconst 4, 1) := by decide +kernel
theorem dJ6_bitCount_0f7a4_27 : decode cJ6_bitCount_0f7a4 27 = .ok (.iushr, 1) := by decide +kernel
theorem dJ6_bitCount_0f7a4_28 : decode cJ6_bitCount_0f7a4 28 = .ok (.iadd, 1) := by decide +kernel
theorem dJ6_bitCount_0f7a4_29 : decode cJ6_bitCount_0f7a4 29 = .ok (.ldc_w 267, 3) := by decide +kernel
theorem dJ6_bitCount_0f7a4_32 : decode cJ6_bitCount_0f7a4 32 = .ok (.iand, 1) := by decide +kernel
theorem dJ6_bitCount_0f7a4_33 : decode cJ6_bitCount_0f7a4 33 = .ok (.istore_n 0, 1) := by decide +kernel
theorem dJ6_bitCount_0f7a4_34 : decode cJ6_bitCount_0f7a4 34 = .ok (.iload_n 0, 1) := by decide +kernel
theorem dJ6_bitCount_0f7a4_35 : decode cJ6_bitCount_0f7a4 35 = .ok (.iload_n 0, 1) := by decide +kernel
theorem dJ6_bitCount_0f7a4_36 : decode cJ6_bitCount_0f7a4 36 = .ok (.bipush 8, 2) := by decide +kernel
theorem dJ6_bitCount_0f7a4_38 : decode cJ6_bitCount_0f7a4 38 = .ok (.iushr, 1) := by decide +kernel
theorem dJ6_bitCount_0f7a4_39 : decode cJ6_bitCount_0f7a4 39 = .ok (.iadd, 1) := by decide +kernel
theorem dJ6_bitCount_0f7a4_40 : decode cJ6_bitCount_0f7a4 40 = .ok (.istore_n 0, 1) := by decide +kernel
theorem dJ6_bitCount_0f7a4_41 : decode cJ6_bitCount_0f7a4 41 = .ok (.iload_n 0, 1) := by decide +kernel
theorem dJ6_bitCount_0f7a4_42 : decode cJ6_bitCount_0f7a4 42 = .ok (.iload_n 0, 1) := by decide +kernel
theorem dJ6_bitCount_0f7a4_43 : decode cJ6_bitCount_0f7a4 43 = .ok (.bipush 16, 2) := by decide +kernel
theorem dJ6_bitCount_0f7a4_45 : decode cJ6_bitCount_0f7a4 45 = .ok (.iushr, 1) := by decide +kernel
theorem dJ6_bitCount_0f7a4_46 : decode cJ6_bitCount_0f7a4 46 = .ok (.iadd, 1) := by decide +kernel
theorem dJ6_bitCount_0f7a4_47 : decode cJ6_bitCount_0f7a4 47 = .ok (.istore_n 0, 1) := by decide +kernel
theorem dJ6_bitCount_0f7a4_48 : decode cJ6_bitCount_0f7a4 48 = .ok (.iload_n 0, 1) := by decide +kernel
theorem dJ6_bitCount_0f7a4_49 : decode cJ6_bitCount_0f7a4 49 = .ok (.bipush 63, 2) := by decide +kernel
theorem dJ6_bitCount_0f7a4_51 : decode cJ6_bitCount_0f7a4 51 = .ok (.iand, 1) := by decide +kernel
theorem dJ6_bitCount_0f7a4_52 : decode cJ6_bitCount_0f7a4 52 = .ok (.ireturn, 1) := by decide +kernel
set_option maxHeartbeats 4000000 in
set_option maxRecDepth 100000 in
theorem c_J6_bitCount_0f7a4 (E : GE) (l : Launch) (x0 : Int32) (post : Int32 → Prop) (h : wp_J6_bitCount_0f7a4 x0 post) : Met l yJ6_bitCount_0f7a4 (wz yJ6_bitCount_0f7a4 cJ6_bitCount_0f7a4 1 (some .int)) { frames := 0, cells := 0, slots := 0, locals := 0 } (gPc E [.int x0] (gW [])) (gQi E (gW []) (fun r (_ : Unit) => post r) (fun (_ : Unit) w => w = gW [])) 0 0 (gIn (gW [])) := by
  unfold wp_J6_bitCount_0f7a4 at h
  refine g_of_i (by decide) (Nat.le_of_ble_eq_true rfl) ?_
  intro p e s m below meth c A Q hx hb hml hown ht hE hP hD hret ls hl
  have hK := hE.1
  have hS : va_S A s.heap s.heap [] := va_S.rf
  have hl : lv_has ls 1 [(0, .int x0)] := hl
  refine lv_iload_n hx hb dJ6_bitCount_0f7a4_0 rfl (lv_at hl 0 rfl) ?_
  refine lv_iload_n hx hb dJ6_bitCount_0f7a4_1 rfl (lv_at hl 0 rfl) ?_
  refine lv_iconst (v := 1) hx hb dJ6_bitCount_0f7a4_2 (by decide) ?_
  refine lv_iushr hx hb dJ6_bitCount_0f7a4_3 rfl ?_
  refine lv_ldcw hx hb hown (ht _ wk_J6_265) dJ6_bitCount_0f7a4_4 ?_
  refine lv_iand hx hb dJ6_bitCount_0f7a4_7 ?_
  refine lv_isub hx hb dJ6_bitCount_0f7a4_8 ?_
  refine lv_topi (fun y_1 ey_1 => ?_)
  have h := h y_1 ey_1
  refine lv_istore_n (lv' := [(0, .int y_1)]) hx hb dJ6_bitCount_0f7a4_9 rfl hl (by decide) rfl (fun ls hl => ?_)
  refine lv_iload_n hx hb dJ6_bitCount_0f7a4_10 rfl (lv_at hl 0 rfl) ?_
  refine lv_ldcw hx hb hown (ht _ wk_J6_266) dJ6_bitCount_0f7a4_11 ?_
  refine lv_iand hx hb dJ6_bitCount_0f7a4_14 ?_
  refine lv_iload_n hx hb dJ6_bitCount_0f7a4_15 rfl (lv_at hl 0 rfl) ?_
  refine lv_iconst (v := 2) hx hb dJ6_bitCount_0f7a4_16 (by decide) ?_
  refine lv_iushr hx hb dJ6_bitCount_0f7a4_17 rfl ?_
  refine lv_ldcw hx hb hown (ht _ wk_J6_266) dJ6_bitCount_0f7a4_18 ?_
  refine lv_iand hx hb dJ6_bitCount_0f7a4_21 ?_
  refine lv_iadd hx hb dJ6_bitCount_0f7a4_22 ?_
  refine lv_topi (fun y_2 ey_2 => ?_)
  have h := h y_2 ey_2
  refine lv_istore_n (lv' := [(0, .int y_2)]) hx hb dJ6_bitCount_0f7a4_23 rfl hl (by decide) rfl (fun ls hl => ?_)
  refine lv_iload_n hx hb dJ6_bitCount_0f7a4_24 rfl (lv_at hl 0 rfl) ?_
  refine lv_iload_n hx hb dJ6_bitCount_0f7a4_25 rfl (lv_at hl 0 rfl) ?_
  refine lv_iconst (v := 4) hx hb dJ6_bitCount_0f7a4_26 (by decide) ?_
  refine lv_iushr hx hb dJ6_bitCount_0f7a4_27 rfl ?_
  refine lv_iadd hx hb dJ6_bitCount_0f7a4_28 ?_
  refine lv_ldcw hx hb hown (ht _ wk_J6_267) dJ6_bitCount_0f7a4_29 ?_
  refine lv_iand hx hb dJ6_bitCount_0f7a4_32 ?_
  refine lv_topi (fun y_3 ey_3 => ?_)
  have h := h y_3 ey_3
  refine lv_istore_n (lv' := [(0, .int y_3)]) hx hb dJ6_bitCount_0f7a4_33 rfl hl (by decide) rfl (fun ls hl => ?_)
  refine lv_iload_n hx hb dJ6_bitCount_0f7a4_34 rfl (lv_at hl 0 rfl) ?_
  refine lv_iload_n hx hb dJ6_bitCount_0f7a4_35 rfl (lv_at hl 0 rfl) ?_
  refine lv_bipush (v := 8) hx hb dJ6_bitCount_0f7a4_36 (by decide) ?_
  refine lv_iushr hx hb dJ6_bitCount_0f7a4_38 rfl ?_
  refine lv_iadd hx hb dJ6_bitCount_0f7a4_39 ?_
  refine lv_topi (fun y_4 ey_4 => ?_)
  have h := h y_4 ey_4
  refine lv_istore_n (lv' := [(0, .int y_4)]) hx hb dJ6_bitCount_0f7a4_40 rfl hl (by decide) rfl (fun ls hl => ?_)
  refine lv_iload_n hx hb dJ6_bitCount_0f7a4_41 rfl (lv_at hl 0 rfl) ?_
  refine lv_iload_n hx hb dJ6_bitCount_0f7a4_42 rfl (lv_at hl 0 rfl) ?_
  refine lv_bipush (v := 16) hx hb dJ6_bitCount_0f7a4_43 (by decide) ?_
  refine lv_iushr hx hb dJ6_bitCount_0f7a4_45 rfl ?_
  refine lv_iadd hx hb dJ6_bitCount_0f7a4_46 ?_
  refine lv_topi (fun y_5 ey_5 => ?_)
  have h := h y_5 ey_5
  refine lv_istore_n (lv' := [(0, .int y_5)]) hx hb dJ6_bitCount_0f7a4_47 rfl hl (by decide) rfl (fun ls hl => ?_)
  refine lv_iload_n hx hb dJ6_bitCount_0f7a4_48 rfl (lv_at hl 0 rfl) ?_
  refine lv_bipush (v := 63) hx hb dJ6_bitCount_0f7a4_49 (by decide) ?_
  refine lv_iand hx hb dJ6_bitCount_0f7a4_51 ?_
  exact hret (y_5 &&& 63) () _ _ _ _ _ h rfl hP hD hS dJ6_bitCount_0f7a4_52
theorem dX5_isNumber_0 : decode cX5_isNumber 0 = .ok (.iload_n 0, 1) := by decide +kernel
theorem dX5_isNumber_1 : decode cX5_isNumber 1 = .ok (.ifCond .lt 14, 3) := by decide +kernel
theorem dX5_isNumber_4 : decode cX5_isNumber 4 = .ok (.iload_n 0, 1) := by decide +kernel
theorem dX5_isNumber_5 : decode cX5_isNumber 5 = .ok (.sipush 1000, 3) := by decide +kernel
theorem dX5_isNumber_8 : decode cX5_isNumber 8 = .ok (.if_icmp .ge 7, 3) := by decide +kernel
theorem dX5_isNumber_11 : decode cX5_isNumber 11 = .ok (.iconst 1, 1) := by decide +kernel
theorem dX5_isNumber_12 : decode cX5_isNumber 12 = .ok (.goto 4, 3) := by decide +kernel
theorem dX5_isNumber_15 : decode cX5_isNumber 15 = .ok (.iconst 0, 1) := by decide +kernel
theorem dX5_isNumber_16 : decode cX5_isNumber 16 = .ok (.ireturn, 1) := by decide +kernel
set_option maxHeartbeats 4000000 in
set_option maxRecDepth 100000 in
theorem c_X5_isNumber (E : GE) (l : Launch) (x0 : Int32) (post : Int32 → Prop) (h : wp_X5_isNumber x0 post) : Met l yX5_isNumber (wz yX5_isNumber cX5_isNumber 1 (some .boolean)) { frames := 0, cells := 0, slots := 0, locals := 0 } (gPc E [.int x0] (gW [])) (gQi E (gW []) (fun r (_ : Unit) => post r) (fun (_ : Unit) w => w = gW [])) 0 0 (gIn (gW [])) := by
  unfold wp_X5_isNumber at h
  refine g_of_z (by decide) (Nat.le_of_ble_eq_true rfl) ?_
  intro p e s m below meth c A Q hx hb hml hown ht hE hP hD hret ls hl
  have hK := hE.1
  have hS : va_S A s.heap s.heap [] := va_S.rf
  have hl : lv_has ls 1 [(0, .int x0)] := hl
  refine lv_iload_n hx hb dX5_isNumber_0 rfl (lv_at hl 0 rfl) ?_
  refine lv_if_lt (tgt := 15) hx hb dX5_isNumber_1 (by decide) (fun c_1 => ?_) (fun c_1 => ?_)
  · have h := h.1 c_1
    refine lv_iconst (v := 0) hx hb dX5_isNumber_15 (by decide) ?_
    exact hret 0 () _ _ _ _ _ rfl h rfl hP hD hS dX5_isNumber_16
  · have h := h.2 c_1
    refine lv_iload_n hx hb dX5_isNumber_4 rfl (lv_at hl 0 rfl) ?_
    refine lv_sipush (v := 1000) hx hb dX5_isNumber_5 (by decide) ?_
    refine lv_icmp_ge (tgt := 15) hx hb dX5_isNumber_8 (by decide) (fun c_2 => ?_) (fun c_2 => ?_)
    · have h := h.1 c_2
      refine lv_iconst (v := 0) hx hb dX5_isNumber_15 (by decide) ?_
      exact hret 0 () _ _ _ _ _ rfl h rfl hP hD hS dX5_isNumber_16
    · have h := h.2 c_2
      refine lv_iconst (v := 1) hx hb dX5_isNumber_11 (by decide) ?_
      refine lv_goto (tgt := 16) hx hb dX5_isNumber_12 (by decide) ?_
      exact hret 1 () _ _ _ _ _ rfl h rfl hP hD hS dX5_isNumber_16
theorem dX5_isImage_0 : decode cX5_isImage 0 = .ok (.iload_n 0, 1) := by decide +kernel
theorem dX5_isImage_1 : decode cX5_isImage 1 = .ok (.ifCond .lt 12, 3) := by decide +kernel
theorem dX5_isImage_4 : decode cX5_isImage 4 = .ok (.iload_n 0, 1) := by decide +kernel
theorem dX5_isImage_5 : decode cX5_isImage 5 = .ok (.iconst 2, 1) := by decide +kernel
theorem dX5_isImage_6 : decode cX5_isImage 6 = .ok (.if_icmp .ge 7, 3) := by decide +kernel
theorem dX5_isImage_9 : decode cX5_isImage 9 = .ok (.iconst 1, 1) := by decide +kernel
theorem dX5_isImage_10 : decode cX5_isImage 10 = .ok (.goto 4, 3) := by decide +kernel
theorem dX5_isImage_13 : decode cX5_isImage 13 = .ok (.iconst 0, 1) := by decide +kernel
theorem dX5_isImage_14 : decode cX5_isImage 14 = .ok (.ireturn, 1) := by decide +kernel
set_option maxHeartbeats 4000000 in
set_option maxRecDepth 100000 in
theorem c_X5_isImage (E : GE) (l : Launch) (x0 : Int32) (post : Int32 → Prop) (h : wp_X5_isImage x0 post) : Met l yX5_isImage (wz yX5_isImage cX5_isImage 1 (some .boolean)) { frames := 0, cells := 0, slots := 0, locals := 0 } (gPc E [.int x0] (gW [])) (gQi E (gW []) (fun r (_ : Unit) => post r) (fun (_ : Unit) w => w = gW [])) 0 0 (gIn (gW [])) := by
  unfold wp_X5_isImage at h
  refine g_of_z (by decide) (Nat.le_of_ble_eq_true rfl) ?_
  intro p e s m below meth c A Q hx hb hml hown ht hE hP hD hret ls hl
  have hK := hE.1
  have hS : va_S A s.heap s.heap [] := va_S.rf
  have hl : lv_has ls 1 [(0, .int x0)] := hl
  refine lv_iload_n hx hb dX5_isImage_0 rfl (lv_at hl 0 rfl) ?_
  refine lv_if_lt (tgt := 13) hx hb dX5_isImage_1 (by decide) (fun c_1 => ?_) (fun c_1 => ?_)
  · have h := h.1 c_1
    refine lv_iconst (v := 0) hx hb dX5_isImage_13 (by decide) ?_
    exact hret 0 () _ _ _ _ _ rfl h rfl hP hD hS dX5_isImage_14
  · have h := h.2 c_1
    refine lv_iload_n hx hb dX5_isImage_4 rfl (lv_at hl 0 rfl) ?_
    refine lv_iconst (v := 2) hx hb dX5_isImage_5 (by decide) ?_
    refine lv_icmp_ge (tgt := 13) hx hb dX5_isImage_6 (by decide) (fun c_2 => ?_) (fun c_2 => ?_)
    · have h := h.1 c_2
      refine lv_iconst (v := 0) hx hb dX5_isImage_13 (by decide) ?_
      exact hret 0 () _ _ _ _ _ rfl h rfl hP hD hS dX5_isImage_14
    · have h := h.2 c_2
      refine lv_iconst (v := 1) hx hb dX5_isImage_9 (by decide) ?_
      refine lv_goto (tgt := 14) hx hb dX5_isImage_10 (by decide) ?_
      exact hret 1 () _ _ _ _ _ rfl h rfl hP hD hS dX5_isImage_14
theorem dX5_hasBit_0 : decode cX5_hasBit 0 = .ok (.iload_n 0, 1) := by decide +kernel
theorem dX5_hasBit_1 : decode cX5_hasBit 1 = .ok (.iload_n 1, 1) := by decide +kernel
theorem dX5_hasBit_2 : decode cX5_hasBit 2 = .ok (.ishr, 1) := by decide +kernel
theorem dX5_hasBit_3 : decode cX5_hasBit 3 = .ok (.iconst 1, 1) := by decide +kernel
theorem dX5_hasBit_4 : decode cX5_hasBit 4 = .ok (.iand, 1) := by decide +kernel
theorem dX5_hasBit_5 : decode cX5_hasBit 5 = .ok (.iconst 1, 1) := by decide +kernel
theorem dX5_hasBit_6 : decode cX5_hasBit 6 = .ok (.if_icmp .ne 7, 3) := by decide +kernel
theorem dX5_hasBit_9 : decode cX5_hasBit 9 = .ok (.iconst 1, 1) := by decide +kernel
theorem dX5_hasBit_10 : decode cX5_hasBit 10 = .ok (.goto 4, 3) := by decide +kernel
theorem dX5_hasBit_13 : decode cX5_hasBit 13 = .ok (.iconst 0, 1) := by decide +kernel
theorem dX5_hasBit_14 : decode cX5_hasBit 14 = .ok (.ireturn, 1) := by decide +kernel
set_option maxHeartbeats 4000000 in
set_option maxRecDepth 100000 in
theorem c_X5_hasBit (E : GE) (l : Launch) (x0 : Int32) (x1 : Int32) (post : Int32 → Prop) (h : wp_X5_hasBit x0 x1 post) : Met l yX5_hasBit (wz yX5_hasBit cX5_hasBit 2 (some .boolean)) { frames := 0, cells := 0, slots := 0, locals := 0 } (gPc E [.int x0, .int x1] (gW [])) (gQi E (gW []) (fun r (_ : Unit) => post r) (fun (_ : Unit) w => w = gW [])) 0 0 (gIn (gW [])) := by
  unfold wp_X5_hasBit at h
  refine g_of_z (by decide) (Nat.le_of_ble_eq_true rfl) ?_
  intro p e s m below meth c A Q hx hb hml hown ht hE hP hD hret ls hl
  have hK := hE.1
  have hS : va_S A s.heap s.heap [] := va_S.rf
  have hl : lv_has ls 2 [(0, .int x0), (1, .int x1)] := hl
  refine lv_iload_n hx hb dX5_hasBit_0 rfl (lv_at hl 0 rfl) ?_
  refine lv_iload_n hx hb dX5_hasBit_1 rfl (lv_at hl 1 rfl) ?_
  refine lv_ishr hx hb dX5_hasBit_2 ?_
  refine lv_iconst (v := 1) hx hb dX5_hasBit_3 (by decide) ?_
  refine lv_iand hx hb dX5_hasBit_4 ?_
  refine lv_iconst (v := 1) hx hb dX5_hasBit_5 (by decide) ?_
  refine lv_icmp_ne (tgt := 13) hx hb dX5_hasBit_6 (by decide) (fun c_1 => ?_) (fun c_1 => ?_)
  · have h := h.1 c_1
    refine lv_iconst (v := 0) hx hb dX5_hasBit_13 (by decide) ?_
    exact hret 0 () _ _ _ _ _ rfl h rfl hP hD hS dX5_hasBit_14
  · have h := h.2 c_1
    refine lv_iconst (v := 1) hx hb dX5_hasBit_9 (by decide) ?_
    refine lv_goto (tgt := 14) hx hb dX5_hasBit_10 (by decide) ?_
    exact hret 1 () _ _ _ _ _ rfl h rfl hP hD hS dX5_hasBit_14
theorem dX5_rightWheels_0 : decode cX5_rightWheels 0 = .ok (.iload_n 0, 1) := by decide +kernel
theorem dX5_rightWheels_1 : decode cX5_rightWheels 1 = .ok (.bipush 10, 2) := by decide +kernel
theorem dX5_rightWheels_3 : decode cX5_rightWheels 3 = .ok (.irem, 1) := by decide +kernel
theorem dX5_rightWheels_4 : decode cX5_rightWheels 4 = .ok (.iload_n 1, 1) := by decide +kernel
theorem dX5_rightWheels_5 : decode cX5_rightWheels 5 = .ok (.bipush 10, 2) := by decide +kernel
theorem dX5_rightWheels_7 : decode cX5_rightWheels 7 = .ok (.irem, 1) := by decide +kernel
theorem dX5_rightWheels_8 : decode cX5_rightWheels 8 = .ok (.if_icmp .ne 7, 3) := by decide +kernel
theorem dX5_rightWheels_11 : decode cX5_rightWheels 11 = .ok (.iconst 1, 1) := by decide +kernel
theorem dX5_rightWheels_12 : decode cX5_rightWheels 12 = .ok (.goto 4, 3) := by decide +kernel
theorem dX5_rightWheels_15 : decode cX5_rightWheels 15 = .ok (.iconst 0, 1) := by decide +kernel
theorem dX5_rightWheels_16 : decode cX5_rightWheels 16 = .ok (.istore_n 2, 1) := by decide +kernel
theorem dX5_rightWheels_17 : decode cX5_rightWheels 17 = .ok (.iload_n 2, 1) := by decide +kernel
theorem dX5_rightWheels_18 : decode cX5_rightWheels 18 = .ok (.iload_n 0, 1) := by decide +kernel
theorem dX5_rightWheels_19 : decode cX5_rightWheels 19 = .ok (.bipush 10, 2) := by decide +kernel
theorem dX5_rightWheels_21 : decode cX5_rightWheels 21 = .ok (.idiv, 1) := by decide +kernel
theorem dX5_rightWheels_22 : decode cX5_rightWheels 22 = .ok (.bipush 10, 2) := by decide +kernel
theorem dX5_rightWheels_24 : decode cX5_rightWheels 24 = .ok (.irem, 1) := by decide +kernel
theorem dX5_rightWheels_25 : decode cX5_rightWheels 25 = .ok (.iload_n 1, 1) := by decide +kernel
theorem dX5_rightWheels_26 : decode cX5_rightWheels 26 = .ok (.bipush 10, 2) := by decide +kernel
theorem dX5_rightWheels_28 : decode cX5_rightWheels 28 = .ok (.idiv, 1) := by decide +kernel
theorem dX5_rightWheels_29 : decode cX5_rightWheels 29 = .ok (.bipush 10, 2) := by decide +kernel
theorem dX5_rightWheels_31 : decode cX5_rightWheels 31 = .ok (.irem, 1) := by decide +kernel
theorem dX5_rightWheels_32 : decode cX5_rightWheels 32 = .ok (.if_icmp .ne 7, 3) := by decide +kernel
theorem dX5_rightWheels_35 : decode cX5_rightWheels 35 = .ok (.iconst 1, 1) := by decide +kernel
theorem dX5_rightWheels_36 : decode cX5_rightWheels 36 = .ok (.goto 4, 3) := by decide +kernel
theorem dX5_rightWheels_39 : decode cX5_rightWheels 39 = .ok (.iconst 0, 1) := by decide +kernel
theorem dX5_rightWheels_40 : decode cX5_rightWheels 40 = .ok (.iadd, 1) := by decide +kernel
theorem dX5_rightWheels_41 : decode cX5_rightWheels 41 = .ok (.istore_n 2, 1) := by decide +kernel
theorem dX5_rightWheels_42 : decode cX5_rightWheels 42 = .ok (.iload_n 2, 1) := by decide +kernel
theorem dX5_rightWheels_43 : decode cX5_rightWheels 43 = .ok (.iload_n 0, 1) := by decide +kernel
theorem dX5_rightWheels_44 : decode cX5_rightWheels 44 = .ok (.bipush 100, 2) := by decide +kernel
theorem dX5_rightWheels_46 : decode cX5_rightWheels 46 = .ok (.idiv, 1) := by decide +kernel
theorem dX5_rightWheels_47 : decode cX5_rightWheels 47 = .ok (.iload_n 1, 1) := by decide +kernel
theorem dX5_rightWheels_48 : decode cX5_rightWheels 48 = .ok (.bipush 100, 2) := by decide +kernel
theorem dX5_rightWheels_50 : decode cX5_rightWheels 50 = .ok (.idiv, 1) := by decide +kernel
theorem dX5_rightWheels_51 : decode cX5_rightWheels 51 = .ok (.if_icmp .ne 7, 3) := by decide +kernel
theorem dX5_rightWheels_54 : decode cX5_rightWheels 54 = .ok (.iconst 1, 1) := by decide +kernel
theorem dX5_rightWheels_55 : decode cX5_rightWheels 55 = .ok (.goto 4, 3) := by decide +kernel
theorem dX5_rightWheels_58 : decode cX5_rightWheels 58 = .ok (.iconst 0, 1) := by decide +kernel
theorem dX5_rightWheels_59 : decode cX5_rightWheels 59 = .ok (.iadd, 1) := by decide +kernel
theorem dX5_rightWheels_60 : decode cX5_rightWheels 60 = .ok (.istore_n 2, 1) := by decide +kernel
theorem dX5_rightWheels_61 : decode cX5_rightWheels 61 = .ok (.iload_n 2, 1) := by decide +kernel
theorem dX5_rightWheels_62 : decode cX5_rightWheels 62 = .ok (.ireturn, 1) := by decide +kernel
set_option maxHeartbeats 4000000 in
set_option maxRecDepth 100000 in
theorem c_X5_rightWheels (E : GE) (l : Launch) (x0 : Int32) (x1 : Int32) (post : Int32 → Prop) (h : wp_X5_rightWheels x0 x1 post) : Met l yX5_rightWheels (wz yX5_rightWheels cX5_rightWheels 3 (some .int)) { frames := 0, cells := 0, slots := 0, locals := 0 } (gPc E [.int x0, .int x1] (gW [])) (gQi E (gW []) (fun r (_ : Unit) => post r) (fun (_ : Unit) w => w = gW [])) 0 0 (gIn (gW [])) := by
  unfold wp_X5_rightWheels at h
  refine g_of_i (by decide) (Nat.le_of_ble_eq_true rfl) ?_
  intro p e s m below meth c A Q hx hb hml hown ht hE hP hD hret ls hl
  have hK := hE.1
  have hS : va_S A s.heap s.heap [] := va_S.rf
  have hl : lv_has ls 3 [(0, .int x0), (1, .int x1)] := hl
  have J16 : ∀ (x0_j16 : Int32) (x1_j16 : Int32) (t0_j16 : Int32) (H : Heap) (locs : List Loc) (ls : Array Slot), wp_X5_rightWheels_J16 post x0_j16 x1_j16 t0_j16 → gP E (gW []) H → va_D A (gW []) → va_S A s.heap H locs → lv_has ls 3 [(0, .int x0_j16), (1, .int x1_j16)] → W p l e { frames := 0, cells := 0, slots := 0, locals := 0 } s m ([.int x0, .int x1] : List Value).toArray below meth c H locs 0 0 Q (F0 m 16 ls [.int t0_j16]) := by
    intro x0_j16 x1_j16 t0_j16 H locs ls h hP hD hS hl
    unfold wp_X5_rightWheels_J16 at h
    refine lv_istore_n (lv' := [(2, .int t0_j16), (0, .int x0_j16), (1, .int x1_j16)]) hx hb dX5_rightWheels_16 rfl hl (by decide) rfl (fun ls hl => ?_)
    refine lv_iload_n hx hb dX5_rightWheels_17 rfl (lv_at hl 0 rfl) ?_
    refine lv_iload_n hx hb dX5_rightWheels_18 rfl (lv_at hl 1 rfl) ?_
    refine lv_bipush (v := 10) hx hb dX5_rightWheels_19 (by decide) ?_
    refine lv_idiv hx hb dX5_rightWheels_21 (by decide) ?_
    refine lv_bipush (v := 10) hx hb dX5_rightWheels_22 (by decide) ?_
    refine lv_irem hx hb dX5_rightWheels_24 (by decide) ?_
    refine lv_iload_n hx hb dX5_rightWheels_25 rfl (lv_at hl 2 rfl) ?_
    refine lv_bipush (v := 10) hx hb dX5_rightWheels_26 (by decide) ?_
    refine lv_idiv hx hb dX5_rightWheels_28 (by decide) ?_
    refine lv_bipush (v := 10) hx hb dX5_rightWheels_29 (by decide) ?_
    refine lv_irem hx hb dX5_rightWheels_31 (by decide) ?_
    refine lv_icmp_ne (tgt := 39) hx hb dX5_rightWheels_32 (by decide) (fun c_4 => ?_) (fun c_4 => ?_)
    · have h := h.1 c_4
      refine lv_iconst (v := 0) hx hb dX5_rightWheels_39 (by decide) ?_
      refine lv_iadd hx hb dX5_rightWheels_40 ?_
      refine lv_istore_n (lv' := [(2, .int (t0_j16 + 0)), (0, .int x0_j16), (1, .int x1_j16)]) hx hb dX5_rightWheels_41 rfl hl (by decide) rfl (fun ls hl => ?_)
      refine lv_iload_n hx hb dX5_rightWheels_42 rfl (lv_at hl 0 rfl) ?_
      refine lv_iload_n hx hb dX5_rightWheels_43 rfl (lv_at hl 1 rfl) ?_
      refine lv_bipush (v := 100) hx hb dX5_rightWheels_44 (by decide) ?_
      refine lv_idiv hx hb dX5_rightWheels_46 (by decide) ?_
      refine lv_iload_n hx hb dX5_rightWheels_47 rfl (lv_at hl 2 rfl) ?_
      refine lv_bipush (v := 100) hx hb dX5_rightWheels_48 (by decide) ?_
      refine lv_idiv hx hb dX5_rightWheels_50 (by decide) ?_
      refine lv_icmp_ne (tgt := 58) hx hb dX5_rightWheels_51 (by decide) (fun c_5 => ?_) (fun c_5 => ?_)
      · have h := h.1 c_5
        refine lv_iconst (v := 0) hx hb dX5_rightWheels_58 (by decide) ?_
        refine lv_iadd hx hb dX5_rightWheels_59 ?_
        refine lv_istore_n (lv' := [(2, .int ((t0_j16 + 0) + 0)), (0, .int x0_j16), (1, .int x1_j16)]) hx hb dX5_rightWheels_60 rfl hl (by decide) rfl (fun ls hl => ?_)
        refine lv_iload_n hx hb dX5_rightWheels_61 rfl (lv_at hl 0 rfl) ?_
        exact hret ((t0_j16 + 0) + 0) () _ _ _ _ _ h rfl hP hD hS dX5_rightWheels_62
      · have h := h.2 c_5
        refine lv_iconst (v := 1) hx hb dX5_rightWheels_54 (by decide) ?_
        refine lv_goto (tgt := 59) hx hb dX5_rightWheels_55 (by decide) ?_
        refine lv_iadd hx hb dX5_rightWheels_59 ?_
        refine lv_istore_n (lv' := [(2, .int ((t0_j16 + 0) + 1)), (0, .int x0_j16), (1, .int x1_j16)]) hx hb dX5_rightWheels_60 rfl hl (by decide) rfl (fun ls hl => ?_)
        refine lv_iload_n hx hb dX5_rightWheels_61 rfl (lv_at hl 0 rfl) ?_
        exact hret ((t0_j16 + 0) + 1) () _ _ _ _ _ h rfl hP hD hS dX5_rightWheels_62
    · have h := h.2 c_4
      refine lv_iconst (v := 1) hx hb dX5_rightWheels_35 (by decide) ?_
      refine lv_goto (tgt := 40) hx hb dX5_rightWheels_36 (by decide) ?_
      refine lv_iadd hx hb dX5_rightWheels_40 ?_
      refine lv_istore_n (lv' := [(2, .int (t0_j16 + 1)), (0, .int x0_j16), (1, .int x1_j16)]) hx hb dX5_rightWheels_41 rfl hl (by decide) rfl (fun ls hl => ?_)
      refine lv_iload_n hx hb dX5_rightWheels_42 rfl (lv_at hl 0 rfl) ?_
      refine lv_iload_n hx hb dX5_rightWheels_43 rfl (lv_at hl 1 rfl) ?_
      refine lv_bipush (v := 100) hx hb dX5_rightWheels_44 (by decide) ?_
      refine lv_idiv hx hb dX5_rightWheels_46 (by decide) ?_
      refine lv_iload_n hx hb dX5_rightWheels_47 rfl (lv_at hl 2 rfl) ?_
      refine lv_bipush (v := 100) hx hb dX5_rightWheels_48 (by decide) ?_
      refine lv_idiv hx hb dX5_rightWheels_50 (by decide) ?_
      refine lv_icmp_ne (tgt := 58) hx hb dX5_rightWheels_51 (by decide) (fun c_6 => ?_) (fun c_6 => ?_)
      · have h := h.1 c_6
        refine lv_iconst (v := 0) hx hb dX5_rightWheels_58 (by decide) ?_
        refine lv_iadd hx hb dX5_rightWheels_59 ?_
        refine lv_istore_n (lv' := [(2, .int ((t0_j16 + 1) + 0)), (0, .int x0_j16), (1, .int x1_j16)]) hx hb dX5_rightWheels_60 rfl hl (by decide) rfl (fun ls hl => ?_)
        refine lv_iload_n hx hb dX5_rightWheels_61 rfl (lv_at hl 0 rfl) ?_
        exact hret ((t0_j16 + 1) + 0) () _ _ _ _ _ h rfl hP hD hS dX5_rightWheels_62
      · have h := h.2 c_6
        refine lv_iconst (v := 1) hx hb dX5_rightWheels_54 (by decide) ?_
        refine lv_goto (tgt := 59) hx hb dX5_rightWheels_55 (by decide) ?_
        refine lv_iadd hx hb dX5_rightWheels_59 ?_
        refine lv_istore_n (lv' := [(2, .int ((t0_j16 + 1) + 1)), (0, .int x0_j16), (1, .int x1_j16)]) hx hb dX5_rightWheels_60 rfl hl (by decide) rfl (fun ls hl => ?_)
        refine lv_iload_n hx hb dX5_rightWheels_61 rfl (lv_at hl 0 rfl) ?_
        exact hret ((t0_j16 + 1) + 1) () _ _ _ _ _ h rfl hP hD hS dX5_rightWheels_62
  refine lv_iload_n hx hb dX5_rightWheels_0 rfl (lv_at hl 0 rfl) ?_
  refine lv_bipush (v := 10) hx hb dX5_rightWheels_1 (by decide) ?_
  refine lv_irem hx hb dX5_rightWheels_3 (by decide) ?_
  refine lv_iload_n hx hb dX5_rightWheels_4 rfl (lv_at hl 1 rfl) ?_
  refine lv_bipush (v := 10) hx hb dX5_rightWheels_5 (by decide) ?_
  refine lv_irem hx hb dX5_rightWheels_7 (by decide) ?_
  refine lv_icmp_ne (tgt := 15) hx hb dX5_rightWheels_8 (by decide) (fun c_7 => ?_) (fun c_7 => ?_)
  · have h := h.1 c_7
    refine lv_iconst (v := 0) hx hb dX5_rightWheels_15 (by decide) ?_
    exact J16 x0 x1 0 _ _ _ h hP hD hS (lv_sub hl [0, 1] rfl)
  · have h := h.2 c_7
    refine lv_iconst (v := 1) hx hb dX5_rightWheels_11 (by decide) ?_
    refine lv_goto (tgt := 16) hx hb dX5_rightWheels_12 (by decide) ?_
    exact J16 x0 x1 1 _ _ _ h hP hD hS (lv_sub hl [0, 1] rfl)
theorem dX5_turns_0 : decode cX5_turns 0 = .ok (.iload_n 0, 1) := by decide +kernel
theorem dX5_turns_1 : decode cX5_turns 1 = .ok (.iload_n 1, 1) := by decide +kernel
theorem dX5_turns_2 : decode cX5_turns 2 = .ok (.isub, 1) := by decide +kernel
theorem dX5_turns_3 : decode cX5_turns 3 = .ok (.invokestatic 253, 3) := by decide +kernel
theorem dX5_turns_6 : decode cX5_turns 6 = .ok (.istore_n 2, 1) := by decide +kernel
theorem dX5_turns_7 : decode cX5_turns 7 = .ok (.iload_n 2, 1) := by decide +kernel
theorem dX5_turns_8 : decode cX5_turns 8 = .ok (.bipush 10, 2) := by decide +kernel
theorem dX5_turns_10 : decode cX5_turns 10 = .ok (.iload_n 2, 1) := by decide +kernel
theorem dX5_turns_11 : decode cX5_turns 11 = .ok (.isub, 1) := by decide +kernel
theorem dX5_turns_12 : decode cX5_turns 12 = .ok (.invokestatic 256, 3) := by decide +kernel
theorem dX5_turns_15 : decode cX5_turns 15 = .ok (.ireturn, 1) := by decide +kernel
set_option maxHeartbeats 4000000 in
set_option maxRecDepth 100000 in
theorem c_X5_turns (E : GE) (l : Launch) (x0 : Int32) (x1 : Int32) (post : Int32 → Prop) (h : wp_X5_turns x0 x1 post) : Met l yX5_turns (wz yX5_turns cX5_turns 3 (some .int)) { frames := 1, cells := 0, slots := 0, locals := 21 } (gPc E [.int x0, .int x1] (gW [])) (gQi E (gW []) (fun r (_ : Unit) => post r) (fun (_ : Unit) w => w = gW [])) 0 0 (gIn (gW [])) := by
  unfold wp_X5_turns at h
  refine g_of_i (by decide) (Nat.le_of_ble_eq_true rfl) ?_
  intro p e s m below meth c A Q hx hb hml hown ht hE hP hD hret ls hl
  have hK := hE.1
  have hS : va_S A s.heap s.heap [] := va_S.rf
  have hl : lv_has ls 3 [(0, .int x0), (1, .int x1)] := hl
  refine lv_iload_n hx hb dX5_turns_0 rfl (lv_at hl 0 rfl) ?_
  refine lv_iload_n hx hb dX5_turns_1 rfl (lv_at hl 1 rfl) ?_
  refine lv_isub hx hb dX5_turns_2 ?_
  refine va_mabs hx hb (hml.trans hl.1.symm) hown (ht _ wk_X5_253) (ht _ wt_J9_abs_0f7a4) (ht _ wn_J9) (ht _ wc_J9_abs_0f7a4) (Nat.le_of_ble_eq_true rfl) (Nat.le_of_ble_eq_true rfl) (Nat.zero_le _) (Nat.zero_le _) dX5_turns_3 ?_
  refine lv_topi (fun y_1 ey_1 => ?_)
  have h := h y_1 ey_1
  refine lv_istore_n (lv' := [(2, .int y_1), (0, .int x0), (1, .int x1)]) hx hb dX5_turns_6 rfl hl (by decide) rfl (fun ls hl => ?_)
  refine lv_iload_n hx hb dX5_turns_7 rfl (lv_at hl 0 rfl) ?_
  refine lv_bipush (v := 10) hx hb dX5_turns_8 (by decide) ?_
  refine lv_iload_n hx hb dX5_turns_10 rfl (lv_at hl 0 rfl) ?_
  refine lv_isub hx hb dX5_turns_11 ?_
  refine va_mmin hx hb (hml.trans hl.1.symm) hown (ht _ wk_X5_256) (ht _ wt_J9_min_7cf53) (ht _ wn_J9) (ht _ wc_J9_min_7cf53) (Nat.le_of_ble_eq_true rfl) (Nat.le_of_ble_eq_true rfl) (Nat.zero_le _) (Nat.zero_le _) dX5_turns_12 ?_
  exact hret (if (10 - y_1) < y_1 then (10 - y_1) else y_1) () _ _ _ _ _ h rfl hP hD hS dX5_turns_15
theorem dX5_stepsBetween_0 : decode cX5_stepsBetween 0 = .ok (.iload_n 0, 1) := by decide +kernel
theorem dX5_stepsBetween_1 : decode cX5_stepsBetween 1 = .ok (.bipush 10, 2) := by decide +kernel
theorem dX5_stepsBetween_3 : decode cX5_stepsBetween 3 = .ok (.irem, 1) := by decide +kernel
theorem dX5_stepsBetween_4 : decode cX5_stepsBetween 4 = .ok (.iload_n 1, 1) := by decide +kernel
theorem dX5_stepsBetween_5 : decode cX5_stepsBetween 5 = .ok (.bipush 10, 2) := by decide +kernel
theorem dX5_stepsBetween_7 : decode cX5_stepsBetween 7 = .ok (.irem, 1) := by decide +kernel
theorem dX5_stepsBetween_8 : decode cX5_stepsBetween 8 = .ok (.invokestatic 250, 3) := by decide +kernel
theorem dX5_stepsBetween_11 : decode cX5_stepsBetween 11 = .ok (.iload_n 0, 1) := by decide +kernel
theorem dX5_stepsBetween_12 : decode cX5_stepsBetween 12 = .ok (.bipush 10, 2) := by decide +kernel
theorem dX5_stepsBetween_14 : decode cX5_stepsBetween 14 = .ok (.idiv, 1) := by decide +kernel
theorem dX5_stepsBetween_15 : decode cX5_stepsBetween 15 = .ok (.bipush 10, 2) := by decide +kernel
theorem dX5_stepsBetween_17 : decode cX5_stepsBetween 17 = .ok (.irem, 1) := by decide +kernel
theorem dX5_stepsBetween_18 : decode cX5_stepsBetween 18 = .ok (.iload_n 1, 1) := by decide +kernel
theorem dX5_stepsBetween_19 : decode cX5_stepsBetween 19 = .ok (.bipush 10, 2) := by decide +kernel
theorem dX5_stepsBetween_21 : decode cX5_stepsBetween 21 = .ok (.idiv, 1) := by decide +kernel
theorem dX5_stepsBetween_22 : decode cX5_stepsBetween 22 = .ok (.bipush 10, 2) := by decide +kernel
theorem dX5_stepsBetween_24 : decode cX5_stepsBetween 24 = .ok (.irem, 1) := by decide +kernel
theorem dX5_stepsBetween_25 : decode cX5_stepsBetween 25 = .ok (.invokestatic 250, 3) := by decide +kernel
theorem dX5_stepsBetween_28 : decode cX5_stepsBetween 28 = .ok (.iadd, 1) := by decide +kernel
theorem dX5_stepsBetween_29 : decode cX5_stepsBetween 29 = .ok (.iload_n 0, 1) := by decide +kernel
theorem dX5_stepsBetween_30 : decode cX5_stepsBetween 30 = .ok (.bipush 100, 2) := by decide +kernel
theorem dX5_stepsBetween_32 : decode cX5_stepsBetween 32 = .ok (.idiv, 1) := by decide +kernel
theorem dX5_stepsBetween_33 : decode cX5_stepsBetween 33 = .ok (.iload_n 1, 1) := by decide +kernel
theorem dX5_stepsBetween_34 : decode cX5_stepsBetween 34 = .ok (.bipush 100, 2) := by decide +kernel
theorem dX5_stepsBetween_36 : decode cX5_stepsBetween 36 = .ok (.idiv, 1) := by decide +kernel
theorem dX5_stepsBetween_37 : decode cX5_stepsBetween 37 = .ok (.invokestatic 250, 3) := by decide +kernel
theorem dX5_stepsBetween_40 : decode cX5_stepsBetween 40 = .ok (.iadd, 1) := by decide +kernel
theorem dX5_stepsBetween_41 : decode cX5_stepsBetween 41 = .ok (.ireturn, 1) := by decide +kernel
set_option maxHeartbeats 4000000 in
set_option maxRecDepth 100000 in
theorem c_X5_stepsBetween (E : GE) (l : Launch) (x0 : Int32) (x1 : Int32) (post : Int32 → Prop) (h : wp_X5_stepsBetween x0 x1 post) : Met l yX5_stepsBetween (wz yX5_stepsBetween cX5_stepsBetween 2 (some .int)) { frames := 2, cells := 0, slots := 0, locals := 43 } (gPc E [.int x0, .int x1] (gW [])) (gQi E (gW []) (fun r (_ : Unit) => post r) (fun (_ : Unit) w => w = gW [])) 0 0 (gIn (gW [])) := by
  unfold wp_X5_stepsBetween at h
  refine g_of_i (by decide) (Nat.le_of_ble_eq_true rfl) ?_
  intro p e s m below meth c A Q hx hb hml hown ht hE hP hD hret ls hl
  have hK := hE.1
  have hS : va_S A s.heap s.heap [] := va_S.rf
  have hl : lv_has ls 2 [(0, .int x0), (1, .int x1)] := hl
  refine lv_iload_n hx hb dX5_stepsBetween_0 rfl (lv_at hl 0 rfl) ?_
  refine lv_bipush (v := 10) hx hb dX5_stepsBetween_1 (by decide) ?_
  refine lv_irem hx hb dX5_stepsBetween_3 (by decide) ?_
  refine lv_iload_n hx hb dX5_stepsBetween_4 rfl (lv_at hl 1 rfl) ?_
  refine lv_bipush (v := 10) hx hb dX5_stepsBetween_5 (by decide) ?_
  refine lv_irem hx hb dX5_stepsBetween_7 (by decide) ?_
  have p1 := gB (n := 0) (bs := []) (bc := []) (br := []) [] rfl rfl (by decide)
  refine g_i (g_runS (As := [.int (x0 - x0 / 10 * 10), .int (x1 - x1 / 10 * 10)]) (rest := []) ⟨hx, hb, hml, hown, ht⟩ hE (c_X5_turns E l (x0 - x0 / 10 * 10) (x1 - x1 / 10 * 10) _ h) ⟨rfl, rfl⟩ wk_X5_250 wt_X5_turns wn_X5 wc_X5_turns yd_X5_turns ⟨Nat.le_of_ble_eq_true rfl, Nat.le_of_ble_eq_true rfl⟩ hP hD p1 rfl rfl hl.1 rfl (lv_room (Nat.le_of_ble_eq_true rfl)) dX5_stepsBetween_8 ⟨Nat.zero_le _, Nat.zero_le _⟩) hP hD hS p1 (fun r_1 _ w H locs h hw hP hD hS => ?_)
  subst hw
  clear p1
  have p2 := gB (n := 0) (bs := []) (bc := []) (br := []) [] rfl rfl (by decide)
  have hP := gP_perm p2.symm hP
  have hD := gD_perm p2.symm hD
  clear p2
  refine lv_iload_n hx hb dX5_stepsBetween_11 rfl (lv_at hl 0 rfl) ?_
  refine lv_bipush (v := 10) hx hb dX5_stepsBetween_12 (by decide) ?_
  refine lv_idiv hx hb dX5_stepsBetween_14 (by decide) ?_
  refine lv_bipush (v := 10) hx hb dX5_stepsBetween_15 (by decide) ?_
  refine lv_irem hx hb dX5_stepsBetween_17 (by decide) ?_
  refine lv_iload_n hx hb dX5_stepsBetween_18 rfl (lv_at hl 1 rfl) ?_
  refine lv_bipush (v := 10) hx hb dX5_stepsBetween_19 (by decide) ?_
  refine lv_idiv hx hb dX5_stepsBetween_21 (by decide) ?_
  refine lv_bipush (v := 10) hx hb dX5_stepsBetween_22 (by decide) ?_
  refine lv_irem hx hb dX5_stepsBetween_24 (by decide) ?_
  have p1 := gB (n := 0) (bs := []) (bc := []) (br := []) [] rfl rfl (by decide)
  refine g_i (g_runS (As := [.int ((x0 / 10) - (x0 / 10) / 10 * 10), .int ((x1 / 10) - (x1 / 10) / 10 * 10)]) (rest := [.int r_1]) ⟨hx, hb, hml, hown, ht⟩ hE (c_X5_turns E l ((x0 / 10) - (x0 / 10) / 10 * 10) ((x1 / 10) - (x1 / 10) / 10 * 10) _ h) ⟨rfl, rfl⟩ wk_X5_250 wt_X5_turns wn_X5 wc_X5_turns yd_X5_turns ⟨Nat.le_of_ble_eq_true rfl, Nat.le_of_ble_eq_true rfl⟩ hP hD p1 rfl rfl hl.1 rfl (lv_room (Nat.le_of_ble_eq_true rfl)) dX5_stepsBetween_25 ⟨Nat.zero_le _, Nat.zero_le _⟩) hP hD hS p1 (fun r_2 _ w H locs h hw hP hD hS => ?_)
  subst hw
  clear p1
  have p2 := gB (n := 0) (bs := []) (bc := []) (br := []) [] rfl rfl (by decide)
  have hP := gP_perm p2.symm hP
  have hD := gD_perm p2.symm hD
  clear p2
  refine lv_iadd hx hb dX5_stepsBetween_28 ?_
  refine lv_iload_n hx hb dX5_stepsBetween_29 rfl (lv_at hl 0 rfl) ?_
  refine lv_bipush (v := 100) hx hb dX5_stepsBetween_30 (by decide) ?_
  refine lv_idiv hx hb dX5_stepsBetween_32 (by decide) ?_
  refine lv_iload_n hx hb dX5_stepsBetween_33 rfl (lv_at hl 1 rfl) ?_
  refine lv_bipush (v := 100) hx hb dX5_stepsBetween_34 (by decide) ?_
  refine lv_idiv hx hb dX5_stepsBetween_36 (by decide) ?_
  have p1 := gB (n := 0) (bs := []) (bc := []) (br := []) [] rfl rfl (by decide)
  refine g_i (g_runS (As := [.int (x0 / 100), .int (x1 / 100)]) (rest := [.int (r_1 + r_2)]) ⟨hx, hb, hml, hown, ht⟩ hE (c_X5_turns E l (x0 / 100) (x1 / 100) _ h) ⟨rfl, rfl⟩ wk_X5_250 wt_X5_turns wn_X5 wc_X5_turns yd_X5_turns ⟨Nat.le_of_ble_eq_true rfl, Nat.le_of_ble_eq_true rfl⟩ hP hD p1 rfl rfl hl.1 rfl (lv_room (Nat.le_of_ble_eq_true rfl)) dX5_stepsBetween_37 ⟨Nat.zero_le _, Nat.zero_le _⟩) hP hD hS p1 (fun r_3 _ w H locs h hw hP hD hS => ?_)
  subst hw
  clear p1
  have p2 := gB (n := 0) (bs := []) (bc := []) (br := []) [] rfl rfl (by decide)
  have hP := gP_perm p2.symm hP
  have hD := gD_perm p2.symm hD
  clear p2
  refine lv_iadd hx hb dX5_stepsBetween_40 ?_
  exact hret ((r_1 + r_2) + r_3) () _ _ _ _ _ h rfl hP hD hS dX5_stepsBetween_41
theorem dX5_greatestDivisor_0 : decode cX5_greatestDivisor 0 = .ok (.iload_n 0, 1) := by decide +kernel
theorem dX5_greatestDivisor_1 : decode cX5_greatestDivisor 1 = .ok (.istore_n 2, 1) := by decide +kernel
theorem dX5_greatestDivisor_2 : decode cX5_greatestDivisor 2 = .ok (.iload_n 1, 1) := by decide +kernel
theorem dX5_greatestDivisor_3 : decode cX5_greatestDivisor 3 = .ok (.istore_n 3, 1) := by decide +kernel
theorem dX5_greatestDivisor_4 : decode cX5_greatestDivisor 4 = .ok (.iconst 0, 1) := by decide +kernel
theorem dX5_greatestDivisor_5 : decode cX5_greatestDivisor 5 = .ok (.istore 4, 2) := by decide +kernel
theorem dX5_greatestDivisor_7 : decode cX5_greatestDivisor 7 = .ok (.iload 4, 2) := by decide +kernel
theorem dX5_greatestDivisor_9 : decode cX5_greatestDivisor 9 = .ok (.bipush 64, 2) := by decide +kernel
theorem dX5_greatestDivisor_11 : decode cX5_greatestDivisor 11 = .ok (.if_icmp .ge 23, 3) := by decide +kernel
theorem dX5_greatestDivisor_14 : decode cX5_greatestDivisor 14 = .ok (.iload_n 3, 1) := by decide +kernel
theorem dX5_greatestDivisor_15 : decode cX5_greatestDivisor 15 = .ok (.ifCond .eq 19, 3) := by decide +kernel
theorem dX5_greatestDivisor_18 : decode cX5_greatestDivisor 18 = .ok (.iload_n 2, 1) := by decide +kernel
theorem dX5_greatestDivisor_19 : decode cX5_greatestDivisor 19 = .ok (.iload_n 3, 1) := by decide +kernel
theorem dX5_greatestDivisor_20 : decode cX5_greatestDivisor 20 = .ok (.irem, 1) := by decide +kernel
theorem dX5_greatestDivisor_21 : decode cX5_greatestDivisor 21 = .ok (.istore 5, 2) := by decide +kernel
theorem dX5_greatestDivisor_23 : decode cX5_greatestDivisor 23 = .ok (.iload_n 3, 1) := by decide +kernel
theorem dX5_greatestDivisor_24 : decode cX5_greatestDivisor 24 = .ok (.istore_n 2, 1) := by decide +kernel
theorem dX5_greatestDivisor_25 : decode cX5_greatestDivisor 25 = .ok (.iload 5, 2) := by decide +kernel
theorem dX5_greatestDivisor_27 : decode cX5_greatestDivisor 27 = .ok (.istore_n 3, 1) := by decide +kernel
theorem dX5_greatestDivisor_28 : decode cX5_greatestDivisor 28 = .ok (.iinc 4 1, 3) := by decide +kernel
theorem dX5_greatestDivisor_31 : decode cX5_greatestDivisor 31 = .ok (.goto (-24), 3) := by decide +kernel
theorem dX5_greatestDivisor_34 : decode cX5_greatestDivisor 34 = .ok (.iload_n 2, 1) := by decide +kernel
theorem dX5_greatestDivisor_35 : decode cX5_greatestDivisor 35 = .ok (.ireturn, 1) := by decide +kernel
set_option maxHeartbeats 4000000 in
set_option maxRecDepth 100000 in
theorem c_X5_greatestDivisor (E : GE) (l : Launch) (x0 : Int32) (x1 : Int32) (post : Int32 → Prop) (h : wp_X5_greatestDivisor x0 x1 post) : Met l yX5_greatestDivisor (wz yX5_greatestDivisor cX5_greatestDivisor 6 (some .int)) { frames := 0, cells := 0, slots := 0, locals := 0 } (gPc E [.int x0, .int x1] (gW [])) (gQi E (gW []) (fun r (_ : Unit) => post r) (fun (_ : Unit) w => w = gW [])) 0 0 (gIn (gW [])) := by
  unfold wp_X5_greatestDivisor at h
  refine g_of_i (by decide) (Nat.le_of_ble_eq_true rfl) ?_
  intro p e s m below meth c A Q hx hb hml hown ht hE hP hD hret ls hl
  have hK := hE.1
  have hS : va_S A s.heap s.heap [] := va_S.rf
  have hl : lv_has ls 6 [(0, .int x0), (1, .int x1)] := hl
  refine lv_iload_n hx hb dX5_greatestDivisor_0 rfl (lv_at hl 0 rfl) ?_
  refine lv_istore_n (lv' := [(2, .int x0), (0, .int x0), (1, .int x1)]) hx hb dX5_greatestDivisor_1 rfl hl (by decide) rfl (fun ls hl => ?_)
  refine lv_iload_n hx hb dX5_greatestDivisor_2 rfl (lv_at hl 2 rfl) ?_
  refine lv_istore_n (lv' := [(3, .int x1), (2, .int x0), (0, .int x0), (1, .int x1)]) hx hb dX5_greatestDivisor_3 rfl hl (by decide) rfl (fun ls hl => ?_)
  refine lv_iconst (v := 0) hx hb dX5_greatestDivisor_4 (by decide) ?_
  refine lv_istore (lv' := [(4, .int 0), (3, .int x1), (2, .int x0), (0, .int x0), (1, .int x1)]) hx hb dX5_greatestDivisor_5 hl (by decide) rfl (fun ls hl => ?_)
  have L7 : ∀ (n7 : Nat) (x2_7 : Int32) (x3_7 : Int32) (x4_7 : Int32) (H : Heap) (locs : List Loc) (ls : Array Slot), wp_X5_greatestDivisor_L7 post x0 x1 n7 x2_7 x3_7 x4_7 → gP E (gW []) H → va_D A (gW []) → va_S A s.heap H locs → lv_has ls 6 [(0, .int x0), (1, .int x1), (2, .int x2_7), (3, .int x3_7), (4, .int x4_7)] → W p l e { frames := 0, cells := 0, slots := 0, locals := 0 } s m ([.int x0, .int x1] : List Value).toArray below meth c H locs 0 0 Q (F0 m 7 ls []) := by
    intro n7
    induction n7 with
    | zero => intro x2_7 x3_7 x4_7 H locs ls h; exact h.elim
    | succ n7 ih7 =>
      intro x2_7 x3_7 x4_7 H locs ls h hP hD hS hl
      rw [wp_X5_greatestDivisor_L7] at h
      refine lv_iload hx hb dX5_greatestDivisor_7 (lv_at hl 4 rfl) ?_
      refine lv_bipush (v := 64) hx hb dX5_greatestDivisor_9 (by decide) ?_
      refine lv_icmp_ge (tgt := 34) hx hb dX5_greatestDivisor_11 (by decide) (fun c_3 => ?_) (fun c_3 => ?_)
      · have h := h.1 c_3
        refine lv_iload_n hx hb dX5_greatestDivisor_34 rfl (lv_at hl 2 rfl) ?_
        exact hret x2_7 () _ _ _ _ _ h rfl hP hD hS dX5_greatestDivisor_35
      · have h := h.2 c_3
        refine lv_iload_n hx hb dX5_greatestDivisor_14 rfl (lv_at hl 3 rfl) ?_
        refine lv_if_eq (tgt := 34) hx hb dX5_greatestDivisor_15 (by decide) (fun c_4 => ?_) (fun c_4 => ?_)
        · have h := h.1 c_4
          refine lv_iload_n hx hb dX5_greatestDivisor_34 rfl (lv_at hl 2 rfl) ?_
          exact hret x2_7 () _ _ _ _ _ h rfl hP hD hS dX5_greatestDivisor_35
        · have h := h.2 c_4
          refine lv_iload_n hx hb dX5_greatestDivisor_18 rfl (lv_at hl 2 rfl) ?_
          refine lv_iload_n hx hb dX5_greatestDivisor_19 rfl (lv_at hl 3 rfl) ?_
          refine lv_irem hx hb dX5_greatestDivisor_20 h.1 ?_
          have h := h.2
          refine lv_istore (lv' := [(5, .int (x2_7 - x2_7 / x3_7 * x3_7)), (0, .int x0), (1, .int x1), (2, .int x2_7), (3, .int x3_7), (4, .int x4_7)]) hx hb dX5_greatestDivisor_21 hl (by decide) rfl (fun ls hl => ?_)
          refine lv_iload_n hx hb dX5_greatestDivisor_23 rfl (lv_at hl 4 rfl) ?_
          refine lv_istore_n (lv' := [(2, .int x3_7), (5, .int (x2_7 - x2_7 / x3_7 * x3_7)), (0, .int x0), (1, .int x1), (3, .int x3_7), (4, .int x4_7)]) hx hb dX5_greatestDivisor_24 rfl hl (by decide) rfl (fun ls hl => ?_)
          refine lv_iload hx hb dX5_greatestDivisor_25 (lv_at hl 1 rfl) ?_
          refine lv_istore_n (lv' := [(3, .int (x2_7 - x2_7 / x3_7 * x3_7)), (2, .int x3_7), (5, .int (x2_7 - x2_7 / x3_7 * x3_7)), (0, .int x0), (1, .int x1), (4, .int x4_7)]) hx hb dX5_greatestDivisor_27 rfl hl (by decide) rfl (fun ls hl => ?_)
          refine lv_iinc (v := (x4_7 + 1)) (lv' := [(4, .int (x4_7 + 1)), (3, .int (x2_7 - x2_7 / x3_7 * x3_7)), (2, .int x3_7), (5, .int (x2_7 - x2_7 / x3_7 * x3_7)), (0, .int x0), (1, .int x1)]) hx hb dX5_greatestDivisor_28 hl (k := 5) rfl rfl (by decide) rfl (fun ls hl => ?_)
          refine lv_goto (tgt := 7) hx hb dX5_greatestDivisor_31 (by decide) ?_
          exact ih7 x3_7 (x2_7 - x2_7 / x3_7 * x3_7) (x4_7 + 1) _ _ _ h hP hD hS (lv_sub hl [4, 5, 2, 1, 0] rfl)
  obtain ⟨n7, h⟩ := h
  exact L7 n7 x0 x1 0 _ _ _ h hP hD hS (lv_sub hl [3, 4, 2, 1, 0] rfl)
theorem dX1_reset_0 : decode cX1_reset 0 = .ok (.aload_n 0, 1) := by decide +kernel
theorem dX1_reset_1 : decode cX1_reset 1 = .ok (.getfield 9, 3) := by decide +kernel
theorem dX1_reset_4 : decode cX1_reset 4 = .ok (.iconst 0, 1) := by decide +kernel
theorem dX1_reset_5 : decode cX1_reset 5 = .ok (.invokestatic 28, 3) := by decide +kernel
theorem dX1_reset_8 : decode cX1_reset 8 = .ok (.aload_n 0, 1) := by decide +kernel
theorem dX1_reset_9 : decode cX1_reset 9 = .ok (.getfield 15, 3) := by decide +kernel
theorem dX1_reset_12 : decode cX1_reset 12 = .ok (.iconst 0, 1) := by decide +kernel
theorem dX1_reset_13 : decode cX1_reset 13 = .ok (.invokestatic 28, 3) := by decide +kernel
theorem dX1_reset_16 : decode cX1_reset 16 = .ok (.aload_n 0, 1) := by decide +kernel
theorem dX1_reset_17 : decode cX1_reset 17 = .ok (.getfield 18, 3) := by decide +kernel
theorem dX1_reset_20 : decode cX1_reset 20 = .ok (.iconst 0, 1) := by decide +kernel
theorem dX1_reset_21 : decode cX1_reset 21 = .ok (.invokestatic 28, 3) := by decide +kernel
theorem dX1_reset_24 : decode cX1_reset 24 = .ok (.aload_n 0, 1) := by decide +kernel
theorem dX1_reset_25 : decode cX1_reset 25 = .ok (.iconst 3, 1) := by decide +kernel
theorem dX1_reset_26 : decode cX1_reset 26 = .ok (.putfield 21, 3) := by decide +kernel
theorem dX1_reset_29 : decode cX1_reset 29 = .ok (.aload_n 0, 1) := by decide +kernel
theorem dX1_reset_30 : decode cX1_reset 30 = .ok (.iconst 0, 1) := by decide +kernel
theorem dX1_reset_31 : decode cX1_reset 31 = .ok (.putfield 25, 3) := by decide +kernel
theorem dX1_reset_34 : decode cX1_reset 34 = .ok (.return_, 1) := by decide +kernel
set_option maxHeartbeats 4000000 in
set_option maxRecDepth 100000 in
theorem c_X1_reset (E : GE) (l : Launch) (a0 : Nat → Nat) (S0 : Ob) (post : Ob → Prop) (h : wp_X1_reset S0 post) : Met l yX1_reset (wz yX1_reset cX1_reset 1 none) { frames := 1, cells := 0, slots := 0, locals := 23 } (gPc E [.ref (a0 99)] (gW [bPlan E a0 S0])) (gQv E (gW [bPlan E a0 S0]) (fun (u : Ob) => post u) (fun (u : Ob) w => w = gW [bPlan E a0 u])) 0 0 (gIn (gW [bPlan E a0 S0])) := by
  unfold wp_X1_reset at h
  refine g_of_v (by decide) (Nat.le_of_ble_eq_true rfl) ?_
  intro p e s m below meth c A Q hx hb hml hown ht hE hP hD hret ls hl
  have hK := hE.1
  have hS : va_S A s.heap s.heap [] := va_S.rf
  have hl : lv_has ls 1 [(0, .ref (a0 99))] := hl
  refine lv_aload_n hx hb dX1_reset_0 rfl (lv_at hl 0 rfl) ?_
  refine va_get (D := (E.1, E.2.1)) (ci := 1) (v := .ref (a0 0)) (C := RX1) (T := TX1) (N := 5) hx hb ht wu_X1 hown hK hP 0 rfl rfl 0 (by decide) (ht _ wk_X1_9) (fun _ h9 => h9) rfl dX1_reset_1 ?_
  refine lv_iconst (v := 0) hx hb dX1_reset_4 (by decide) ?_
  have p1 := g_c1 (ws := gW [bPlan E a0 S0]) (c := 1) (x := bInt E (a0 0) 8 (S0.2 0)) rfl
  have p2 := g_c2 (ws := gW [bPlan E a0 S0]) (c := 1) (x := bInt E (a0 0) 8 (S0.2 0)) (x' := bInt E (a0 0) 8 (afill 8 (S0.2 0) 0)) rfl
  refine g_v (g_runS (As := [.ref (a0 0), .int 0]) (rest := []) ⟨hx, hb, hml, hown, ht⟩ hE (c_J7_fill_53178 E l (a0 0) 8 (Nat.le_of_ble_eq_true rfl) (S0.2 0) 0) ⟨rfl, rfl⟩ wk_X1_28 wt_J7_fill_53178 wn_J7 wc_J7_fill_53178 yd_J7_fill_53178 ⟨Nat.le_of_ble_eq_true rfl, Nat.le_of_ble_eq_true rfl⟩ hP hD p1 rfl rfl hl.1 rfl (lv_room (Nat.le_of_ble_eq_true rfl)) dX1_reset_5 ⟨Nat.zero_le _, Nat.zero_le _⟩) hP hD hS p1 (fun _ w H locs _ hw hP hD hS => ?_)
  subst hw
  have hP := gP_perm p2 hP
  have hD := gD_perm p2 hD
  clear p1 p2
  have hP : gP E (gW [bPlan E a0 (pw S0 0 (afill 8 (S0.2 0) 0))]) H := hP
  have hD : va_D A (gW [bPlan E a0 (pw S0 0 (afill 8 (S0.2 0) 0))]) := hD
  refine lv_aload_n hx hb dX1_reset_8 rfl (lv_at hl 0 rfl) ?_
  refine va_get (D := (E.1, E.2.1)) (ci := 1) (v := .ref (a0 1)) (C := RX1) (T := TX1) (N := 5) hx hb ht wu_X1 hown hK hP 0 rfl rfl 1 (by decide) (ht _ wk_X1_15) (fun _ h9 => h9) rfl dX1_reset_9 ?_
  refine lv_iconst (v := 0) hx hb dX1_reset_12 (by decide) ?_
  have p1 := g_c1 (ws := gW [bPlan E a0 (pw S0 0 (afill 8 (S0.2 0) 0))]) (c := 2) (x := bInt E (a0 1) 8 ((pw S0 0 (afill 8 (S0.2 0) 0)).2 1)) rfl
  have p2 := g_c2 (ws := gW [bPlan E a0 (pw S0 0 (afill 8 (S0.2 0) 0))]) (c := 2) (x := bInt E (a0 1) 8 ((pw S0 0 (afill 8 (S0.2 0) 0)).2 1)) (x' := bInt E (a0 1) 8 (afill 8 ((pw S0 0 (afill 8 (S0.2 0) 0)).2 1) 0)) rfl
  refine g_v (g_runS (As := [.ref (a0 1), .int 0]) (rest := []) ⟨hx, hb, hml, hown, ht⟩ hE (c_J7_fill_53178 E l (a0 1) 8 (Nat.le_of_ble_eq_true rfl) ((pw S0 0 (afill 8 (S0.2 0) 0)).2 1) 0) ⟨rfl, rfl⟩ wk_X1_28 wt_J7_fill_53178 wn_J7 wc_J7_fill_53178 yd_J7_fill_53178 ⟨Nat.le_of_ble_eq_true rfl, Nat.le_of_ble_eq_true rfl⟩ hP hD p1 rfl rfl hl.1 rfl (lv_room (Nat.le_of_ble_eq_true rfl)) dX1_reset_13 ⟨Nat.zero_le _, Nat.zero_le _⟩) hP hD hS p1 (fun _ w H locs _ hw hP hD hS => ?_)
  subst hw
  have hP := gP_perm p2 hP
  have hD := gD_perm p2 hD
  clear p1 p2
  have hP : gP E (gW [bPlan E a0 (pw (pw S0 0 (afill 8 (S0.2 0) 0)) 1 (afill 8 ((pw S0 0 (afill 8 (S0.2 0) 0)).2 1) 0))]) H := hP
  have hD : va_D A (gW [bPlan E a0 (pw (pw S0 0 (afill 8 (S0.2 0) 0)) 1 (afill 8 ((pw S0 0 (afill 8 (S0.2 0) 0)).2 1) 0))]) := hD
  refine lv_aload_n hx hb dX1_reset_16 rfl (lv_at hl 0 rfl) ?_
  refine va_get (D := (E.1, E.2.1)) (ci := 1) (v := .ref (a0 2)) (C := RX1) (T := TX1) (N := 5) hx hb ht wu_X1 hown hK hP 0 rfl rfl 2 (by decide) (ht _ wk_X1_18) (fun _ h9 => h9) rfl dX1_reset_17 ?_
  refine lv_iconst (v := 0) hx hb dX1_reset_20 (by decide) ?_
  have p1 := g_c1 (ws := gW [bPlan E a0 (pw (pw S0 0 (afill 8 (S0.2 0) 0)) 1 (afill 8 ((pw S0 0 (afill 8 (S0.2 0) 0)).2 1) 0))]) (c := 3) (x := bInt E (a0 2) 6 ((pw (pw S0 0 (afill 8 (S0.2 0) 0)) 1 (afill 8 ((pw S0 0 (afill 8 (S0.2 0) 0)).2 1) 0)).2 2)) rfl
  have p2 := g_c2 (ws := gW [bPlan E a0 (pw (pw S0 0 (afill 8 (S0.2 0) 0)) 1 (afill 8 ((pw S0 0 (afill 8 (S0.2 0) 0)).2 1) 0))]) (c := 3) (x := bInt E (a0 2) 6 ((pw (pw S0 0 (afill 8 (S0.2 0) 0)) 1 (afill 8 ((pw S0 0 (afill 8 (S0.2 0) 0)).2 1) 0)).2 2)) (x' := bInt E (a0 2) 6 (afill 6 ((pw (pw S0 0 (afill 8 (S0.2 0) 0)) 1 (afill 8 ((pw S0 0 (afill 8 (S0.2 0) 0)).2 1) 0)).2 2) 0)) rfl
  refine g_v (g_runS (As := [.ref (a0 2), .int 0]) (rest := []) ⟨hx, hb, hml, hown, ht⟩ hE (c_J7_fill_53178 E l (a0 2) 6 (Nat.le_of_ble_eq_true rfl) ((pw (pw S0 0 (afill 8 (S0.2 0) 0)) 1 (afill 8 ((pw S0 0 (afill 8 (S0.2 0) 0)).2 1) 0)).2 2) 0) ⟨rfl, rfl⟩ wk_X1_28 wt_J7_fill_53178 wn_J7 wc_J7_fill_53178 yd_J7_fill_53178 ⟨Nat.le_of_ble_eq_true rfl, Nat.le_of_ble_eq_true rfl⟩ hP hD p1 rfl rfl hl.1 rfl (lv_room (Nat.le_of_ble_eq_true rfl)) dX1_reset_21 ⟨Nat.zero_le _, Nat.zero_le _⟩) hP hD hS p1 (fun _ w H locs _ hw hP hD hS => ?_)
  subst hw
  have hP := gP_perm p2 hP
  have hD := gD_perm p2 hD
  clear p1 p2
  have hP : gP E (gW [bPlan E a0 (pw (pw (pw S0 0 (afill 8 (S0.2 0) 0)) 1 (afill 8 ((pw S0 0 (afill 8 (S0.2 0) 0)).2 1) 0)) 2 (afill 6 ((pw (pw S0 0 (afill 8 (S0.2 0) 0)) 1 (afill 8 ((pw S0 0 (afill 8 (S0.2 0) 0)).2 1) 0)).2 2) 0))]) H := hP
  have hD : va_D A (gW [bPlan E a0 (pw (pw (pw S0 0 (afill 8 (S0.2 0) 0)) 1 (afill 8 ((pw S0 0 (afill 8 (S0.2 0) 0)).2 1) 0)) 2 (afill 6 ((pw (pw S0 0 (afill 8 (S0.2 0) 0)) 1 (afill 8 ((pw S0 0 (afill 8 (S0.2 0) 0)).2 1) 0)).2 2) 0))]) := hD
  refine lv_aload_n hx hb dX1_reset_24 rfl (lv_at hl 0 rfl) ?_
  refine lv_iconst (v := 3) hx hb dX1_reset_25 (by decide) ?_
  refine va_put (D := (E.1, E.2.1)) (ci := 1) (v := .int 3) (ty := .int) (C := RX1) (T := TX1) (N := 5) hx hb ht wu_X1 tyX1 tyX1_ok nmX1 hown hK hP hD hS 0 rfl rfl 3 (by decide) (ht _ wk_X1_21) (fun _ h9 => h9) rfl (by decide +kernel) rfl rfl (Nat.le_of_ble_eq_true rfl) dX1_reset_26 (fun H locs hP hD hS => ?_)
  have hP : gP E (gW [bPlan E a0 (pf (pw (pw (pw S0 0 (afill 8 (S0.2 0) 0)) 1 (afill 8 ((pw S0 0 (afill 8 (S0.2 0) 0)).2 1) 0)) 2 (afill 6 ((pw (pw S0 0 (afill 8 (S0.2 0) 0)) 1 (afill 8 ((pw S0 0 (afill 8 (S0.2 0) 0)).2 1) 0)).2 2) 0)) 3 3)]) H := hP
  have hD : va_D A (gW [bPlan E a0 (pf (pw (pw (pw S0 0 (afill 8 (S0.2 0) 0)) 1 (afill 8 ((pw S0 0 (afill 8 (S0.2 0) 0)).2 1) 0)) 2 (afill 6 ((pw (pw S0 0 (afill 8 (S0.2 0) 0)) 1 (afill 8 ((pw S0 0 (afill 8 (S0.2 0) 0)).2 1) 0)).2 2) 0)) 3 3)]) := hD
  obtain ⟨S_1, eS_1⟩ : ∃ z : Ob, z = (pf (pw (pw (pw S0 0 (afill 8 (S0.2 0) 0)) 1 (afill 8 ((pw S0 0 (afill 8 (S0.2 0) 0)).2 1) 0)) 2 (afill 6 ((pw (pw S0 0 (afill 8 (S0.2 0) 0)) 1 (afill 8 ((pw S0 0 (afill 8 (S0.2 0) 0)).2 1) 0)).2 2) 0)) 3 3) := ⟨_, rfl⟩
  have h := h S_1 eS_1
  rw [← eS_1] at hP hD
  refine lv_aload_n hx hb dX1_reset_29 rfl (lv_at hl 0 rfl) ?_
  refine lv_iconst (v := 0) hx hb dX1_reset_30 (by decide) ?_
  refine va_put (D := (E.1, E.2.1)) (ci := 1) (v := .int 0) (ty := .int) (C := RX1) (T := TX1) (N := 5) hx hb ht wu_X1 tyX1 tyX1_ok nmX1 hown hK hP hD hS 0 rfl rfl 4 (by decide) (ht _ wk_X1_25) (fun _ h9 => h9) rfl (by decide +kernel) rfl rfl (Nat.le_of_ble_eq_true rfl) dX1_reset_31 (fun H locs hP hD hS => ?_)
  have hP : gP E (gW [bPlan E a0 (pf S_1 4 0)]) H := hP
  have hD : va_D A (gW [bPlan E a0 (pf S_1 4 0)]) := hD
  exact hret (pf S_1 4 0) _ _ _ _ _ h rfl hP hD hS dX1_reset_34
theorem dX1_addLock_0 : decode cX1_addLock 0 = .ok (.aload_n 0, 1) := by decide +kernel
theorem dX1_addLock_1 : decode cX1_addLock 1 = .ok (.getfield 25, 3) := by decide +kernel
theorem dX1_addLock_4 : decode cX1_addLock 4 = .ok (.bipush 8, 2) := by decide +kernel
theorem dX1_addLock_6 : decode cX1_addLock 6 = .ok (.if_icmp .ge 23, 3) := by decide +kernel
theorem dX1_addLock_9 : decode cX1_addLock 9 = .ok (.aload_n 0, 1) := by decide +kernel
theorem dX1_addLock_10 : decode cX1_addLock 10 = .ok (.getfield 9, 3) := by decide +kernel
theorem dX1_addLock_13 : decode cX1_addLock 13 = .ok (.aload_n 0, 1) := by decide +kernel
theorem dX1_addLock_14 : decode cX1_addLock 14 = .ok (.getfield 25, 3) := by decide +kernel
theorem dX1_addLock_17 : decode cX1_addLock 17 = .ok (.iload_n 1, 1) := by decide +kernel
theorem dX1_addLock_18 : decode cX1_addLock 18 = .ok (.iastore, 1) := by decide +kernel
theorem dX1_addLock_19 : decode cX1_addLock 19 = .ok (.aload_n 0, 1) := by decide +kernel
theorem dX1_addLock_20 : decode cX1_addLock 20 = .ok (.dup, 1) := by decide +kernel
theorem dX1_addLock_21 : decode cX1_addLock 21 = .ok (.getfield 25, 3) := by decide +kernel
theorem dX1_addLock_24 : decode cX1_addLock 24 = .ok (.iconst 1, 1) := by decide +kernel
theorem dX1_addLock_25 : decode cX1_addLock 25 = .ok (.iadd, 1) := by decide +kernel
theorem dX1_addLock_26 : decode cX1_addLock 26 = .ok (.putfield 25, 3) := by decide +kernel
theorem dX1_addLock_29 : decode cX1_addLock 29 = .ok (.return_, 1) := by decide +kernel
set_option maxHeartbeats 4000000 in
set_option maxRecDepth 100000 in
theorem c_X1_addLock (E : GE) (l : Launch) (a0 : Nat → Nat) (S0 : Ob) (x1 : Int32) (post : Ob → Prop) (h : wp_X1_addLock S0 x1 post) : Met l yX1_addLock (wz yX1_addLock cX1_addLock 2 none) { frames := 0, cells := 0, slots := 0, locals := 0 } (gPc E [.ref (a0 99), .int x1] (gW [bPlan E a0 S0])) (gQv E (gW [bPlan E a0 S0]) (fun (u : Ob) => post u) (fun (u : Ob) w => w = gW [bPlan E a0 u])) 0 0 (gIn (gW [bPlan E a0 S0])) := by
  unfold wp_X1_addLock at h
  refine g_of_v (by decide) (Nat.le_of_ble_eq_true rfl) ?_
  intro p e s m below meth c A Q hx hb hml hown ht hE hP hD hret ls hl
  have hK := hE.1
  have hS : va_S A s.heap s.heap [] := va_S.rf
  have hl : lv_has ls 2 [(0, .ref (a0 99)), (1, .int x1)] := hl
  refine lv_aload_n hx hb dX1_addLock_0 rfl (lv_at hl 0 rfl) ?_
  refine va_get (D := (E.1, E.2.1)) (ci := 1) (v := .int (S0.1 4)) (C := RX1) (T := TX1) (N := 5) hx hb ht wu_X1 hown hK hP 0 rfl rfl 4 (by decide) (ht _ wk_X1_25) (fun _ h9 => h9) rfl dX1_addLock_1 ?_
  refine lv_bipush (v := 8) hx hb dX1_addLock_4 (by decide) ?_
  refine lv_icmp_ge (tgt := 29) hx hb dX1_addLock_6 (by decide) (fun c_1 => ?_) (fun c_1 => ?_)
  · have h := h.1 c_1
    exact hret S0 _ _ _ _ _ h rfl hP hD hS dX1_addLock_29
  · have h := h.2 c_1
    refine lv_aload_n hx hb dX1_addLock_9 rfl (lv_at hl 0 rfl) ?_
    refine va_get (D := (E.1, E.2.1)) (ci := 1) (v := .ref (a0 0)) (C := RX1) (T := TX1) (N := 5) hx hb ht wu_X1 hown hK hP 0 rfl rfl 0 (by decide) (ht _ wk_X1_9) (fun _ h9 => h9) rfl dX1_addLock_10 ?_
    refine lv_aload_n hx hb dX1_addLock_13 rfl (lv_at hl 0 rfl) ?_
    refine va_get (D := (E.1, E.2.1)) (ci := 1) (v := .int (S0.1 4)) (C := RX1) (T := TX1) (N := 5) hx hb ht wu_X1 hown hK hP 0 rfl rfl 4 (by decide) (ht _ wk_X1_25) (fun _ h9 => h9) rfl dX1_addLock_14 ?_
    refine lv_iload_n hx hb dX1_addLock_17 rfl (lv_at hl 1 rfl) ?_
    refine va_iast hx hb hK hP hD hS 1 0 rfl rfl h.1 dX1_addLock_18 (fun H locs hP hD hS => ?_)
    have h := h.2
    have hP : gP E (gW [bPlan E a0 (pa S0 0 ((S0.1 4).toNatClampNeg) x1)]) H := hP
    have hD : va_D A (gW [bPlan E a0 (pa S0 0 ((S0.1 4).toNatClampNeg) x1)]) := hD
    obtain ⟨S_2, eS_2⟩ : ∃ z : Ob, z = (pa S0 0 ((S0.1 4).toNatClampNeg) x1) := ⟨_, rfl⟩
    have h := h S_2 eS_2
    rw [← eS_2] at hP hD
    refine lv_aload_n hx hb dX1_addLock_19 rfl (lv_at hl 0 rfl) ?_
    refine lv_dup hx hb dX1_addLock_20 rfl ?_
    refine va_get (D := (E.1, E.2.1)) (ci := 1) (v := .int (S_2.1 4)) (C := RX1) (T := TX1) (N := 5) hx hb ht wu_X1 hown hK hP 0 rfl rfl 4 (by decide) (ht _ wk_X1_25) (fun _ h9 => h9) rfl dX1_addLock_21 ?_
    refine lv_iconst (v := 1) hx hb dX1_addLock_24 (by decide) ?_
    refine lv_iadd hx hb dX1_addLock_25 ?_
    refine va_put (D := (E.1, E.2.1)) (ci := 1) (v := .int ((S_2.1 4) + 1)) (ty := .int) (C := RX1) (T := TX1) (N := 5) hx hb ht wu_X1 tyX1 tyX1_ok nmX1 hown hK hP hD hS 0 rfl rfl 4 (by decide) (ht _ wk_X1_25) (fun _ h9 => h9) rfl (by decide +kernel) rfl rfl (Nat.le_of_ble_eq_true rfl) dX1_addLock_26 (fun H locs hP hD hS => ?_)
    have hP : gP E (gW [bPlan E a0 (pf S_2 4 ((S_2.1 4) + 1))]) H := hP
    have hD : va_D A (gW [bPlan E a0 (pf S_2 4 ((S_2.1 4) + 1))]) := hD
    exact hret (pf S_2 4 ((S_2.1 4) + 1)) _ _ _ _ _ h rfl hP hD hS dX1_addLock_29
theorem dX1_befriend_0 : decode cX1_befriend 0 = .ok (.aload_n 0, 1) := by decide +kernel
theorem dX1_befriend_1 : decode cX1_befriend 1 = .ok (.getfield 18, 3) := by decide +kernel
theorem dX1_befriend_4 : decode cX1_befriend 4 = .ok (.iload_n 1, 1) := by decide +kernel
theorem dX1_befriend_5 : decode cX1_befriend 5 = .ok (.dup2, 1) := by decide +kernel
theorem dX1_befriend_6 : decode cX1_befriend 6 = .ok (.iaload, 1) := by decide +kernel
theorem dX1_befriend_7 : decode cX1_befriend 7 = .ok (.iconst 1, 1) := by decide +kernel
theorem dX1_befriend_8 : decode cX1_befriend 8 = .ok (.iload_n 2, 1) := by decide +kernel
theorem dX1_befriend_9 : decode cX1_befriend 9 = .ok (.ishl, 1) := by decide +kernel
theorem dX1_befriend_10 : decode cX1_befriend 10 = .ok (.ior, 1) := by decide +kernel
theorem dX1_befriend_11 : decode cX1_befriend 11 = .ok (.iastore, 1) := by decide +kernel
theorem dX1_befriend_12 : decode cX1_befriend 12 = .ok (.aload_n 0, 1) := by decide +kernel
theorem dX1_befriend_13 : decode cX1_befriend 13 = .ok (.getfield 18, 3) := by decide +kernel
theorem dX1_befriend_16 : decode cX1_befriend 16 = .ok (.iload_n 2, 1) := by decide +kernel
theorem dX1_befriend_17 : decode cX1_befriend 17 = .ok (.dup2, 1) := by decide +kernel
theorem dX1_befriend_18 : decode cX1_befriend 18 = .ok (.iaload, 1) := by decide +kernel
theorem dX1_befriend_19 : decode cX1_befriend 19 = .ok (.iconst 1, 1) := by decide +kernel
theorem dX1_befriend_20 : decode cX1_befriend 20 = .ok (.iload_n 1, 1) := by decide +kernel
theorem dX1_befriend_21 : decode cX1_befriend 21 = .ok (.ishl, 1) := by decide +kernel
theorem dX1_befriend_22 : decode cX1_befriend 22 = .ok (.ior, 1) := by decide +kernel
theorem dX1_befriend_23 : decode cX1_befriend 23 = .ok (.iastore, 1) := by decide +kernel
theorem dX1_befriend_24 : decode cX1_befriend 24 = .ok (.return_, 1) := by decide +kernel
set_option maxHeartbeats 4000000 in
set_option maxRecDepth 100000 in
theorem c_X1_befriend (E : GE) (l : Launch) (a0 : Nat → Nat) (S0 : Ob) (x1 : Int32) (x2 : Int32) (post : Ob → Prop) (h : wp_X1_befriend S0 x1 x2 post) : Met l yX1_befriend (wz yX1_befriend cX1_befriend 3 none) { frames := 0, cells := 0, slots := 0, locals := 0 } (gPc E [.ref (a0 99), .int x1, .int x2] (gW [bPlan E a0 S0])) (gQv E (gW [bPlan E a0 S0]) (fun (u : Ob) => post u) (fun (u : Ob) w => w = gW [bPlan E a0 u])) 0 0 (gIn (gW [bPlan E a0 S0])) := by
  unfold wp_X1_befriend at h
  refine g_of_v (by decide) (Nat.le_of_ble_eq_true rfl) ?_
  intro p e s m below meth c A Q hx hb hml hown ht hE hP hD hret ls hl
  have hK := hE.1
  have hS : va_S A s.heap s.heap [] := va_S.rf
  have hl : lv_has ls 3 [(0, .ref (a0 99)), (1, .int x1), (2, .int x2)] := hl
  refine lv_aload_n hx hb dX1_befriend_0 rfl (lv_at hl 0 rfl) ?_
  refine va_get (D := (E.1, E.2.1)) (ci := 1) (v := .ref (a0 2)) (C := RX1) (T := TX1) (N := 5) hx hb ht wu_X1 hown hK hP 0 rfl rfl 2 (by decide) (ht _ wk_X1_18) (fun _ h9 => h9) rfl dX1_befriend_1 ?_
  refine lv_iload_n hx hb dX1_befriend_4 rfl (lv_at hl 1 rfl) ?_
  refine lv_dup2_11 hx hb dX1_befriend_5 rfl rfl ?_
  refine va_iald hx hb hK hP 3 0 rfl rfl h.1 dX1_befriend_6 ?_
  have h := h.2
  refine lv_iconst (v := 1) hx hb dX1_befriend_7 (by decide) ?_
  refine lv_iload_n hx hb dX1_befriend_8 rfl (lv_at hl 2 rfl) ?_
  refine lv_ishl hx hb dX1_befriend_9 ?_
  refine lv_ior hx hb dX1_befriend_10 ?_
  refine va_iast hx hb hK hP hD hS 3 0 rfl rfl h.1 dX1_befriend_11 (fun H locs hP hD hS => ?_)
  have h := h.2
  have hP : gP E (gW [bPlan E a0 (pa S0 2 (x1.toNatClampNeg) ((S0.2 2 x1.toNatClampNeg) ||| ((1 : Int32) <<< (x2 &&& 31))))]) H := hP
  have hD : va_D A (gW [bPlan E a0 (pa S0 2 (x1.toNatClampNeg) ((S0.2 2 x1.toNatClampNeg) ||| ((1 : Int32) <<< (x2 &&& 31))))]) := hD
  obtain ⟨S_1, eS_1⟩ : ∃ z : Ob, z = (pa S0 2 (x1.toNatClampNeg) ((S0.2 2 x1.toNatClampNeg) ||| ((1 : Int32) <<< (x2 &&& 31)))) := ⟨_, rfl⟩
  have h := h S_1 eS_1
  rw [← eS_1] at hP hD
  refine lv_aload_n hx hb dX1_befriend_12 rfl (lv_at hl 0 rfl) ?_
  refine va_get (D := (E.1, E.2.1)) (ci := 1) (v := .ref (a0 2)) (C := RX1) (T := TX1) (N := 5) hx hb ht wu_X1 hown hK hP 0 rfl rfl 2 (by decide) (ht _ wk_X1_18) (fun _ h9 => h9) rfl dX1_befriend_13 ?_
  refine lv_iload_n hx hb dX1_befriend_16 rfl (lv_at hl 2 rfl) ?_
  refine lv_dup2_11 hx hb dX1_befriend_17 rfl rfl ?_
  refine va_iald hx hb hK hP 3 0 rfl rfl h.1 dX1_befriend_18 ?_
  have h := h.2
  refine lv_iconst (v := 1) hx hb dX1_befriend_19 (by decide) ?_
  refine lv_iload_n hx hb dX1_befriend_20 rfl (lv_at hl 1 rfl) ?_
  refine lv_ishl hx hb dX1_befriend_21 ?_
  refine lv_ior hx hb dX1_befriend_22 ?_
  refine va_iast hx hb hK hP hD hS 3 0 rfl rfl h.1 dX1_befriend_23 (fun H locs hP hD hS => ?_)
  have h := h.2
  have hP : gP E (gW [bPlan E a0 (pa S_1 2 (x2.toNatClampNeg) ((S_1.2 2 x2.toNatClampNeg) ||| ((1 : Int32) <<< (x1 &&& 31))))]) H := hP
  have hD : va_D A (gW [bPlan E a0 (pa S_1 2 (x2.toNatClampNeg) ((S_1.2 2 x2.toNatClampNeg) ||| ((1 : Int32) <<< (x1 &&& 31))))]) := hD
  obtain ⟨S_2, eS_2⟩ : ∃ z : Ob, z = (pa S_1 2 (x2.toNatClampNeg) ((S_1.2 2 x2.toNatClampNeg) ||| ((1 : Int32) <<< (x1 &&& 31)))) := ⟨_, rfl⟩
  have h := h S_2 eS_2
  rw [← eS_2] at hP hD
  exact hret S_2 _ _ _ _ _ h rfl hP hD hS dX1_befriend_24
theorem dX2_forgetAll_0 : decode cX2_forgetAll 0 = .ok (.iconst 0, 1) := by decide +kernel
theorem dX2_forgetAll_1 : decode cX2_forgetAll 1 = .ok (.istore_n 1, 1) := by decide +kernel
theorem dX2_forgetAll_2 : decode cX2_forgetAll 2 = .ok (.iload_n 1, 1) := by decide +kernel
theorem dX2_forgetAll_3 : decode cX2_forgetAll 3 = .ok (.sipush 1000, 3) := by decide +kernel
theorem dX2_forgetAll_6 : decode cX2_forgetAll 6 = .ok (.if_icmp .ge 16, 3) := by decide +kernel
theorem dX2_forgetAll_9 : decode cX2_forgetAll 9 = .ok (.aload_n 0, 1) := by decide +kernel
theorem dX2_forgetAll_10 : decode cX2_forgetAll 10 = .ok (.getfield 9, 3) := by decide +kernel
theorem dX2_forgetAll_13 : decode cX2_forgetAll 13 = .ok (.iload_n 1, 1) := by decide +kernel
theorem dX2_forgetAll_14 : decode cX2_forgetAll 14 = .ok (.iload_n 1, 1) := by decide +kernel
theorem dX2_forgetAll_15 : decode cX2_forgetAll 15 = .ok (.iastore, 1) := by decide +kernel
theorem dX2_forgetAll_16 : decode cX2_forgetAll 16 = .ok (.iinc 1 1, 3) := by decide +kernel
theorem dX2_forgetAll_19 : decode cX2_forgetAll 19 = .ok (.goto (-17), 3) := by decide +kernel
theorem dX2_forgetAll_22 : decode cX2_forgetAll 22 = .ok (.aload_n 0, 1) := by decide +kernel
theorem dX2_forgetAll_23 : decode cX2_forgetAll 23 = .ok (.sipush 1000, 3) := by decide +kernel
theorem dX2_forgetAll_26 : decode cX2_forgetAll 26 = .ok (.putfield 15, 3) := by decide +kernel
theorem dX2_forgetAll_29 : decode cX2_forgetAll 29 = .ok (.aload_n 0, 1) := by decide +kernel
theorem dX2_forgetAll_30 : decode cX2_forgetAll 30 = .ok (.iconst 0, 1) := by decide +kernel
theorem dX2_forgetAll_31 : decode cX2_forgetAll 31 = .ok (.putfield 19, 3) := by decide +kernel
theorem dX2_forgetAll_34 : decode cX2_forgetAll 34 = .ok (.return_, 1) := by decide +kernel
set_option maxHeartbeats 4000000 in
set_option maxRecDepth 100000 in
theorem c_X2_forgetAll (E : GE) (l : Launch) (a0 : Nat → Nat) (S0 : Ob) (post : Ob → Prop) (h : wp_X2_forgetAll S0 post) : Met l yX2_forgetAll (wz yX2_forgetAll cX2_forgetAll 2 none) { frames := 0, cells := 0, slots := 0, locals := 0 } (gPc E [.ref (a0 99)] (gW [bRumour E a0 S0])) (gQv E (gW [bRumour E a0 S0]) (fun (u : Ob) => post u) (fun (u : Ob) w => w = gW [bRumour E a0 u])) 0 0 (gIn (gW [bRumour E a0 S0])) := by
  unfold wp_X2_forgetAll at h
  refine g_of_v (by decide) (Nat.le_of_ble_eq_true rfl) ?_
  intro p e s m below meth c A Q hx hb hml hown ht hE hP hD hret ls hl
  have hK := hE.1
  have hS : va_S A s.heap s.heap [] := va_S.rf
  have hl : lv_has ls 2 [(0, .ref (a0 99))] := hl
  refine lv_iconst (v := 0) hx hb dX2_forgetAll_0 (by decide) ?_
  refine lv_istore_n (lv' := [(1, .int 0), (0, .ref (a0 99))]) hx hb dX2_forgetAll_1 rfl hl (by decide) rfl (fun ls hl => ?_)
  have L2 : ∀ (n2 : Nat) (x1_2 : Int32) (S0_2 : Ob) (H : Heap) (locs : List Loc) (ls : Array Slot), wp_X2_forgetAll_L2 post n2 x1_2 S0_2 → gP E (gW [bRumour E a0 S0_2]) H → va_D A (gW [bRumour E a0 S0_2]) → va_S A s.heap H locs → lv_has ls 2 [(0, .ref (a0 99)), (1, .int x1_2)] → W p l e { frames := 0, cells := 0, slots := 0, locals := 0 } s m ([.ref (a0 99)] : List Value).toArray below meth c H locs 0 0 Q (F0 m 2 ls []) := by
    intro n2
    induction n2 with
    | zero => intro x1_2 S0_2 H locs ls h; exact h.elim
    | succ n2 ih2 =>
      intro x1_2 S0_2 H locs ls h hP hD hS hl
      rw [wp_X2_forgetAll_L2] at h
      refine lv_iload_n hx hb dX2_forgetAll_2 rfl (lv_at hl 1 rfl) ?_
      refine lv_sipush (v := 1000) hx hb dX2_forgetAll_3 (by decide) ?_
      refine lv_icmp_ge (tgt := 22) hx hb dX2_forgetAll_6 (by decide) (fun c_3 => ?_) (fun c_3 => ?_)
      · have h := h.1 c_3
        refine lv_aload_n hx hb dX2_forgetAll_22 rfl (lv_at hl 0 rfl) ?_
        refine lv_sipush (v := 1000) hx hb dX2_forgetAll_23 (by decide) ?_
        refine va_put (D := (E.1, E.2.1)) (ci := 2) (v := .int 1000) (ty := .int) (C := RX2) (T := TX2) (N := 9) hx hb ht wu_X2 tyX2 tyX2_ok nmX2 hown hK hP hD hS 0 rfl rfl 1 (by decide) (ht _ wk_X2_15) (fun _ h9 => h9) rfl (by decide +kernel) rfl rfl (Nat.le_of_ble_eq_true rfl) dX2_forgetAll_26 (fun H locs hP hD hS => ?_)
        have hP : gP E (gW [bRumour E a0 (pf S0_2 1 1000)]) H := hP
        have hD : va_D A (gW [bRumour E a0 (pf S0_2 1 1000)]) := hD
        refine lv_aload_n hx hb dX2_forgetAll_29 rfl (lv_at hl 0 rfl) ?_
        refine lv_iconst (v := 0) hx hb dX2_forgetAll_30 (by decide) ?_
        refine va_put (D := (E.1, E.2.1)) (ci := 2) (v := .int 0) (ty := .int) (C := RX2) (T := TX2) (N := 9) hx hb ht wu_X2 tyX2 tyX2_ok nmX2 hown hK hP hD hS 0 rfl rfl 2 (by decide) (ht _ wk_X2_19) (fun _ h9 => h9) rfl (by decide +kernel) rfl rfl (Nat.le_of_ble_eq_true rfl) dX2_forgetAll_31 (fun H locs hP hD hS => ?_)
        have hP : gP E (gW [bRumour E a0 (pf (pf S0_2 1 1000) 2 0)]) H := hP
        have hD : va_D A (gW [bRumour E a0 (pf (pf S0_2 1 1000) 2 0)]) := hD
        obtain ⟨S_4, eS_4⟩ : ∃ z : Ob, z = (pf (pf S0_2 1 1000) 2 0) := ⟨_, rfl⟩
        have h := h S_4 eS_4
        rw [← eS_4] at hP hD
        exact hret S_4 _ _ _ _ _ h rfl hP hD hS dX2_forgetAll_34
      · have h := h.2 c_3
        refine lv_aload_n hx hb dX2_forgetAll_9 rfl (lv_at hl 0 rfl) ?_
        refine va_get (D := (E.1, E.2.1)) (ci := 2) (v := .ref (a0 0)) (C := RX2) (T := TX2) (N := 9) hx hb ht wu_X2 hown hK hP 0 rfl rfl 0 (by decide) (ht _ wk_X2_9) (fun _ h9 => h9) rfl dX2_forgetAll_10 ?_
        refine lv_iload_n hx hb dX2_forgetAll_13 rfl (lv_at hl 1 rfl) ?_
        refine lv_iload_n hx hb dX2_forgetAll_14 rfl (lv_at hl 1 rfl) ?_
        refine va_iast hx hb hK hP hD hS 1 0 rfl rfl h.1 dX2_forgetAll_15 (fun H locs hP hD hS => ?_)
        have h := h.2
        have hP : gP E (gW [bRumour E a0 (pa S0_2 0 (x1_2.toNatClampNeg) x1_2)]) H := hP
        have hD : va_D A (gW [bRumour E a0 (pa S0_2 0 (x1_2.toNatClampNeg) x1_2)]) := hD
        refine lv_iinc (v := (x1_2 + 1)) (lv' := [(1, .int (x1_2 + 1)), (0, .ref (a0 99))]) hx hb dX2_forgetAll_16 hl (k := 1) rfl rfl (by decide) rfl (fun ls hl => ?_)
        refine lv_goto (tgt := 2) hx hb dX2_forgetAll_19 (by decide) ?_
        exact ih2 (x1_2 + 1) (pa S0_2 0 (x1_2.toNatClampNeg) x1_2) _ _ _ h hP hD hS (lv_sub hl [1, 0] rfl)
  obtain ⟨n2, h⟩ := h
  exact L2 n2 0 S0 _ _ _ h hP hD hS (lv_sub hl [1, 0] rfl)
theorem dX2_add_0 : decode cX2_add 0 = .ok (.iconst 0, 1) := by decide +kernel
theorem dX2_add_1 : decode cX2_add 1 = .ok (.istore_n 3, 1) := by decide +kernel
theorem dX2_add_2 : decode cX2_add 2 = .ok (.iconst 0, 1) := by decide +kernel
theorem dX2_add_3 : decode cX2_add 3 = .ok (.istore 4, 2) := by decide +kernel
theorem dX2_add_5 : decode cX2_add 5 = .ok (.iload 4, 2) := by decide +kernel
theorem dX2_add_7 : decode cX2_add 7 = .ok (.aload_n 0, 1) := by decide +kernel
theorem dX2_add_8 : decode cX2_add 8 = .ok (.getfield 15, 3) := by decide +kernel
theorem dX2_add_11 : decode cX2_add 11 = .ok (.if_icmp .ge 48, 3) := by decide +kernel
theorem dX2_add_14 : decode cX2_add 14 = .ok (.iload 4, 2) := by decide +kernel
theorem dX2_add_16 : decode cX2_add 16 = .ok (.sipush 1000, 3) := by decide +kernel
theorem dX2_add_19 : decode cX2_add 19 = .ok (.if_icmp .ge 40, 3) := by decide +kernel
theorem dX2_add_22 : decode cX2_add 22 = .ok (.aload_n 0, 1) := by decide +kernel
theorem dX2_add_23 : decode cX2_add 23 = .ok (.getfield 9, 3) := by decide +kernel
theorem dX2_add_26 : decode cX2_add 26 = .ok (.iload 4, 2) := by decide +kernel
theorem dX2_add_28 : decode cX2_add 28 = .ok (.iaload, 1) := by decide +kernel
theorem dX2_add_29 : decode cX2_add 29 = .ok (.iload_n 1, 1) := by decide +kernel
theorem dX2_add_30 : decode cX2_add 30 = .ok (.invokestatic 43, 3) := by decide +kernel
theorem dX2_add_33 : decode cX2_add 33 = .ok (.iload_n 2, 1) := by decide +kernel
theorem dX2_add_34 : decode cX2_add 34 = .ok (.if_icmp .ne 19, 3) := by decide +kernel
theorem dX2_add_37 : decode cX2_add 37 = .ok (.aload_n 0, 1) := by decide +kernel
theorem dX2_add_38 : decode cX2_add 38 = .ok (.getfield 9, 3) := by decide +kernel
theorem dX2_add_41 : decode cX2_add 41 = .ok (.iload_n 3, 1) := by decide +kernel
theorem dX2_add_42 : decode cX2_add 42 = .ok (.aload_n 0, 1) := by decide +kernel
theorem dX2_add_43 : decode cX2_add 43 = .ok (.getfield 9, 3) := by decide +kernel
theorem dX2_add_46 : decode cX2_add 46 = .ok (.iload 4, 2) := by decide +kernel
theorem dX2_add_48 : decode cX2_add 48 = .ok (.iaload, 1) := by decide +kernel
theorem dX2_add_49 : decode cX2_add 49 = .ok (.iastore, 1) := by decide +kernel
theorem dX2_add_50 : decode cX2_add 50 = .ok (.iinc 3 1, 3) := by decide +kernel
theorem dX2_add_53 : decode cX2_add 53 = .ok (.iinc 4 1, 3) := by decide +kernel
theorem dX2_add_56 : decode cX2_add 56 = .ok (.goto (-51), 3) := by decide +kernel
theorem dX2_add_59 : decode cX2_add 59 = .ok (.aload_n 0, 1) := by decide +kernel
theorem dX2_add_60 : decode cX2_add 60 = .ok (.iload_n 3, 1) := by decide +kernel
theorem dX2_add_61 : decode cX2_add 61 = .ok (.putfield 15, 3) := by decide +kernel
theorem dX2_add_64 : decode cX2_add 64 = .ok (.aload_n 0, 1) := by decide +kernel
theorem dX2_add_65 : decode cX2_add 65 = .ok (.dup, 1) := by decide +kernel
theorem dX2_add_66 : decode cX2_add 66 = .ok (.getfield 19, 3) := by decide +kernel
theorem dX2_add_69 : decode cX2_add 69 = .ok (.iconst 1, 1) := by decide +kernel
theorem dX2_add_70 : decode cX2_add 70 = .ok (.iadd, 1) := by decide +kernel
theorem dX2_add_71 : decode cX2_add 71 = .ok (.putfield 19, 3) := by decide +kernel
theorem dX2_add_74 : decode cX2_add 74 = .ok (.return_, 1) := by decide +kernel
set_option maxHeartbeats 4000000 in
set_option maxRecDepth 100000 in
theorem c_X2_add (E : GE) (l : Launch) (a0 : Nat → Nat) (S0 : Ob) (x1 : Int32) (x2 : Int32) (post : Ob → Prop) (h : wp_X2_add S0 x1 x2 post) : Met l yX2_add (wz yX2_add cX2_add 5 none) { frames := 1, cells := 0, slots := 0, locals := 22 } (gPc E [.ref (a0 99), .int x1, .int x2] (gW [bRumour E a0 S0])) (gQv E (gW [bRumour E a0 S0]) (fun (u : Ob) => post u) (fun (u : Ob) w => w = gW [bRumour E a0 u])) 0 0 (gIn (gW [bRumour E a0 S0])) := by
  unfold wp_X2_add at h
  refine g_of_v (by decide) (Nat.le_of_ble_eq_true rfl) ?_
  intro p e s m below meth c A Q hx hb hml hown ht hE hP hD hret ls hl
  have hK := hE.1
  have hS : va_S A s.heap s.heap [] := va_S.rf
  have hl : lv_has ls 5 [(0, .ref (a0 99)), (1, .int x1), (2, .int x2)] := hl
  refine lv_iconst (v := 0) hx hb dX2_add_0 (by decide) ?_
  refine lv_istore_n (lv' := [(3, .int 0), (0, .ref (a0 99)), (1, .int x1), (2, .int x2)]) hx hb dX2_add_1 rfl hl (by decide) rfl (fun ls hl => ?_)
  refine lv_iconst (v := 0) hx hb dX2_add_2 (by decide) ?_
  refine lv_istore (lv' := [(4, .int 0), (3, .int 0), (0, .ref (a0 99)), (1, .int x1), (2, .int x2)]) hx hb dX2_add_3 hl (by decide) rfl (fun ls hl => ?_)
  have L5 : ∀ (n5 : Nat) (x3_5 : Int32) (x4_5 : Int32) (S0_5 : Ob) (H : Heap) (locs : List Loc) (ls : Array Slot), wp_X2_add_L5 post x1 x2 n5 x3_5 x4_5 S0_5 → gP E (gW [bRumour E a0 S0_5]) H → va_D A (gW [bRumour E a0 S0_5]) → va_S A s.heap H locs → lv_has ls 5 [(0, .ref (a0 99)), (1, .int x1), (2, .int x2), (3, .int x3_5), (4, .int x4_5)] → W p l e { frames := 1, cells := 0, slots := 0, locals := 22 } s m ([.ref (a0 99), .int x1, .int x2] : List Value).toArray below meth c H locs 0 0 Q (F0 m 5 ls []) := by
    intro n5
    induction n5 with
    | zero => intro x3_5 x4_5 S0_5 H locs ls h; exact h.elim
    | succ n5 ih5 =>
      intro x3_5 x4_5 S0_5 H locs ls h hP hD hS hl
      rw [wp_X2_add_L5] at h
      refine lv_iload hx hb dX2_add_5 (lv_at hl 4 rfl) ?_
      refine lv_aload_n hx hb dX2_add_7 rfl (lv_at hl 0 rfl) ?_
      refine va_get (D := (E.1, E.2.1)) (ci := 2) (v := .int (S0_5.1 1)) (C := RX2) (T := TX2) (N := 9) hx hb ht wu_X2 hown hK hP 0 rfl rfl 1 (by decide) (ht _ wk_X2_15) (fun _ h9 => h9) rfl dX2_add_8 ?_
      refine lv_icmp_ge (tgt := 59) hx hb dX2_add_11 (by decide) (fun c_8 => ?_) (fun c_8 => ?_)
      · have h := h.1 c_8
        refine lv_aload_n hx hb dX2_add_59 rfl (lv_at hl 0 rfl) ?_
        refine lv_iload_n hx hb dX2_add_60 rfl (lv_at hl 3 rfl) ?_
        refine va_put (D := (E.1, E.2.1)) (ci := 2) (v := .int x3_5) (ty := .int) (C := RX2) (T := TX2) (N := 9) hx hb ht wu_X2 tyX2 tyX2_ok nmX2 hown hK hP hD hS 0 rfl rfl 1 (by decide) (ht _ wk_X2_15) (fun _ h9 => h9) rfl (by decide +kernel) rfl rfl (Nat.le_of_ble_eq_true rfl) dX2_add_61 (fun H locs hP hD hS => ?_)
        have hP : gP E (gW [bRumour E a0 (pf S0_5 1 x3_5)]) H := hP
        have hD : va_D A (gW [bRumour E a0 (pf S0_5 1 x3_5)]) := hD
        refine lv_aload_n hx hb dX2_add_64 rfl (lv_at hl 0 rfl) ?_
        refine lv_dup hx hb dX2_add_65 rfl ?_
        refine va_get (D := (E.1, E.2.1)) (ci := 2) (v := .int ((pf S0_5 1 x3_5).1 2)) (C := RX2) (T := TX2) (N := 9) hx hb ht wu_X2 hown hK hP 0 rfl rfl 2 (by decide) (ht _ wk_X2_19) (fun _ h9 => h9) rfl dX2_add_66 ?_
        refine lv_iconst (v := 1) hx hb dX2_add_69 (by decide) ?_
        refine lv_iadd hx hb dX2_add_70 ?_
        refine va_put (D := (E.1, E.2.1)) (ci := 2) (v := .int (((pf S0_5 1 x3_5).1 2) + 1)) (ty := .int) (C := RX2) (T := TX2) (N := 9) hx hb ht wu_X2 tyX2 tyX2_ok nmX2 hown hK hP hD hS 0 rfl rfl 2 (by decide) (ht _ wk_X2_19) (fun _ h9 => h9) rfl (by decide +kernel) rfl rfl (Nat.le_of_ble_eq_true rfl) dX2_add_71 (fun H locs hP hD hS => ?_)
        have hP : gP E (gW [bRumour E a0 (pf (pf S0_5 1 x3_5) 2 (((pf S0_5 1 x3_5).1 2) + 1))]) H := hP
        have hD : va_D A (gW [bRumour E a0 (pf (pf S0_5 1 x3_5) 2 (((pf S0_5 1 x3_5).1 2) + 1))]) := hD
        obtain ⟨S_9, eS_9⟩ : ∃ z : Ob, z = (pf (pf S0_5 1 x3_5) 2 (((pf S0_5 1 x3_5).1 2) + 1)) := ⟨_, rfl⟩
        have h := h S_9 eS_9
        rw [← eS_9] at hP hD
        exact hret S_9 _ _ _ _ _ h rfl hP hD hS dX2_add_74
      · have h := h.2 c_8
        refine lv_iload hx hb dX2_add_14 (lv_at hl 4 rfl) ?_
        refine lv_sipush (v := 1000) hx hb dX2_add_16 (by decide) ?_
        refine lv_icmp_ge (tgt := 59) hx hb dX2_add_19 (by decide) (fun c_10 => ?_) (fun c_10 => ?_)
        · have h := h.1 c_10
          refine lv_aload_n hx hb dX2_add_59 rfl (lv_at hl 0 rfl) ?_
          refine lv_iload_n hx hb dX2_add_60 rfl (lv_at hl 3 rfl) ?_
          refine va_put (D := (E.1, E.2.1)) (ci := 2) (v := .int x3_5) (ty := .int) (C := RX2) (T := TX2) (N := 9) hx hb ht wu_X2 tyX2 tyX2_ok nmX2 hown hK hP hD hS 0 rfl rfl 1 (by decide) (ht _ wk_X2_15) (fun _ h9 => h9) rfl (by decide +kernel) rfl rfl (Nat.le_of_ble_eq_true rfl) dX2_add_61 (fun H locs hP hD hS => ?_)
          have hP : gP E (gW [bRumour E a0 (pf S0_5 1 x3_5)]) H := hP
          have hD : va_D A (gW [bRumour E a0 (pf S0_5 1 x3_5)]) := hD
          refine lv_aload_n hx hb dX2_add_64 rfl (lv_at hl 0 rfl) ?_
          refine lv_dup hx hb dX2_add_65 rfl ?_
          refine va_get (D := (E.1, E.2.1)) (ci := 2) (v := .int ((pf S0_5 1 x3_5).1 2)) (C := RX2) (T := TX2) (N := 9) hx hb ht wu_X2 hown hK hP 0 rfl rfl 2 (by decide) (ht _ wk_X2_19) (fun _ h9 => h9) rfl dX2_add_66 ?_
          refine lv_iconst (v := 1) hx hb dX2_add_69 (by decide) ?_
          refine lv_iadd hx hb dX2_add_70 ?_
          refine va_put (D := (E.1, E.2.1)) (ci := 2) (v := .int (((pf S0_5 1 x3_5).1 2) + 1)) (ty := .int) (C := RX2) (T := TX2) (N := 9) hx hb ht wu_X2 tyX2 tyX2_ok nmX2 hown hK hP hD hS 0 rfl rfl 2 (by decide) (ht _ wk_X2_19) (fun _ h9 => h9) rfl (by decide +kernel) rfl rfl (Nat.le_of_ble_eq_true rfl) dX2_add_71 (fun H locs hP hD hS => ?_)
          have hP : gP E (gW [bRumour E a0 (pf (pf S0_5 1 x3_5) 2 (((pf S0_5 1 x3_5).1 2) + 1))]) H := hP
          have hD : va_D A (gW [bRumour E a0 (pf (pf S0_5 1 x3_5) 2 (((pf S0_5 1 x3_5).1 2) + 1))]) := hD
          obtain ⟨S_11, eS_11⟩ : ∃ z : Ob, z = (pf (pf S0_5 1 x3_5) 2 (((pf S0_5 1 x3_5).1 2) + 1)) := ⟨_, rfl⟩
          have h := h S_11 eS_11
          rw [← eS_11] at hP hD
          exact hret S_11 _ _ _ _ _ h rfl hP hD hS dX2_add_74
        · have h := h.2 c_10
          refine lv_aload_n hx hb dX2_add_22 rfl (lv_at hl 0 rfl) ?_
          refine va_get (D := (E.1, E.2.1)) (ci := 2) (v := .ref (a0 0)) (C := RX2) (T := TX2) (N := 9) hx hb ht wu_X2 hown hK hP 0 rfl rfl 0 (by decide) (ht _ wk_X2_9) (fun _ h9 => h9) rfl dX2_add_23 ?_
          refine lv_iload hx hb dX2_add_26 (lv_at hl 4 rfl) ?_
          refine va_iald hx hb hK hP 1 0 rfl rfl h.1 dX2_add_28 ?_
          have h := h.2
          refine lv_iload_n hx hb dX2_add_29 rfl (lv_at hl 1 rfl) ?_
          have p1 := gB (n := 1) (bs := [bRumour E a0 S0_5]) (bc := []) (br := [bRumour E a0 S0_5]) [0] rfl rfl (by decide)
          refine g_i (g_runSN (As := [.int (S0_5.2 0 x4_5.toNatClampNeg), .int x1]) (rest := []) ⟨hx, hb, hml, hown, ht⟩ hE (c_X5_rightWheels E l (S0_5.2 0 x4_5.toNatClampNeg) x1 _ h) ⟨rfl, rfl⟩ hE.2.1.2.2.2.2 wt_X5_rightWheels wn_X5 wc_X5_rightWheels yd_X5_rightWheels ⟨Nat.le_of_ble_eq_true rfl, Nat.le_of_ble_eq_true rfl⟩ hP hD p1 rfl rfl hl.1 rfl (lv_room (Nat.le_of_ble_eq_true rfl)) dX2_add_30 ⟨Nat.zero_le _, Nat.zero_le _⟩) hP hD hS p1 (fun r_12 _ w H locs h hw hP hD hS => ?_)
          subst hw
          clear p1
          have p2 := gB (n := 1) (bs := [bRumour E a0 S0_5]) (bc := []) (br := [bRumour E a0 S0_5]) [0] rfl rfl (by decide)
          have hP := gP_perm p2.symm hP
          have hD := gD_perm p2.symm hD
          clear p2
          refine lv_iload_n hx hb dX2_add_33 rfl (lv_at hl 2 rfl) ?_
          refine lv_icmp_ne (tgt := 53) hx hb dX2_add_34 (by decide) (fun c_13 => ?_) (fun c_13 => ?_)
          · have h := h.1 c_13
            refine lv_iinc (v := (x4_5 + 1)) (lv' := [(4, .int (x4_5 + 1)), (0, .ref (a0 99)), (1, .int x1), (2, .int x2), (3, .int x3_5)]) hx hb dX2_add_53 hl (k := 4) rfl rfl (by decide) rfl (fun ls hl => ?_)
            refine lv_goto (tgt := 5) hx hb dX2_add_56 (by decide) ?_
            exact ih5 x3_5 (x4_5 + 1) S0_5 _ _ _ h hP hD hS (lv_sub hl [1, 2, 3, 4, 0] rfl)
          · have h := h.2 c_13
            refine lv_aload_n hx hb dX2_add_37 rfl (lv_at hl 0 rfl) ?_
            refine va_get (D := (E.1, E.2.1)) (ci := 2) (v := .ref (a0 0)) (C := RX2) (T := TX2) (N := 9) hx hb ht wu_X2 hown hK hP 0 rfl rfl 0 (by decide) (ht _ wk_X2_9) (fun _ h9 => h9) rfl dX2_add_38 ?_
            refine lv_iload_n hx hb dX2_add_41 rfl (lv_at hl 3 rfl) ?_
            refine lv_aload_n hx hb dX2_add_42 rfl (lv_at hl 0 rfl) ?_
            refine va_get (D := (E.1, E.2.1)) (ci := 2) (v := .ref (a0 0)) (C := RX2) (T := TX2) (N := 9) hx hb ht wu_X2 hown hK hP 0 rfl rfl 0 (by decide) (ht _ wk_X2_9) (fun _ h9 => h9) rfl dX2_add_43 ?_
            refine lv_iload hx hb dX2_add_46 (lv_at hl 4 rfl) ?_
            refine va_iald hx hb hK hP 1 0 rfl rfl h.1 dX2_add_48 ?_
            have h := h.2
            refine va_iast hx hb hK hP hD hS 1 0 rfl rfl h.1 dX2_add_49 (fun H locs hP hD hS => ?_)
            have h := h.2
            have hP : gP E (gW [bRumour E a0 (pa S0_5 0 (x3_5.toNatClampNeg) (S0_5.2 0 x4_5.toNatClampNeg))]) H := hP
            have hD : va_D A (gW [bRumour E a0 (pa S0_5 0 (x3_5.toNatClampNeg) (S0_5.2 0 x4_5.toNatClampNeg))]) := hD
            obtain ⟨S_14, eS_14⟩ : ∃ z : Ob, z = (pa S0_5 0 (x3_5.toNatClampNeg) (S0_5.2 0 x4_5.toNatClampNeg)) := ⟨_, rfl⟩
            have h := h S_14 eS_14
            rw [← eS_14] at hP hD
            refine lv_iinc (v := (x3_5 + 1)) (lv' := [(3, .int (x3_5 + 1)), (0, .ref (a0 99)), (1, .int x1), (2, .int x2), (4, .int x4_5)]) hx hb dX2_add_50 hl (k := 3) rfl rfl (by decide) rfl (fun ls hl => ?_)
            refine lv_iinc (v := (x4_5 + 1)) (lv' := [(4, .int (x4_5 + 1)), (3, .int (x3_5 + 1)), (0, .ref (a0 99)), (1, .int x1), (2, .int x2)]) hx hb dX2_add_53 hl (k := 4) rfl rfl (by decide) rfl (fun ls hl => ?_)
            refine lv_goto (tgt := 5) hx hb dX2_add_56 (by decide) ?_
            exact ih5 (x3_5 + 1) (x4_5 + 1) S_14 _ _ _ h hP hD hS (lv_sub hl [2, 3, 4, 1, 0] rfl)
  obtain ⟨n5, h⟩ := h
  exact L5 n5 0 0 S0 _ _ _ h hP hD hS (lv_sub hl [2, 3, 4, 1, 0] rfl)
theorem dX2_countFigures_0 : decode cX2_countFigures 0 = .ok (.aload_n 0, 1) := by decide +kernel
theorem dX2_countFigures_1 : decode cX2_countFigures 1 = .ok (.getfield 22, 3) := by decide +kernel
theorem dX2_countFigures_4 : decode cX2_countFigures 4 = .ok (.iconst 0, 1) := by decide +kernel
theorem dX2_countFigures_5 : decode cX2_countFigures 5 = .ok (.invokestatic 53, 3) := by decide +kernel
theorem dX2_countFigures_8 : decode cX2_countFigures 8 = .ok (.aload_n 0, 1) := by decide +kernel
theorem dX2_countFigures_9 : decode cX2_countFigures 9 = .ok (.getfield 25, 3) := by decide +kernel
theorem dX2_countFigures_12 : decode cX2_countFigures 12 = .ok (.iconst 0, 1) := by decide +kernel
theorem dX2_countFigures_13 : decode cX2_countFigures 13 = .ok (.invokestatic 53, 3) := by decide +kernel
theorem dX2_countFigures_16 : decode cX2_countFigures 16 = .ok (.aload_n 0, 1) := by decide +kernel
theorem dX2_countFigures_17 : decode cX2_countFigures 17 = .ok (.getfield 28, 3) := by decide +kernel
theorem dX2_countFigures_20 : decode cX2_countFigures 20 = .ok (.iconst 0, 1) := by decide +kernel
theorem dX2_countFigures_21 : decode cX2_countFigures 21 = .ok (.invokestatic 53, 3) := by decide +kernel
theorem dX2_countFigures_24 : decode cX2_countFigures 24 = .ok (.aload_n 0, 1) := by decide +kernel
theorem dX2_countFigures_25 : decode cX2_countFigures 25 = .ok (.getfield 31, 3) := by decide +kernel
theorem dX2_countFigures_28 : decode cX2_countFigures 28 = .ok (.iconst 0, 1) := by decide +kernel
theorem dX2_countFigures_29 : decode cX2_countFigures 29 = .ok (.invokestatic 53, 3) := by decide +kernel
theorem dX2_countFigures_32 : decode cX2_countFigures 32 = .ok (.aload_n 0, 1) := by decide +kernel
theorem dX2_countFigures_33 : decode cX2_countFigures 33 = .ok (.getfield 34, 3) := by decide +kernel
theorem dX2_countFigures_36 : decode cX2_countFigures 36 = .ok (.iconst 0, 1) := by decide +kernel
theorem dX2_countFigures_37 : decode cX2_countFigures 37 = .ok (.invokestatic 53, 3) := by decide +kernel
theorem dX2_countFigures_40 : decode cX2_countFigures 40 = .ok (.aload_n 0, 1) := by decide +kernel
theorem dX2_countFigures_41 : decode cX2_countFigures 41 = .ok (.getfield 37, 3) := by decide +kernel
theorem dX2_countFigures_44 : decode cX2_countFigures 44 = .ok (.iconst 0, 1) := by decide +kernel
theorem dX2_countFigures_45 : decode cX2_countFigures 45 = .ok (.invokestatic 53, 3) := by decide +kernel
theorem dX2_countFigures_48 : decode cX2_countFigures 48 = .ok (.iconst 0, 1) := by decide +kernel
theorem dX2_countFigures_49 : decode cX2_countFigures 49 = .ok (.istore_n 1, 1) := by decide +kernel
theorem dX2_countFigures_50 : decode cX2_countFigures 50 = .ok (.iload_n 1, 1) := by decide +kernel
theorem dX2_countFigures_51 : decode cX2_countFigures 51 = .ok (.aload_n 0, 1) := by decide +kernel
theorem dX2_countFigures_52 : decode cX2_countFigures 52 = .ok (.getfield 15, 3) := by decide +kernel
theorem dX2_countFigures_55 : decode cX2_countFigures 55 = .ok (.if_icmp .ge 128, 3) := by decide +kernel
theorem dX2_countFigures_58 : decode cX2_countFigures 58 = .ok (.iload_n 1, 1) := by decide +kernel
theorem dX2_countFigures_59 : decode cX2_countFigures 59 = .ok (.sipush 1000, 3) := by decide +kernel
theorem dX2_countFigures_62 : decode cX2_countFigures 62 = .ok (.if_icmp .ge 121, 3) := by decide +kernel
theorem dX2_countFigures_65 : decode cX2_countFigures 65 = .ok (.aload_n 0, 1) := by decide +kernel
theorem dX2_countFigures_66 : decode cX2_countFigures 66 = .ok (.getfield 9, 3) := by decide +kernel
theorem dX2_countFigures_69 : decode cX2_countFigures 69 = .ok (.iload_n 1, 1) := by decide +kernel
theorem dX2_countFigures_70 : decode cX2_countFigures 70 = .ok (.iaload, 1) := by decide +kernel
theorem dX2_countFigures_71 : decode cX2_countFigures 71 = .ok (.bipush 100, 2) := by decide +kernel
theorem dX2_countFigures_73 : decode cX2_countFigures 73 = .ok (.idiv, 1) := by decide +kernel
theorem dX2_countFigures_74 : decode cX2_countFigures 74 = .ok (.istore_n 2, 1) := by decide +kernel
theorem dX2_countFigures_75 : decode cX2_countFigures 75 = .ok (.aload_n 0, 1) := by decide +kernel
theorem dX2_countFigures_76 : decode cX2_countFigures 76 = .ok (.getfield 9, 3) := by decide +kernel
theorem dX2_countFigures_79 : decode cX2_countFigures 79 = .ok (.iload_n 1, 1) := by decide +kernel
theorem dX2_countFigures_80 : decode cX2_countFigures 80 = .ok (.iaload, 1) := by decide +kernel
theorem dX2_countFigures_81 : decode cX2_countFigures 81 = .ok (.bipush 10, 2) := by decide +kernel
theorem dX2_countFigures_83 : decode cX2_countFigures 83 = .ok (.idiv, 1) := by decide +kernel
theorem dX2_countFigures_84 : decode cX2_countFigures 84 = .ok (.bipush 10, 2) := by decide +kernel
theorem dX2_countFigures_86 : decode cX2_countFigures 86 = .ok (.irem, 1) := by decide +kernel
theorem dX2_countFigures_87 : decode cX2_countFigures 87 = .ok (.istore_n 3, 1) := by decide +kernel
theorem dX2_countFigures_88 : decode cX2_countFigures 88 = .ok (.aload_n 0, 1) := by decide +kernel
theorem dX2_countFigures_89 : decode cX2_countFigures 89 = .ok (.getfield 9, 3) := by decide +kernel
theorem dX2_countFigures_92 : decode cX2_countFigures 92 = .ok (.iload_n 1, 1) := by decide +kernel
theorem dX2_countFigures_93 : decode cX2_countFigures 93 = .ok (.iaload, 1) := by decide +kernel
theorem dX2_countFigures_94 : decode cX2_countFigures 94 = .ok (.bipush 10, 2) := by decide +kernel
theorem dX2_countFigures_96 : decode cX2_countFigures 96 = .ok (.irem, 1) := by decide +kernel
theorem dX2_countFigures_97 : decode cX2_countFigures 97 = .ok (.istore 4, 2) := by decide +kernel
theorem dX2_countFigures_99 : decode cX2_countFigures 99 = .ok (.aload_n 0, 1) := by decide +kernel
theorem dX2_countFigures_100 : decode cX2_countFigures 100 = .ok (.getfield 22, 3) := by decide +kernel
theorem dX2_countFigures_103 : decode cX2_countFigures 103 = .ok (.iload_n 2, 1) := by decide +kernel
theorem dX2_countFigures_104 : decode cX2_countFigures 104 = .ok (.dup2, 1) := by decide +kernel
theorem dX2_countFigures_105 : decode cX2_countFigures 105 = .ok (.iaload, 1) := by decide +kernel
theorem dX2_countFigures_106 : decode cX2_countFigures 106 = .ok (.iconst 1, 1) := by decide +kernel
theorem dX2_countFigures_107 : decode cX2_countFigures 107 = .ok (.iadd, 1) := by decide +kernel
theorem dX2_countFigures_108 : decode cX2_countFigures 108 = .ok (.iastore, 1) := by decide +kernel
theorem dX2_countFigures_109 : decode cX2_countFigures 109 = .ok (.aload_n 0, 1) := by decide +kernel
theorem dX2_countFigures_110 : decode cX2_countFigures 110 = .ok (.getfield 25, 3) := by decide +kernel
theorem dX2_countFigures_113 : decode cX2_countFigures 113 = .ok (.iload_n 3, 1) := by decide +kernel
theorem dX2_countFigures_114 : decode cX2_countFigures 114 = .ok (.dup2, 1) := by decide +kernel
theorem dX2_countFigures_115 : decode cX2_countFigures 115 = .ok (.iaload, 1) := by decide +kernel
theorem dX2_countFigures_116 : decode cX2_countFigures 116 = .ok (.iconst 1, 1) := by decide +kernel
theorem dX2_countFigures_117 : decode cX2_countFigures 117 = .ok (.iadd, 1) := by decide +kernel
theorem dX2_countFigures_118 : decode cX2_countFigures 118 = .ok (.iastore, 1) := by decide +kernel
theorem dX2_countFigures_119 : decode cX2_countFigures 119 = .ok (.aload_n 0, 1) := by decide +kernel
theorem dX2_countFigures_120 : decode cX2_countFigures 120 = .ok (.getfield 28, 3) := by decide +kernel
theorem dX2_countFigures_123 : decode cX2_countFigures 123 = .ok (.iload 4, 2) := by decide +kernel
theorem dX2_countFigures_125 : decode cX2_countFigures 125 = .ok (.dup2, 1) := by decide +kernel
theorem dX2_countFigures_126 : decode cX2_countFigures 126 = .ok (.iaload, 1) := by decide +kernel
theorem dX2_countFigures_127 : decode cX2_countFigures 127 = .ok (.iconst 1, 1) := by decide +kernel
theorem dX2_countFigures_128 : decode cX2_countFigures 128 = .ok (.iadd, 1) := by decide +kernel
theorem dX2_countFigures_129 : decode cX2_countFigures 129 = .ok (.iastore, 1) := by decide +kernel
theorem dX2_countFigures_130 : decode cX2_countFigures 130 = .ok (.aload_n 0, 1) := by decide +kernel
theorem dX2_countFigures_131 : decode cX2_countFigures 131 = .ok (.getfield 31, 3) := by decide +kernel
theorem dX2_countFigures_134 : decode cX2_countFigures 134 = .ok (.iload_n 2, 1) := by decide +kernel
theorem dX2_countFigures_135 : decode cX2_countFigures 135 = .ok (.bipush 10, 2) := by decide +kernel
theorem dX2_countFigures_137 : decode cX2_countFigures 137 = .ok (.imul, 1) := by decide +kernel
theorem dX2_countFigures_138 : decode cX2_countFigures 138 = .ok (.iload_n 3, 1) := by decide +kernel
theorem dX2_countFigures_139 : decode cX2_countFigures 139 = .ok (.iadd, 1) := by decide +kernel
theorem dX2_countFigures_140 : decode cX2_countFigures 140 = .ok (.dup2, 1) := by decide +kernel
theorem dX2_countFigures_141 : decode cX2_countFigures 141 = .ok (.iaload, 1) := by decide +kernel
theorem dX2_countFigures_142 : decode cX2_countFigures 142 = .ok (.iconst 1, 1) := by decide +kernel
theorem dX2_countFigures_143 : decode cX2_countFigures 143 = .ok (.iadd, 1) := by decide +kernel
theorem dX2_countFigures_144 : decode cX2_countFigures 144 = .ok (.iastore, 1) := by decide +kernel
theorem dX2_countFigures_145 : decode cX2_countFigures 145 = .ok (.aload_n 0, 1) := by decide +kernel
theorem dX2_countFigures_146 : decode cX2_countFigures 146 = .ok (.getfield 34, 3) := by decide +kernel
theorem dX2_countFigures_149 : decode cX2_countFigures 149 = .ok (.iload_n 2, 1) := by decide +kernel
theorem dX2_countFigures_150 : decode cX2_countFigures 150 = .ok (.bipush 10, 2) := by decide +kernel
theorem dX2_countFigures_152 : decode cX2_countFigures 152 = .ok (.imul, 1) := by decide +kernel
theorem dX2_countFigures_153 : decode cX2_countFigures 153 = .ok (.iload 4, 2) := by decide +kernel
theorem dX2_countFigures_155 : decode cX2_countFigures 155 = .ok (.iadd, 1) := by decide +kernel
theorem dX2_countFigures_156 : decode cX2_countFigures 156 = .ok (.dup2, 1) := by decide +kernel
theorem dX2_countFigures_157 : decode cX2_countFigures 157 = .ok (.iaload, 1) := by decide +kernel
theorem dX2_countFigures_158 : decode cX2_countFigures 158 = .ok (.iconst 1, 1) := by decide +kernel
theorem dX2_countFigures_159 : decode cX2_countFigures 159 = .ok (.iadd, 1) := by decide +kernel
theorem dX2_countFigures_160 : decode cX2_countFigures 160 = .ok (.iastore, 1) := by decide +kernel
theorem dX2_countFigures_161 : decode cX2_countFigures 161 = .ok (.aload_n 0, 1) := by decide +kernel
theorem dX2_countFigures_162 : decode cX2_countFigures 162 = .ok (.getfield 37, 3) := by decide +kernel
theorem dX2_countFigures_165 : decode cX2_countFigures 165 = .ok (.iload_n 3, 1) := by decide +kernel
theorem dX2_countFigures_166 : decode cX2_countFigures 166 = .ok (.bipush 10, 2) := by decide +kernel
theorem dX2_countFigures_168 : decode cX2_countFigures 168 = .ok (.imul, 1) := by decide +kernel
theorem dX2_countFigures_169 : decode cX2_countFigures 169 = .ok (.iload 4, 2) := by decide +kernel
theorem dX2_countFigures_171 : decode cX2_countFigures 171 = .ok (.iadd, 1) := by decide +kernel
theorem dX2_countFigures_172 : decode cX2_countFigures 172 = .ok (.dup2, 1) := by decide +kernel
theorem dX2_countFigures_173 : decode cX2_countFigures 173 = .ok (.iaload, 1) := by decide +kernel
theorem dX2_countFigures_174 : decode cX2_countFigures 174 = .ok (.iconst 1, 1) := by decide +kernel
theorem dX2_countFigures_175 : decode cX2_countFigures 175 = .ok (.iadd, 1) := by decide +kernel
theorem dX2_countFigures_176 : decode cX2_countFigures 176 = .ok (.iastore, 1) := by decide +kernel
theorem dX2_countFigures_177 : decode cX2_countFigures 177 = .ok (.iinc 1 1, 3) := by decide +kernel
theorem dX2_countFigures_180 : decode cX2_countFigures 180 = .ok (.goto (-130), 3) := by decide +kernel
theorem dX2_countFigures_183 : decode cX2_countFigures 183 = .ok (.return_, 1) := by decide +kernel
set_option maxHeartbeats 4000000 in
set_option maxRecDepth 100000 in
theorem c_X2_countFigures (E : GE) (l : Launch) (a0 : Nat → Nat) (S0 : Ob) (post : Ob → Prop) (h : wp_X2_countFigures S0 post) : Met l yX2_countFigures (wz yX2_countFigures cX2_countFigures 5 none) { frames := 1, cells := 0, slots := 0, locals := 23 } (gPc E [.ref (a0 99)] (gW [bRumour E a0 S0])) (gQv E (gW [bRumour E a0 S0]) (fun (u : Ob) => post u) (fun (u : Ob) w => w = gW [bRumour E a0 u])) 0 0 (gIn (gW [bRumour E a0 S0])) := by
  unfold wp_X2_countFigures at h
  refine g_of_v (by decide) (Nat.le_of_ble_eq_true rfl) ?_
  intro p e s m below meth c A Q hx hb hml hown ht hE hP hD hret ls hl
  have hK := hE.1
  have hS : va_S A s.heap s.heap [] := va_S.rf
  have hl : lv_has ls 5 [(0, .ref (a0 99))] := hl
  refine lv_aload_n hx hb dX2_countFigures_0 rfl (lv_at hl 0 rfl) ?_
  refine va_get (D := (E.1, E.2.1)) (ci := 2) (v := .ref (a0 3)) (C := RX2) (T := TX2) (N := 9) hx hb ht wu_X2 hown hK hP 0 rfl rfl 3 (by decide) (ht _ wk_X2_22) (fun _ h9 => h9) rfl dX2_countFigures_1 ?_
  refine lv_iconst (v := 0) hx hb dX2_countFigures_4 (by decide) ?_
  have p1 := g_c1 (ws := gW [bRumour E a0 S0]) (c := 2) (x := bInt E (a0 3) 10 (S0.2 3)) rfl
  have p2 := g_c2 (ws := gW [bRumour E a0 S0]) (c := 2) (x := bInt E (a0 3) 10 (S0.2 3)) (x' := bInt E (a0 3) 10 (afill 10 (S0.2 3) 0)) rfl
  refine g_v (g_runS (As := [.ref (a0 3), .int 0]) (rest := []) ⟨hx, hb, hml, hown, ht⟩ hE (c_J7_fill_53178 E l (a0 3) 10 (Nat.le_of_ble_eq_true rfl) (S0.2 3) 0) ⟨rfl, rfl⟩ wk_X2_53 wt_J7_fill_53178 wn_J7 wc_J7_fill_53178 yd_J7_fill_53178 ⟨Nat.le_of_ble_eq_true rfl, Nat.le_of_ble_eq_true rfl⟩ hP hD p1 rfl rfl hl.1 rfl (lv_room (Nat.le_of_ble_eq_true rfl)) dX2_countFigures_5 ⟨Nat.zero_le _, Nat.zero_le _⟩) hP hD hS p1 (fun _ w H locs _ hw hP hD hS => ?_)
  subst hw
  have hP := gP_perm p2 hP
  have hD := gD_perm p2 hD
  clear p1 p2
  have hP : gP E (gW [bRumour E a0 (pw S0 3 (afill 10 (S0.2 3) 0))]) H := hP
  have hD : va_D A (gW [bRumour E a0 (pw S0 3 (afill 10 (S0.2 3) 0))]) := hD
  refine lv_aload_n hx hb dX2_countFigures_8 rfl (lv_at hl 0 rfl) ?_
  refine va_get (D := (E.1, E.2.1)) (ci := 2) (v := .ref (a0 4)) (C := RX2) (T := TX2) (N := 9) hx hb ht wu_X2 hown hK hP 0 rfl rfl 4 (by decide) (ht _ wk_X2_25) (fun _ h9 => h9) rfl dX2_countFigures_9 ?_
  refine lv_iconst (v := 0) hx hb dX2_countFigures_12 (by decide) ?_
  have p1 := g_c1 (ws := gW [bRumour E a0 (pw S0 3 (afill 10 (S0.2 3) 0))]) (c := 3) (x := bInt E (a0 4) 10 ((pw S0 3 (afill 10 (S0.2 3) 0)).2 4)) rfl
  have p2 := g_c2 (ws := gW [bRumour E a0 (pw S0 3 (afill 10 (S0.2 3) 0))]) (c := 3) (x := bInt E (a0 4) 10 ((pw S0 3 (afill 10 (S0.2 3) 0)).2 4)) (x' := bInt E (a0 4) 10 (afill 10 ((pw S0 3 (afill 10 (S0.2 3) 0)).2 4) 0)) rfl
  refine g_v (g_runS (As := [.ref (a0 4), .int 0]) (rest := []) ⟨hx, hb, hml, hown, ht⟩ hE (c_J7_fill_53178 E l (a0 4) 10 (Nat.le_of_ble_eq_true rfl) ((pw S0 3 (afill 10 (S0.2 3) 0)).2 4) 0) ⟨rfl, rfl⟩ wk_X2_53 wt_J7_fill_53178 wn_J7 wc_J7_fill_53178 yd_J7_fill_53178 ⟨Nat.le_of_ble_eq_true rfl, Nat.le_of_ble_eq_true rfl⟩ hP hD p1 rfl rfl hl.1 rfl (lv_room (Nat.le_of_ble_eq_true rfl)) dX2_countFigures_13 ⟨Nat.zero_le _, Nat.zero_le _⟩) hP hD hS p1 (fun _ w H locs _ hw hP hD hS => ?_)
  subst hw
  have hP := gP_perm p2 hP
  have hD := gD_perm p2 hD
  clear p1 p2
  have hP : gP E (gW [bRumour E a0 (pw (pw S0 3 (afill 10 (S0.2 3) 0)) 4 (afill 10 ((pw S0 3 (afill 10 (S0.2 3) 0)).2 4) 0))]) H := hP
  have hD : va_D A (gW [bRumour E a0 (pw (pw S0 3 (afill 10 (S0.2 3) 0)) 4 (afill 10 ((pw S0 3 (afill 10 (S0.2 3) 0)).2 4) 0))]) := hD
  refine lv_aload_n hx hb dX2_countFigures_16 rfl (lv_at hl 0 rfl) ?_
  refine va_get (D := (E.1, E.2.1)) (ci := 2) (v := .ref (a0 5)) (C := RX2) (T := TX2) (N := 9) hx hb ht wu_X2 hown hK hP 0 rfl rfl 5 (by decide) (ht _ wk_X2_28) (fun _ h9 => h9) rfl dX2_countFigures_17 ?_
  refine lv_iconst (v := 0) hx hb dX2_countFigures_20 (by decide) ?_
  have p1 := g_c1 (ws := gW [bRumour E a0 (pw (pw S0 3 (afill 10 (S0.2 3) 0)) 4 (afill 10 ((pw S0 3 (afill 10 (S0.2 3) 0)).2 4) 0))]) (c := 4) (x := bInt E (a0 5) 10 ((pw (pw S0 3 (afill 10 (S0.2 3) 0)) 4 (afill 10 ((pw S0 3 (afill 10 (S0.2 3) 0)).2 4) 0)).2 5)) rfl
  have p2 := g_c2 (ws := gW [bRumour E a0 (pw (pw S0 3 (afill 10 (S0.2 3) 0)) 4 (afill 10 ((pw S0 3 (afill 10 (S0.2 3) 0)).2 4) 0))]) (c := 4) (x := bInt E (a0 5) 10 ((pw (pw S0 3 (afill 10 (S0.2 3) 0)) 4 (afill 10 ((pw S0 3 (afill 10 (S0.2 3) 0)).2 4) 0)).2 5)) (x' := bInt E (a0 5) 10 (afill 10 ((pw (pw S0 3 (afill 10 (S0.2 3) 0)) 4 (afill 10 ((pw S0 3 (afill 10 (S0.2 3) 0)).2 4) 0)).2 5) 0)) rfl
  refine g_v (g_runS (As := [.ref (a0 5), .int 0]) (rest := []) ⟨hx, hb, hml, hown, ht⟩ hE (c_J7_fill_53178 E l (a0 5) 10 (Nat.le_of_ble_eq_true rfl) ((pw (pw S0 3 (afill 10 (S0.2 3) 0)) 4 (afill 10 ((pw S0 3 (afill 10 (S0.2 3) 0)).2 4) 0)).2 5) 0) ⟨rfl, rfl⟩ wk_X2_53 wt_J7_fill_53178 wn_J7 wc_J7_fill_53178 yd_J7_fill_53178 ⟨Nat.le_of_ble_eq_true rfl, Nat.le_of_ble_eq_true rfl⟩ hP hD p1 rfl rfl hl.1 rfl (lv_room (Nat.le_of_ble_eq_true rfl)) dX2_countFigures_21 ⟨Nat.zero_le _, Nat.zero_le _⟩) hP hD hS p1 (fun _ w H locs _ hw hP hD hS => ?_)
  subst hw
  have hP := gP_perm p2 hP
  have hD := gD_perm p2 hD
  clear p1 p2
  have hP : gP E (gW [bRumour E a0 (pw (pw (pw S0 3 (afill 10 (S0.2 3) 0)) 4 (afill 10 ((pw S0 3 (afill 10 (S0.2 3) 0)).2 4) 0)) 5 (afill 10 ((pw (pw S0 3 (afill 10 (S0.2 3) 0)) 4 (afill 10 ((pw S0 3 (afill 10 (S0.2 3) 0)).2 4) 0)).2 5) 0))]) H := hP
  have hD : va_D A (gW [bRumour E a0 (pw (pw (pw S0 3 (afill 10 (S0.2 3) 0)) 4 (afill 10 ((pw S0 3 (afill 10 (S0.2 3) 0)).2 4) 0)) 5 (afill 10 ((pw (pw S0 3 (afill 10 (S0.2 3) 0)) 4 (afill 10 ((pw S0 3 (afill 10 (S0.2 3) 0)).2 4) 0)).2 5) 0))]) := hD
  refine lv_aload_n hx hb dX2_countFigures_24 rfl (lv_at hl 0 rfl) ?_
  refine va_get (D := (E.1, E.2.1)) (ci := 2) (v := .ref (a0 6)) (C := RX2) (T := TX2) (N := 9) hx hb ht wu_X2 hown hK hP 0 rfl rfl 6 (by decide) (ht _ wk_X2_31) (fun _ h9 => h9) rfl dX2_countFigures_25 ?_
  refine lv_iconst (v := 0) hx hb dX2_countFigures_28 (by decide) ?_
  have p1 := g_c1 (ws := gW [bRumour E a0 (pw (pw (pw S0 3 (afill 10 (S0.2 3) 0)) 4 (afill 10 ((pw S0 3 (afill 10 (S0.2 3) 0)).2 4) 0)) 5 (afill 10 ((pw (pw S0 3 (afill 10 (S0.2 3) 0)) 4 (afill 10 ((pw S0 3 (afill 10 (S0.2 3) 0)).2 4) 0)).2 5) 0))]) (c := 5) (x := bInt E (a0 6) 100 ((pw (pw (pw S0 3 (afill 10 (S0.2 3) 0)) 4 (afill 10 ((pw S0 3 (afill 10 (S0.2 3) 0)).2 4) 0)) 5 (afill 10 ((pw (pw S0 3 (afill 10 (S0.2 3) 0)) 4 (afill 10 ((pw S0 3 (afill 10 (S0.2 3) 0)).2 4) 0)).2 5) 0)).2 6)) rfl
  have p2 := g_c2 (ws := gW [bRumour E a0 (pw (pw (pw S0 3 (afill 10 (S0.2 3) 0)) 4 (afill 10 ((pw S0 3 (afill 10 (S0.2 3) 0)).2 4) 0)) 5 (afill 10 ((pw (pw S0 3 (afill 10 (S0.2 3) 0)) 4 (afill 10 ((pw S0 3 (afill 10 (S0.2 3) 0)).2 4) 0)).2 5) 0))]) (c := 5) (x := bInt E (a0 6) 100 ((pw (pw (pw S0 3 (afill 10 (S0.2 3) 0)) 4 (afill 10 ((pw S0 3 (afill 10 (S0.2 3) 0)).2 4) 0)) 5 (afill 10 ((pw (pw S0 3 (afill 10 (S0.2 3) 0)) 4 (afill 10 ((pw S0 3 (afill 10 (S0.2 3) 0)).2 4) 0)).2 5) 0)).2 6)) (x' := bInt E (a0 6) 100 (afill 100 ((pw (pw (pw S0 3 (afill 10 (S0.2 3) 0)) 4 (afill 10 ((pw S0 3 (afill 10 (S0.2 3) 0)).2 4) 0)) 5 (afill 10 ((pw (pw S0 3 (afill 10 (S0.2 3) 0)) 4 (afill 10 ((pw S0 3 (afill 10 (S0.2 3) 0)).2 4) 0)).2 5) 0)).2 6) 0)) rfl
  refine g_v (g_runS (As := [.ref (a0 6), .int 0]) (rest := []) ⟨hx, hb, hml, hown, ht⟩ hE (c_J7_fill_53178 E l (a0 6) 100 (Nat.le_of_ble_eq_true rfl) ((pw (pw (pw S0 3 (afill 10 (S0.2 3) 0)) 4 (afill 10 ((pw S0 3 (afill 10 (S0.2 3) 0)).2 4) 0)) 5 (afill 10 ((pw (pw S0 3 (afill 10 (S0.2 3) 0)) 4 (afill 10 ((pw S0 3 (afill 10 (S0.2 3) 0)).2 4) 0)).2 5) 0)).2 6) 0) ⟨rfl, rfl⟩ wk_X2_53 wt_J7_fill_53178 wn_J7 wc_J7_fill_53178 yd_J7_fill_53178 ⟨Nat.le_of_ble_eq_true rfl, Nat.le_of_ble_eq_true rfl⟩ hP hD p1 rfl rfl hl.1 rfl (lv_room (Nat.le_of_ble_eq_true rfl)) dX2_countFigures_29 ⟨Nat.zero_le _, Nat.zero_le _⟩) hP hD hS p1 (fun _ w H locs _ hw hP hD hS => ?_)
  subst hw
  have hP := gP_perm p2 hP
  have hD := gD_perm p2 hD
  clear p1 p2
  have hP : gP E (gW [bRumour E a0 (pw (pw (pw (pw S0 3 (afill 10 (S0.2 3) 0)) 4 (afill 10 ((pw S0 3 (afill 10 (S0.2 3) 0)).2 4) 0)) 5 (afill 10 ((pw (pw S0 3 (afill 10 (S0.2 3) 0)) 4 (afill 10 ((pw S0 3 (afill 10 (S0.2 3) 0)).2 4) 0)).2 5) 0)) 6 (afill 100 ((pw (pw (pw S0 3 (afill 10 (S0.2 3) 0)) 4 (afill 10 ((pw S0 3 (afill 10 (S0.2 3) 0)).2 4) 0)) 5 (afill 10 ((pw (pw S0 3 (afill 10 (S0.2 3) 0)) 4 (afill 10 ((pw S0 3 (afill 10 (S0.2 3) 0)).2 4) 0)).2 5) 0)).2 6) 0))]) H := hP
  have hD : va_D A (gW [bRumour E a0 (pw (pw (pw (pw S0 3 (afill 10 (S0.2 3) 0)) 4 (afill 10 ((pw S0 3 (afill 10 (S0.2 3) 0)).2 4) 0)) 5 (afill 10 ((pw (pw S0 3 (afill 10 (S0.2 3) 0)) 4 (afill 10 ((pw S0 3 (afill 10 (S0.2 3) 0)).2 4) 0)).2 5) 0)) 6 (afill 100 ((pw (pw (pw S0 3 (afill 10 (S0.2 3) 0)) 4 (afill 10 ((pw S0 3 (afill 10 (S0.2 3) 0)).2 4) 0)) 5 (afill 10 ((pw (pw S0 3 (afill 10 (S0.2 3) 0)) 4 (afill 10 ((pw S0 3 (afill 10 (S0.2 3) 0)).2 4) 0)).2 5) 0)).2 6) 0))]) := hD
  refine lv_aload_n hx hb dX2_countFigures_32 rfl (lv_at hl 0 rfl) ?_
  refine va_get (D := (E.1, E.2.1)) (ci := 2) (v := .ref (a0 7)) (C := RX2) (T := TX2) (N := 9) hx hb ht wu_X2 hown hK hP 0 rfl rfl 7 (by decide) (ht _ wk_X2_34) (fun _ h9 => h9) rfl dX2_countFigures_33 ?_
  refine lv_iconst (v := 0) hx hb dX2_countFigures_36 (by decide) ?_
  have p1 := g_c1 (ws := gW [bRumour E a0 (pw (pw (pw (pw S0 3 (afill 10 (S0.2 3) 0)) 4 (afill 10 ((pw S0 3 (afill 10 (S0.2 3) 0)).2 4) 0)) 5 (afill 10 ((pw (pw S0 3 (afill 10 (S0.2 3) 0)) 4 (afill 10 ((pw S0 3 (afill 10 (S0.2 3) 0)).2 4) 0)).2 5) 0)) 6 (afill 100 ((pw (pw (pw S0 3 (afill 10 (S0.2 3) 0)) 4 (afill 10 ((pw S0 3 (afill 10 (S0.2 3) 0)).2 4) 0)) 5 (afill 10 ((pw (pw S0 3 (afill 10 (S0.2 3) 0)) 4 (afill 10 ((pw S0 3 (afill 10 (S0.2 3) 0)).2 4) 0)).2 5) 0)).2 6) 0))]) (c := 6) (x := bInt E (a0 7) 100 ((pw (pw (pw (pw S0 3 (afill 10 (S0.2 3) 0)) 4 (afill 10 ((pw S0 3 (afill 10 (S0.2 3) 0)).2 4) 0)) 5 (afill 10 ((pw (pw S0 3 (afill 10 (S0.2 3) 0)) 4 (afill 10 ((pw S0 3 (afill 10 (S0.2 3) 0)).2 4) 0)).2 5) 0)) 6 (afill 100 ((pw (pw (pw S0 3 (afill 10 (S0.2 3) 0)) 4 (afill 10 ((pw S0 3 (afill 10 (S0.2 3) 0)).2 4) 0)) 5 (afill 10 ((pw (pw S0 3 (afill 10 (S0.2 3) 0)) 4 (afill 10 ((pw S0 3 (afill 10 (S0.2 3) 0)).2 4) 0)).2 5) 0)).2 6) 0)).2 7)) rfl
  have p2 := g_c2 (ws := gW [bRumour E a0 (pw (pw (pw (pw S0 3 (afill 10 (S0.2 3) 0)) 4 (afill 10 ((pw S0 3 (afill 10 (S0.2 3) 0)).2 4) 0)) 5 (afill 10 ((pw (pw S0 3 (afill 10 (S0.2 3) 0)) 4 (afill 10 ((pw S0 3 (afill 10 (S0.2 3) 0)).2 4) 0)).2 5) 0)) 6 (afill 100 ((pw (pw (pw S0 3 (afill 10 (S0.2 3) 0)) 4 (afill 10 ((pw S0 3 (afill 10 (S0.2 3) 0)).2 4) 0)) 5 (afill 10 ((pw (pw S0 3 (afill 10 (S0.2 3) 0)) 4 (afill 10 ((pw S0 3 (afill 10 (S0.2 3) 0)).2 4) 0)).2 5) 0)).2 6) 0))]) (c := 6) (x := bInt E (a0 7) 100 ((pw (pw (pw (pw S0 3 (afill 10 (S0.2 3) 0)) 4 (afill 10 ((pw S0 3 (afill 10 (S0.2 3) 0)).2 4) 0)) 5 (afill 10 ((pw (pw S0 3 (afill 10 (S0.2 3) 0)) 4 (afill 10 ((pw S0 3 (afill 10 (S0.2 3) 0)).2 4) 0)).2 5) 0)) 6 (afill 100 ((pw (pw (pw S0 3 (afill 10 (S0.2 3) 0)) 4 (afill 10 ((pw S0 3 (afill 10 (S0.2 3) 0)).2 4) 0)) 5 (afill 10 ((pw (pw S0 3 (afill 10 (S0.2 3) 0)) 4 (afill 10 ((pw S0 3 (afill 10 (S0.2 3) 0)).2 4) 0)).2 5) 0)).2 6) 0)).2 7)) (x' := bInt E (a0 7) 100 (afill 100 ((pw (pw (pw (pw S0 3 (afill 10 (S0.2 3) 0)) 4 (afill 10 ((pw S0 3 (afill 10 (S0.2 3) 0)).2 4) 0)) 5 (afill 10 ((pw (pw S0 3 (afill 10 (S0.2 3) 0)) 4 (afill 10 ((pw S0 3 (afill 10 (S0.2 3) 0)).2 4) 0)).2 5) 0)) 6 (afill 100 ((pw (pw (pw S0 3 (afill 10 (S0.2 3) 0)) 4 (afill 10 ((pw S0 3 (afill 10 (S0.2 3) 0)).2 4) 0)) 5 (afill 10 ((pw (pw S0 3 (afill 10 (S0.2 3) 0)) 4 (afill 10 ((pw S0 3 (afill 10 (S0.2 3) 0)).2 4) 0)).2 5) 0)).2 6) 0)).2 7) 0)) rfl
  refine g_v (g_runS (As := [.ref (a0 7), .int 0]) (rest := []) ⟨hx, hb, hml, hown, ht⟩ hE (c_J7_fill_53178 E l (a0 7) 100 (Nat.le_of_ble_eq_true rfl) ((pw (pw (pw (pw S0 3 (afill 10 (S0.2 3) 0)) 4 (afill 10 ((pw S0 3 (afill 10 (S0.2 3) 0)).2 4) 0)) 5 (afill 10 ((pw (pw S0 3 (afill 10 (S0.2 3) 0)) 4 (afill 10 ((pw S0 3 (afill 10 (S0.2 3) 0)).2 4) 0)).2 5) 0)) 6 (afill 100 ((pw (pw (pw S0 3 (afill 10 (S0.2 3) 0)) 4 (afill 10 ((pw S0 3 (afill 10 (S0.2 3) 0)).2 4) 0)) 5 (afill 10 ((pw (pw S0 3 (afill 10 (S0.2 3) 0)) 4 (afill 10 ((pw S0 3 (afill 10 (S0.2 3) 0)).2 4) 0)).2 5) 0)).2 6) 0)).2 7) 0) ⟨rfl, rfl⟩ wk_X2_53 wt_J7_fill_53178 wn_J7 wc_J7_fill_53178 yd_J7_fill_53178 ⟨Nat.le_of_ble_eq_true rfl, Nat.le_of_ble_eq_true rfl⟩ hP hD p1 rfl rfl hl.1 rfl (lv_room (Nat.le_of_ble_eq_true rfl)) dX2_countFigures_37 ⟨Nat.zero_le _, Nat.zero_le _⟩) hP hD hS p1 (fun _ w H locs _ hw hP hD hS => ?_)
  subst hw
  have hP := gP_perm p2 hP
  have hD := gD_perm p2 hD
  clear p1 p2
  have hP : gP E (gW [bRumour E a0 (pw (pw (pw (pw (pw S0 3 (afill 10 (S0.2 3) 0)) 4 (afill 10 ((pw S0 3 (afill 10 (S0.2 3) 0)).2 4) 0)) 5 (afill 10 ((pw (pw S0 3 (afill 10 (S0.2 3) 0)) 4 (afill 10 ((pw S0 3 (afill 10 (S0.2 3) 0)).2 4) 0)).2 5) 0)) 6 (afill 100 ((pw (pw (pw S0 3 (afill 10 (S0.2 3) 0)) 4 (afill 10 ((pw S0 3 (afill 10 (S0.2 3) 0)).2 4) 0)) 5 (afill 10 ((pw (pw S0 3 (afill 10 (S0.2 3) 0)) 4 (afill 10 ((pw S0 3 (afill 10 (S0.2 3) 0)).2 4) 0)).2 5) 0)).2 6) 0)) 7 (afill 100 ((pw (pw (pw (pw S0 3 (afill 10 (S0.2 3) 0)) 4 (afill 10 ((pw S0 3 (afill 10 (S0.2 3) 0)).2 4) 0)) 5 (afill 10 ((pw (pw S0 3 (afill 10 (S0.2 3) 0)) 4 (afill 10 ((pw S0 3 (afill 10 (S0.2 3) 0)).2 4) 0)).2 5) 0)) 6 (afill 100 ((pw (pw (pw S0 3 (afill 10 (S0.2 3) 0)) 4 (afill 10 ((pw S0 3 (afill 10 (S0.2 3) 0)).2 4) 0)) 5 (afill 10 ((pw (pw S0 3 (afill 10 (S0.2 3) 0)) 4 (afill 10 ((pw S0 3 (afill 10 (S0.2 3) 0)).2 4) 0)).2 5) 0)).2 6) 0)).2 7) 0))]) H := hP
  have hD : va_D A (gW [bRumour E a0 (pw (pw (pw (pw (pw S0 3 (afill 10 (S0.2 3) 0)) 4 (afill 10 ((pw S0 3 (afill 10 (S0.2 3) 0)).2 4) 0)) 5 (afill 10 ((pw (pw S0 3 (afill 10 (S0.2 3) 0)) 4 (afill 10 ((pw S0 3 (afill 10 (S0.2 3) 0)).2 4) 0)).2 5) 0)) 6 (afill 100 ((pw (pw (pw S0 3 (afill 10 (S0.2 3) 0)) 4 (afill 10 ((pw S0 3 (afill 10 (S0.2 3) 0)).2 4) 0)) 5 (afill 10 ((pw (pw S0 3 (afill 10 (S0.2 3) 0)) 4 (afill 10 ((pw S0 3 (afill 10 (S0.2 3) 0)).2 4) 0)).2 5) 0)).2 6) 0)) 7 (afill 100 ((pw (pw (pw (pw S0 3 (afill 10 (S0.2 3) 0)) 4 (afill 10 ((pw S0 3 (afill 10 (S0.2 3) 0)).2 4) 0)) 5 (afill 10 ((pw (pw S0 3 (afill 10 (S0.2 3) 0)) 4 (afill 10 ((pw S0 3 (afill 10 (S0.2 3) 0)).2 4) 0)).2 5) 0)) 6 (afill 100 ((pw (pw (pw S0 3 (afill 10 (S0.2 3) 0)) 4 (afill 10 ((pw S0 3 (afill 10 (S0.2 3) 0)).2 4) 0)) 5 (afill 10 ((pw (pw S0 3 (afill 10 (S0.2 3) 0)) 4 (afill 10 ((pw S0 3 (afill 10 (S0.2 3) 0)).2 4) 0)).2 5) 0)).2 6) 0)).2 7) 0))]) := hD
  refine lv_aload_n hx hb dX2_countFigures_40 rfl (lv_at hl 0 rfl) ?_
  refine va_get (D := (E.1, E.2.1)) (ci := 2) (v := .ref (a0 8)) (C := RX2) (T := TX2) (N := 9) hx hb ht wu_X2 hown hK hP 0 rfl rfl 8 (by decide) (ht _ wk_X2_37) (fun _ h9 => h9) rfl dX2_countFigures_41 ?_
  refine lv_iconst (v := 0) hx hb dX2_countFigures_44 (by decide) ?_
  have p1 := g_c1 (ws := gW [bRumour E a0 (pw (pw (pw (pw (pw S0 3 (afill 10 (S0.2 3) 0)) 4 (afill 10 ((pw S0 3 (afill 10 (S0.2 3) 0)).2 4) 0)) 5 (afill 10 ((pw (pw S0 3 (afill 10 (S0.2 3) 0)) 4 (afill 10 ((pw S0 3 (afill 10 (S0.2 3) 0)).2 4) 0)).2 5) 0)) 6 (afill 100 ((pw (pw (pw S0 3 (afill 10 (S0.2 3) 0)) 4 (afill 10 ((pw S0 3 (afill 10 (S0.2 3) 0)).2 4) 0)) 5 (afill 10 ((pw (pw S0 3 (afill 10 (S0.2 3) 0)) 4 (afill 10 ((pw S0 3 (afill 10 (S0.2 3) 0)).2 4) 0)).2 5) 0)).2 6) 0)) 7 (afill 100 ((pw (pw (pw (pw S0 3 (afill 10 (S0.2 3) 0)) 4 (afill 10 ((pw S0 3 (afill 10 (S0.2 3) 0)).2 4) 0)) 5 (afill 10 ((pw (pw S0 3 (afill 10 (S0.2 3) 0)) 4 (afill 10 ((pw S0 3 (afill 10 (S0.2 3) 0)).2 4) 0)).2 5) 0)) 6 (afill 100 ((pw (pw (pw S0 3 (afill 10 (S0.2 3) 0)) 4 (afill 10 ((pw S0 3 (afill 10 (S0.2 3) 0)).2 4) 0)) 5 (afill 10 ((pw (pw S0 3 (afill 10 (S0.2 3) 0)) 4 (afill 10 ((pw S0 3 (afill 10 (S0.2 3) 0)).2 4) 0)).2 5) 0)).2 6) 0)).2 7) 0))]) (c := 7) (x := bInt E (a0 8) 100 ((pw (pw (pw (pw (pw S0 3 (afill 10 (S0.2 3) 0)) 4 (afill 10 ((pw S0 3 (afill 10 (S0.2 3) 0)).2 4) 0)) 5 (afill 10 ((pw (pw S0 3 (afill 10 (S0.2 3) 0)) 4 (afill 10 ((pw S0 3 (afill 10 (S0.2 3) 0)).2 4) 0)).2 5) 0)) 6 (afill 100 ((pw (pw (pw S0 3 (afill 10 (S0.2 3) 0)) 4 (afill 10 ((pw S0 3 (afill 10 (S0.2 3) 0)).2 4) 0)) 5 (afill 10 ((pw (pw S0 3 (afill 10 (S0.2 3) 0)) 4 (afill 10 ((pw S0 3 (afill 10 (S0.2 3) 0)).2 4) 0)).2 5) 0)).2 6) 0)) 7 (afill 100 ((pw (pw (pw (pw S0 3 (afill 10 (S0.2 3) 0)) 4 (afill 10 ((pw S0 3 (afill 10 (S0.2 3) 0)).2 4) 0)) 5 (afill 10 ((pw (pw S0 3 (afill 10 (S0.2 3) 0)) 4 (afill 10 ((pw S0 3 (afill 10 (S0.2 3) 0)).2 4) 0)).2 5) 0)) 6 (afill 100 ((pw (pw (pw S0 3 (afill 10 (S0.2 3) 0)) 4 (afill 10 ((pw S0 3 (afill 10 (S0.2 3) 0)).2 4) 0)) 5 (afill 10 ((pw (pw S0 3 (afill 10 (S0.2 3) 0)) 4 (afill 10 ((pw S0 3 (afill 10 (S0.2 3) 0)).2 4) 0)).2 5) 0)).2 6) 0)).2 7) 0)).2 8)) rfl
  have p2 := g_c2 (ws := gW [bRumour E a0 (pw (pw (pw (pw (pw S0 3 (afill 10 (S0.2 3) 0)) 4 (afill 10 ((pw S0 3 (afill 10 (S0.2 3) 0)).2 4) 0)) 5 (afill 10 ((pw (pw S0 3 (afill 10 (S0.2 3) 0)) 4 (afill 10 ((pw S0 3 (afill 10 (S0.2 3) 0)).2 4) 0)).2 5) 0)) 6 (afill 100 ((pw (pw (pw S0 3 (afill 10 (S0.2 3) 0)) 4 (afill 10 ((pw S0 3 (afill 10 (S0.2 3) 0)).2 4) 0)) 5 (afill 10 ((pw (pw S0 3 (afill 10 (S0.2 3) 0)) 4 (afill 10 ((pw S0 3 (afill 10 (S0.2 3) 0)).2 4) 0)).2 5) 0)).2 6) 0)) 7 (afill 100 ((pw (pw (pw (pw S0 3 (afill 10 (S0.2 3) 0)) 4 (afill 10 ((pw S0 3 (afill 10 (S0.2 3) 0)).2 4) 0)) 5 (afill 10 ((pw (pw S0 3 (afill 10 (S0.2 3) 0)) 4 (afill 10 ((pw S0 3 (afill 10 (S0.2 3) 0)).2 4) 0)).2 5) 0)) 6 (afill 100 ((pw (pw (pw S0 3 (afill 10 (S0.2 3) 0)) 4 (afill 10 ((pw S0 3 (afill 10 (S0.2 3) 0)).2 4) 0)) 5 (afill 10 ((pw (pw S0 3 (afill 10 (S0.2 3) 0)) 4 (afill 10 ((pw S0 3 (afill 10 (S0.2 3) 0)).2 4) 0)).2 5) 0)).2 6) 0)).2 7) 0))]) (c := 7) (x := bInt E (a0 8) 100 ((pw (pw (pw (pw (pw S0 3 (afill 10 (S0.2 3) 0)) 4 (afill 10 ((pw S0 3 (afill 10 (S0.2 3) 0)).2 4) 0)) 5 (afill 10 ((pw (pw S0 3 (afill 10 (S0.2 3) 0)) 4 (afill 10 ((pw S0 3 (afill 10 (S0.2 3) 0)).2 4) 0)).2 5) 0)) 6 (afill 100 ((pw (pw (pw S0 3 (afill 10 (S0.2 3) 0)) 4 (afill 10 ((pw S0 3 (afill 10 (S0.2 3) 0)).2 4) 0)) 5 (afill 10 ((pw (pw S0 3 (afill 10 (S0.2 3) 0)) 4 (afill 10 ((pw S0 3 (afill 10 (S0.2 3) 0)).2 4) 0)).2 5) 0)).2 6) 0)) 7 (afill 100 ((pw (pw (pw (pw S0 3 (afill 10 (S0.2 3) 0)) 4 (afill 10 ((pw S0 3 (afill 10 (S0.2 3) 0)).2 4) 0)) 5 (afill 10 ((pw (pw S0 3 (afill 10 (S0.2 3) 0)) 4 (afill 10 ((pw S0 3 (afill 10 (S0.2 3) 0)).2 4) 0)).2 5) 0)) 6 (afill 100 ((pw (pw (pw S0 3 (afill 10 (S0.2 3) 0)) 4 (afill 10 ((pw S0 3 (afill 10 (S0.2 3) 0)).2 4) 0)) 5 (afill 10 ((pw (pw S0 3 (afill 10 (S0.2 3) 0)) 4 (afill 10 ((pw S0 3 (afill 10 (S0.2 3) 0)).2 4) 0)).2 5) 0)).2 6) 0)).2 7) 0)).2 8)) (x' := bInt E (a0 8) 100 (afill 100 ((pw (pw (pw (pw (pw S0 3 (afill 10 (S0.2 3) 0)) 4 (afill 10 ((pw S0 3 (afill 10 (S0.2 3) 0)).2 4) 0)) 5 (afill 10 ((pw (pw S0 3 (afill 10 (S0.2 3) 0)) 4 (afill 10 ((pw S0 3 (afill 10 (S0.2 3) 0)).2 4) 0)).2 5) 0)) 6 (afill 100 ((pw (pw (pw S0 3 (afill 10 (S0.2 3) 0)) 4 (afill 10 ((pw S0 3 (afill 10 (S0.2 3) 0)).2 4) 0)) 5 (afill 10 ((pw (pw S0 3 (afill 10 (S0.2 3) 0)) 4 (afill 10 ((pw S0 3 (afill 10 (S0.2 3) 0)).2 4) 0)).2 5) 0)).2 6) 0)) 7 (afill 100 ((pw (pw (pw (pw S0 3 (afill 10 (S0.2 3) 0)) 4 (afill 10 ((pw S0 3 (afill 10 (S0.2 3) 0)).2 4) 0)) 5 (afill 10 ((pw (pw S0 3 (afill 10 (S0.2 3) 0)) 4 (afill 10 ((pw S0 3 (afill 10 (S0.2 3) 0)).2 4) 0)).2 5) 0)) 6 (afill 100 ((pw (pw (pw S0 3 (afill 10 (S0.2 3) 0)) 4 (afill 10 ((pw S0 3 (afill 10 (S0.2 3) 0)).2 4) 0)) 5 (afill 10 ((pw (pw S0 3 (afill 10 (S0.2 3) 0)) 4 (afill 10 ((pw S0 3 (afill 10 (S0.2 3) 0)).2 4) 0)).2 5) 0)).2 6) 0)).2 7) 0)).2 8) 0)) rfl
  refine g_v (g_runS (As := [.ref (a0 8), .int 0]) (rest := []) ⟨hx, hb, hml, hown, ht⟩ hE (c_J7_fill_53178 E l (a0 8) 100 (Nat.le_of_ble_eq_true rfl) ((pw (pw (pw (pw (pw S0 3 (afill 10 (S0.2 3) 0)) 4 (afill 10 ((pw S0 3 (afill 10 (S0.2 3) 0)).2 4) 0)) 5 (afill 10 ((pw (pw S0 3 (afill 10 (S0.2 3) 0)) 4 (afill 10 ((pw S0 3 (afill 10 (S0.2 3) 0)).2 4) 0)).2 5) 0)) 6 (afill 100 ((pw (pw (pw S0 3 (afill 10 (S0.2 3) 0)) 4 (afill 10 ((pw S0 3 (afill 10 (S0.2 3) 0)).2 4) 0)) 5 (afill 10 ((pw (pw S0 3 (afill 10 (S0.2 3) 0)) 4 (afill 10 ((pw S0 3 (afill 10 (S0.2 3) 0)).2 4) 0)).2 5) 0)).2 6) 0)) 7 (afill 100 ((pw (pw (pw (pw S0 3 (afill 10 (S0.2 3) 0)) 4 (afill 10 ((pw S0 3 (afill 10 (S0.2 3) 0)).2 4) 0)) 5 (afill 10 ((pw (pw S0 3 (afill 10 (S0.2 3) 0)) 4 (afill 10 ((pw S0 3 (afill 10 (S0.2 3) 0)).2 4) 0)).2 5) 0)) 6 (afill 100 ((pw (pw (pw S0 3 (afill 10 (S0.2 3) 0)) 4 (afill 10 ((pw S0 3 (afill 10 (S0.2 3) 0)).2 4) 0)) 5 (afill 10 ((pw (pw S0 3 (afill 10 (S0.2 3) 0)) 4 (afill 10 ((pw S0 3 (afill 10 (S0.2 3) 0)).2 4) 0)).2 5) 0)).2 6) 0)).2 7) 0)).2 8) 0) ⟨rfl, rfl⟩ wk_X2_53 wt_J7_fill_53178 wn_J7 wc_J7_fill_53178 yd_J7_fill_53178 ⟨Nat.le_of_ble_eq_true rfl, Nat.le_of_ble_eq_true rfl⟩ hP hD p1 rfl rfl hl.1 rfl (lv_room (Nat.le_of_ble_eq_true rfl)) dX2_countFigures_45 ⟨Nat.zero_le _, Nat.zero_le _⟩) hP hD hS p1 (fun _ w H locs _ hw hP hD hS => ?_)
  subst hw
  have hP := gP_perm p2 hP
  have hD := gD_perm p2 hD
  clear p1 p2
  have hP : gP E (gW [bRumour E a0 (pw (pw (pw (pw (pw (pw S0 3 (afill 10 (S0.2 3) 0)) 4 (afill 10 ((pw S0 3 (afill 10 (S0.2 3) 0)).2 4) 0)) 5 (afill 10 ((pw (pw S0 3 (afill 10 (S0.2 3) 0)) 4 (afill 10 ((pw S0 3 (afill 10 (S0.2 3) 0)).2 4) 0)).2 5) 0)) 6 (afill 100 ((pw (pw (pw S0 3 (afill 10 (S0.2 3) 0)) 4 (afill 10 ((pw S0 3 (afill 10 (S0.2 3) 0)).2 4) 0)) 5 (afill 10 ((pw (pw S0 3 (afill 10 (S0.2 3) 0)) 4 (afill 10 ((pw S0 3 (afill 10 (S0.2 3) 0)).2 4) 0)).2 5) 0)).2 6) 0)) 7 (afill 100 ((pw (pw (pw (pw S0 3 (afill 10 (S0.2 3) 0)) 4 (afill 10 ((pw S0 3 (afill 10 (S0.2 3) 0)).2 4) 0)) 5 (afill 10 ((pw (pw S0 3 (afill 10 (S0.2 3) 0)) 4 (afill 10 ((pw S0 3 (afill 10 (S0.2 3) 0)).2 4) 0)).2 5) 0)) 6 (afill 100 ((pw (pw (pw S0 3 (afill 10 (S0.2 3) 0)) 4 (afill 10 ((pw S0 3 (afill 10 (S0.2 3) 0)).2 4) 0)) 5 (afill 10 ((pw (pw S0 3 (afill 10 (S0.2 3) 0)) 4 (afill 10 ((pw S0 3 (afill 10 (S0.2 3) 0)).2 4) 0)).2 5) 0)).2 6) 0)).2 7) 0)) 8 (afill 100 ((pw (pw (pw (pw (pw S0 3 (afill 10 (S0.2 3) 0)) 4 (afill 10 ((pw S0 3 (afill 10 (S0.2 3) 0)).2 4) 0)) 5 (afill 10 ((pw (pw S0 3 (afill 10 (S0.2 3) 0)) 4 (afill 10 ((pw S0 3 (afill 10 (S0.2 3) 0)).2 4) 0)).2 5) 0)) 6 (afill 100 ((pw (pw (pw S0 3 (afill 10 (S0.2 3) 0)) 4 (afill 10 ((pw S0 3 (afill 10 (S0.2 3) 0)).2 4) 0)) 5 (afill 10 ((pw (pw S0 3 (afill 10 (S0.2 3) 0)) 4 (afill 10 ((pw S0 3 (afill 10 (S0.2 3) 0)).2 4) 0)).2 5) 0)).2 6) 0)) 7 (afill 100 ((pw (pw (pw (pw S0 3 (afill 10 (S0.2 3) 0)) 4 (afill 10 ((pw S0 3 (afill 10 (S0.2 3) 0)).2 4) 0)) 5 (afill 10 ((pw (pw S0 3 (afill 10 (S0.2 3) 0)) 4 (afill 10 ((pw S0 3 (afill 10 (S0.2 3) 0)).2 4) 0)).2 5) 0)) 6 (afill 100 ((pw (pw (pw S0 3 (afill 10 (S0.2 3) 0)) 4 (afill 10 ((pw S0 3 (afill 10 (S0.2 3) 0)).2 4) 0)) 5 (afill 10 ((pw (pw S0 3 (afill 10 (S0.2 3) 0)) 4 (afill 10 ((pw S0 3 (afill 10 (S0.2 3) 0)).2 4) 0)).2 5) 0)).2 6) 0)).2 7) 0)).2 8) 0))]) H := hP
  have hD : va_D A (gW [bRumour E a0 (pw (pw (pw (pw (pw (pw S0 3 (afill 10 (S0.2 3) 0)) 4 (afill 10 ((pw S0 3 (afill 10 (S0.2 3) 0)).2 4) 0)) 5 (afill 10 ((pw (pw S0 3 (afill 10 (S0.2 3) 0)) 4 (afill 10 ((pw S0 3 (afill 10 (S0.2 3) 0)).2 4) 0)).2 5) 0)) 6 (afill 100 ((pw (pw (pw S0 3 (afill 10 (S0.2 3) 0)) 4 (afill 10 ((pw S0 3 (afill 10 (S0.2 3) 0)).2 4) 0)) 5 (afill 10 ((pw (pw S0 3 (afill 10 (S0.2 3) 0)) 4 (afill 10 ((pw S0 3 (afill 10 (S0.2 3) 0)).2 4) 0)).2 5) 0)).2 6) 0)) 7 (afill 100 ((pw (pw (pw (pw S0 3 (afill 10 (S0.2 3) 0)) 4 (afill 10 ((pw S0 3 (afill 10 (S0.2 3) 0)).2 4) 0)) 5 (afill 10 ((pw (pw S0 3 (afill 10 (S0.2 3) 0)) 4 (afill 10 ((pw S0 3 (afill 10 (S0.2 3) 0)).2 4) 0)).2 5) 0)) 6 (afill 100 ((pw (pw (pw S0 3 (afill 10 (S0.2 3) 0)) 4 (afill 10 ((pw S0 3 (afill 10 (S0.2 3) 0)).2 4) 0)) 5 (afill 10 ((pw (pw S0 3 (afill 10 (S0.2 3) 0)) 4 (afill 10 ((pw S0 3 (afill 10 (S0.2 3) 0)).2 4) 0)).2 5) 0)).2 6) 0)).2 7) 0)) 8 (afill 100 ((pw (pw (pw (pw (pw S0 3 (afill 10 (S0.2 3) 0)) 4 (afill 10 ((pw S0 3 (afill 10 (S0.2 3) 0)).2 4) 0)) 5 (afill 10 ((pw (pw S0 3 (afill 10 (S0.2 3) 0)) 4 (afill 10 ((pw S0 3 (afill 10 (S0.2 3) 0)).2 4) 0)).2 5) 0)) 6 (afill 100 ((pw (pw (pw S0 3 (afill 10 (S0.2 3) 0)) 4 (afill 10 ((pw S0 3 (afill 10 (S0.2 3) 0)).2 4) 0)) 5 (afill 10 ((pw (pw S0 3 (afill 10 (S0.2 3) 0)) 4 (afill 10 ((pw S0 3 (afill 10 (S0.2 3) 0)).2 4) 0)).2 5) 0)).2 6) 0)) 7 (afill 100 ((pw (pw (pw (pw S0 3 (afill 10 (S0.2 3) 0)) 4 (afill 10 ((pw S0 3 (afill 10 (S0.2 3) 0)).2 4) 0)) 5 (afill 10 ((pw (pw S0 3 (afill 10 (S0.2 3) 0)) 4 (afill 10 ((pw S0 3 (afill 10 (S0.2 3) 0)).2 4) 0)).2 5) 0)) 6 (afill 100 ((pw (pw (pw S0 3 (afill 10 (S0.2 3) 0)) 4 (afill 10 ((pw S0 3 (afill 10 (S0.2 3) 0)).2 4) 0)) 5 (afill 10 ((pw (pw S0 3 (afill 10 (S0.2 3) 0)) 4 (afill 10 ((pw S0 3 (afill 10 (S0.2 3) 0)).2 4) 0)).2 5) 0)).2 6) 0)).2 7) 0)).2 8) 0))]) := hD
  refine lv_iconst (v := 0) hx hb dX2_countFigures_48 (by decide) ?_
  refine lv_istore_n (lv' := [(1, .int 0), (0, .ref (a0 99))]) hx hb dX2_countFigures_49 rfl hl (by decide) rfl (fun ls hl => ?_)
  have L50 : ∀ (n50 : Nat) (x1_50 : Int32) (S0_50 : Ob) (H : Heap) (locs : List Loc) (ls : Array Slot), wp_X2_countFigures_L50 post n50 x1_50 S0_50 → gP E (gW [bRumour E a0 S0_50]) H → va_D A (gW [bRumour E a0 S0_50]) → va_S A s.heap H locs → lv_has ls 5 [(0, .ref (a0 99)), (1, .int x1_50)] → W p l e { frames := 1, cells := 0, slots := 0, locals := 23 } s m ([.ref (a0 99)] : List Value).toArray below meth c H locs 0 0 Q (F0 m 50 ls []) := by
    intro n50
    induction n50 with
    | zero => intro x1_50 S0_50 H locs ls h; exact h.elim
    | succ n50 ih50 =>
      intro x1_50 S0_50 H locs ls h hP hD hS hl
      rw [wp_X2_countFigures_L50] at h
      refine lv_iload_n hx hb dX2_countFigures_50 rfl (lv_at hl 1 rfl) ?_
      refine lv_aload_n hx hb dX2_countFigures_51 rfl (lv_at hl 0 rfl) ?_
      refine va_get (D := (E.1, E.2.1)) (ci := 2) (v := .int (S0_50.1 1)) (C := RX2) (T := TX2) (N := 9) hx hb ht wu_X2 hown hK hP 0 rfl rfl 1 (by decide) (ht _ wk_X2_15) (fun _ h9 => h9) rfl dX2_countFigures_52 ?_
      refine lv_icmp_ge (tgt := 183) hx hb dX2_countFigures_55 (by decide) (fun c_11 => ?_) (fun c_11 => ?_)
      · have h := h.1 c_11
        exact hret S0_50 _ _ _ _ _ h rfl hP hD hS dX2_countFigures_183
      · have h := h.2 c_11
        refine lv_iload_n hx hb dX2_countFigures_58 rfl (lv_at hl 1 rfl) ?_
        refine lv_sipush (v := 1000) hx hb dX2_countFigures_59 (by decide) ?_
        refine lv_icmp_ge (tgt := 183) hx hb dX2_countFigures_62 (by decide) (fun c_12 => ?_) (fun c_12 => ?_)
        · have h := h.1 c_12
          exact hret S0_50 _ _ _ _ _ h rfl hP hD hS dX2_countFigures_183
        · have h := h.2 c_12
          refine lv_aload_n hx hb dX2_countFigures_65 rfl (lv_at hl 0 rfl) ?_
          refine va_get (D := (E.1, E.2.1)) (ci := 2) (v := .ref (a0 0)) (C := RX2) (T := TX2) (N := 9) hx hb ht wu_X2 hown hK hP 0 rfl rfl 0 (by decide) (ht _ wk_X2_9) (fun _ h9 => h9) rfl dX2_countFigures_66 ?_
          refine lv_iload_n hx hb dX2_countFigures_69 rfl (lv_at hl 1 rfl) ?_
          refine va_iald hx hb hK hP 1 0 rfl rfl h.1 dX2_countFigures_70 ?_
          have h := h.2
          refine lv_bipush (v := 100) hx hb dX2_countFigures_71 (by decide) ?_
          refine lv_idiv hx hb dX2_countFigures_73 (by decide) ?_
          refine lv_istore_n (lv' := [(2, .int ((S0_50.2 0 x1_50.toNatClampNeg) / 100)), (0, .ref (a0 99)), (1, .int x1_50)]) hx hb dX2_countFigures_74 rfl hl (by decide) rfl (fun ls hl => ?_)
          refine lv_aload_n hx hb dX2_countFigures_75 rfl (lv_at hl 1 rfl) ?_
          refine va_get (D := (E.1, E.2.1)) (ci := 2) (v := .ref (a0 0)) (C := RX2) (T := TX2) (N := 9) hx hb ht wu_X2 hown hK hP 0 rfl rfl 0 (by decide) (ht _ wk_X2_9) (fun _ h9 => h9) rfl dX2_countFigures_76 ?_
          refine lv_iload_n hx hb dX2_countFigures_79 rfl (lv_at hl 2 rfl) ?_
          refine va_iald hx hb hK hP 1 0 rfl rfl h.1 dX2_countFigures_80 ?_
          have h := h.2
          refine lv_bipush (v := 10) hx hb dX2_countFigures_81 (by decide) ?_
          refine lv_idiv hx hb dX2_countFigures_83 (by decide) ?_
          refine lv_bipush (v := 10) hx hb dX2_countFigures_84 (by decide) ?_
          refine lv_irem hx hb dX2_countFigures_86 (by decide) ?_
          refine lv_topi (fun y_13 ey_13 => ?_)
          have h := h y_13 ey_13
          refine lv_istore_n (lv' := [(3, .int y_13), (2, .int ((S0_50.2 0 x1_50.toNatClampNeg) / 100)), (0, .ref (a0 99)), (1, .int x1_50)]) hx hb dX2_countFigures_87 rfl hl (by decide) rfl (fun ls hl => ?_)
          refine lv_aload_n hx hb dX2_countFigures_88 rfl (lv_at hl 2 rfl) ?_
          refine va_get (D := (E.1, E.2.1)) (ci := 2) (v := .ref (a0 0)) (C := RX2) (T := TX2) (N := 9) hx hb ht wu_X2 hown hK hP 0 rfl rfl 0 (by decide) (ht _ wk_X2_9) (fun _ h9 => h9) rfl dX2_countFigures_89 ?_
          refine lv_iload_n hx hb dX2_countFigures_92 rfl (lv_at hl 3 rfl) ?_
          refine va_iald hx hb hK hP 1 0 rfl rfl h.1 dX2_countFigures_93 ?_
          have h := h.2
          refine lv_bipush (v := 10) hx hb dX2_countFigures_94 (by decide) ?_
          refine lv_irem hx hb dX2_countFigures_96 (by decide) ?_
          refine lv_topi (fun y_14 ey_14 => ?_)
          have h := h y_14 ey_14
          refine lv_istore (lv' := [(4, .int y_14), (3, .int y_13), (2, .int ((S0_50.2 0 x1_50.toNatClampNeg) / 100)), (0, .ref (a0 99)), (1, .int x1_50)]) hx hb dX2_countFigures_97 hl (by decide) rfl (fun ls hl => ?_)
          refine lv_aload_n hx hb dX2_countFigures_99 rfl (lv_at hl 3 rfl) ?_
          refine va_get (D := (E.1, E.2.1)) (ci := 2) (v := .ref (a0 3)) (C := RX2) (T := TX2) (N := 9) hx hb ht wu_X2 hown hK hP 0 rfl rfl 3 (by decide) (ht _ wk_X2_22) (fun _ h9 => h9) rfl dX2_countFigures_100 ?_
          refine lv_iload_n hx hb dX2_countFigures_103 rfl (lv_at hl 2 rfl) ?_
          refine lv_dup2_11 hx hb dX2_countFigures_104 rfl rfl ?_
          refine va_iald hx hb hK hP 2 0 rfl rfl h.1 dX2_countFigures_105 ?_
          have h := h.2
          refine lv_iconst (v := 1) hx hb dX2_countFigures_106 (by decide) ?_
          refine lv_iadd hx hb dX2_countFigures_107 ?_
          refine va_iast hx hb hK hP hD hS 2 0 rfl rfl h.1 dX2_countFigures_108 (fun H locs hP hD hS => ?_)
          have h := h.2
          have hP : gP E (gW [bRumour E a0 (pa S0_50 3 (((S0_50.2 0 x1_50.toNatClampNeg) / 100).toNatClampNeg) ((S0_50.2 3 ((S0_50.2 0 x1_50.toNatClampNeg) / 100).toNatClampNeg) + 1))]) H := hP
          have hD : va_D A (gW [bRumour E a0 (pa S0_50 3 (((S0_50.2 0 x1_50.toNatClampNeg) / 100).toNatClampNeg) ((S0_50.2 3 ((S0_50.2 0 x1_50.toNatClampNeg) / 100).toNatClampNeg) + 1))]) := hD
          obtain ⟨S_15, eS_15⟩ : ∃ z : Ob, z = (pa S0_50 3 (((S0_50.2 0 x1_50.toNatClampNeg) / 100).toNatClampNeg) ((S0_50.2 3 ((S0_50.2 0 x1_50.toNatClampNeg) / 100).toNatClampNeg) + 1)) := ⟨_, rfl⟩
          have h := h S_15 eS_15
          rw [← eS_15] at hP hD
          refine lv_aload_n hx hb dX2_countFigures_109 rfl (lv_at hl 3 rfl) ?_
          refine va_get (D := (E.1, E.2.1)) (ci := 2) (v := .ref (a0 4)) (C := RX2) (T := TX2) (N := 9) hx hb ht wu_X2 hown hK hP 0 rfl rfl 4 (by decide) (ht _ wk_X2_25) (fun _ h9 => h9) rfl dX2_countFigures_110 ?_
          refine lv_iload_n hx hb dX2_countFigures_113 rfl (lv_at hl 1 rfl) ?_
          refine lv_dup2_11 hx hb dX2_countFigures_114 rfl rfl ?_
          refine va_iald hx hb hK hP 3 0 rfl rfl h.1 dX2_countFigures_115 ?_
          have h := h.2
          refine lv_iconst (v := 1) hx hb dX2_countFigures_116 (by decide) ?_
          refine lv_iadd hx hb dX2_countFigures_117 ?_
          refine va_iast hx hb hK hP hD hS 3 0 rfl rfl h.1 dX2_countFigures_118 (fun H locs hP hD hS => ?_)
          have h := h.2
          have hP : gP E (gW [bRumour E a0 (pa S_15 4 (y_13.toNatClampNeg) ((S_15.2 4 y_13.toNatClampNeg) + 1))]) H := hP
          have hD : va_D A (gW [bRumour E a0 (pa S_15 4 (y_13.toNatClampNeg) ((S_15.2 4 y_13.toNatClampNeg) + 1))]) := hD
          obtain ⟨S_16, eS_16⟩ : ∃ z : Ob, z = (pa S_15 4 (y_13.toNatClampNeg) ((S_15.2 4 y_13.toNatClampNeg) + 1)) := ⟨_, rfl⟩
          have h := h S_16 eS_16
          rw [← eS_16] at hP hD
          refine lv_aload_n hx hb dX2_countFigures_119 rfl (lv_at hl 3 rfl) ?_
          refine va_get (D := (E.1, E.2.1)) (ci := 2) (v := .ref (a0 5)) (C := RX2) (T := TX2) (N := 9) hx hb ht wu_X2 hown hK hP 0 rfl rfl 5 (by decide) (ht _ wk_X2_28) (fun _ h9 => h9) rfl dX2_countFigures_120 ?_
          refine lv_iload hx hb dX2_countFigures_123 (lv_at hl 0 rfl) ?_
          refine lv_dup2_11 hx hb dX2_countFigures_125 rfl rfl ?_
          refine va_iald hx hb hK hP 4 0 rfl rfl h.1 dX2_countFigures_126 ?_
          have h := h.2
          refine lv_iconst (v := 1) hx hb dX2_countFigures_127 (by decide) ?_
          refine lv_iadd hx hb dX2_countFigures_128 ?_
          refine va_iast hx hb hK hP hD hS 4 0 rfl rfl h.1 dX2_countFigures_129 (fun H locs hP hD hS => ?_)
          have h := h.2
          have hP : gP E (gW [bRumour E a0 (pa S_16 5 (y_14.toNatClampNeg) ((S_16.2 5 y_14.toNatClampNeg) + 1))]) H := hP
          have hD : va_D A (gW [bRumour E a0 (pa S_16 5 (y_14.toNatClampNeg) ((S_16.2 5 y_14.toNatClampNeg) + 1))]) := hD
          obtain ⟨S_17, eS_17⟩ : ∃ z : Ob, z = (pa S_16 5 (y_14.toNatClampNeg) ((S_16.2 5 y_14.toNatClampNeg) + 1)) := ⟨_, rfl⟩
          have h := h S_17 eS_17
          rw [← eS_17] at hP hD
          refine lv_aload_n hx hb dX2_countFigures_130 rfl (lv_at hl 3 rfl) ?_
          refine va_get (D := (E.1, E.2.1)) (ci := 2) (v := .ref (a0 6)) (C := RX2) (T := TX2) (N := 9) hx hb ht wu_X2 hown hK hP 0 rfl rfl 6 (by decide) (ht _ wk_X2_31) (fun _ h9 => h9) rfl dX2_countFigures_131 ?_
          refine lv_iload_n hx hb dX2_countFigures_134 rfl (lv_at hl 2 rfl) ?_
          refine lv_bipush (v := 10) hx hb dX2_countFigures_135 (by decide) ?_
          refine lv_imul hx hb dX2_countFigures_137 ?_
          refine lv_iload_n hx hb dX2_countFigures_138 rfl (lv_at hl 1 rfl) ?_
          refine lv_iadd hx hb dX2_countFigures_139 ?_
          refine lv_dup2_11 hx hb dX2_countFigures_140 rfl rfl ?_
          refine va_iald hx hb hK hP 5 0 rfl rfl h.1 dX2_countFigures_141 ?_
          have h := h.2
          refine lv_iconst (v := 1) hx hb dX2_countFigures_142 (by decide) ?_
          refine lv_iadd hx hb dX2_countFigures_143 ?_
          refine va_iast hx hb hK hP hD hS 5 0 rfl rfl h.1 dX2_countFigures_144 (fun H locs hP hD hS => ?_)
          have h := h.2
          have hP : gP E (gW [bRumour E a0 (pa S_17 6 (((((S0_50.2 0 x1_50.toNatClampNeg) / 100) * 10) + y_13).toNatClampNeg) ((S_17.2 6 ((((S0_50.2 0 x1_50.toNatClampNeg) / 100) * 10) + y_13).toNatClampNeg) + 1))]) H := hP
          have hD : va_D A (gW [bRumour E a0 (pa S_17 6 (((((S0_50.2 0 x1_50.toNatClampNeg) / 100) * 10) + y_13).toNatClampNeg) ((S_17.2 6 ((((S0_50.2 0 x1_50.toNatClampNeg) / 100) * 10) + y_13).toNatClampNeg) + 1))]) := hD
          obtain ⟨S_18, eS_18⟩ : ∃ z : Ob, z = (pa S_17 6 (((((S0_50.2 0 x1_50.toNatClampNeg) / 100) * 10) + y_13).toNatClampNeg) ((S_17.2 6 ((((S0_50.2 0 x1_50.toNatClampNeg) / 100) * 10) + y_13).toNatClampNeg) + 1)) := ⟨_, rfl⟩
          have h := h S_18 eS_18
          rw [← eS_18] at hP hD
          refine lv_aload_n hx hb dX2_countFigures_145 rfl (lv_at hl 3 rfl) ?_
          refine va_get (D := (E.1, E.2.1)) (ci := 2) (v := .ref (a0 7)) (C := RX2) (T := TX2) (N := 9) hx hb ht wu_X2 hown hK hP 0 rfl rfl 7 (by decide) (ht _ wk_X2_34) (fun _ h9 => h9) rfl dX2_countFigures_146 ?_
          refine lv_iload_n hx hb dX2_countFigures_149 rfl (lv_at hl 2 rfl) ?_
          refine lv_bipush (v := 10) hx hb dX2_countFigures_150 (by decide) ?_
          refine lv_imul hx hb dX2_countFigures_152 ?_
          refine lv_iload hx hb dX2_countFigures_153 (lv_at hl 0 rfl) ?_
          refine lv_iadd hx hb dX2_countFigures_155 ?_
          refine lv_dup2_11 hx hb dX2_countFigures_156 rfl rfl ?_
          refine va_iald hx hb hK hP 6 0 rfl rfl h.1 dX2_countFigures_157 ?_
          have h := h.2
          refine lv_iconst (v := 1) hx hb dX2_countFigures_158 (by decide) ?_
          refine lv_iadd hx hb dX2_countFigures_159 ?_
          refine va_iast hx hb hK hP hD hS 6 0 rfl rfl h.1 dX2_countFigures_160 (fun H locs hP hD hS => ?_)
          have h := h.2
          have hP : gP E (gW [bRumour E a0 (pa S_18 7 (((((S0_50.2 0 x1_50.toNatClampNeg) / 100) * 10) + y_14).toNatClampNeg) ((S_18.2 7 ((((S0_50.2 0 x1_50.toNatClampNeg) / 100) * 10) + y_14).toNatClampNeg) + 1))]) H := hP
          have hD : va_D A (gW [bRumour E a0 (pa S_18 7 (((((S0_50.2 0 x1_50.toNatClampNeg) / 100) * 10) + y_14).toNatClampNeg) ((S_18.2 7 ((((S0_50.2 0 x1_50.toNatClampNeg) / 100) * 10) + y_14).toNatClampNeg) + 1))]) := hD
          obtain ⟨S_19, eS_19⟩ : ∃ z : Ob, z = (pa S_18 7 (((((S0_50.2 0 x1_50.toNatClampNeg) / 100) * 10) + y_14).toNatClampNeg) ((S_18.2 7 ((((S0_50.2 0 x1_50.toNatClampNeg) / 100) * 10) + y_14).toNatClampNeg) + 1)) := ⟨_, rfl⟩
          have h := h S_19 eS_19
          rw [← eS_19] at hP hD
          refine lv_aload_n hx hb dX2_countFigures_161 rfl (lv_at hl 3 rfl) ?_
          refine va_get (D := (E.1, E.2.1)) (ci := 2) (v := .ref (a0 8)) (C := RX2) (T := TX2) (N := 9) hx hb ht wu_X2 hown hK hP 0 rfl rfl 8 (by decide) (ht _ wk_X2_37) (fun _ h9 => h9) rfl dX2_countFigures_162 ?_
          refine lv_iload_n hx hb dX2_countFigures_165 rfl (lv_at hl 1 rfl) ?_
          refine lv_bipush (v := 10) hx hb dX2_countFigures_166 (by decide) ?_
          refine lv_imul hx hb dX2_countFigures_168 ?_
          refine lv_iload hx hb dX2_countFigures_169 (lv_at hl 0 rfl) ?_
          refine lv_iadd hx hb dX2_countFigures_171 ?_
          refine lv_dup2_11 hx hb dX2_countFigures_172 rfl rfl ?_
          refine va_iald hx hb hK hP 7 0 rfl rfl h.1 dX2_countFigures_173 ?_
          have h := h.2
          refine lv_iconst (v := 1) hx hb dX2_countFigures_174 (by decide) ?_
          refine lv_iadd hx hb dX2_countFigures_175 ?_
          refine va_iast hx hb hK hP hD hS 7 0 rfl rfl h.1 dX2_countFigures_176 (fun H locs hP hD hS => ?_)
          have h := h.2
          have hP : gP E (gW [bRumour E a0 (pa S_19 8 (((y_13 * 10) + y_14).toNatClampNeg) ((S_19.2 8 ((y_13 * 10) + y_14).toNatClampNeg) + 1))]) H := hP
          have hD : va_D A (gW [bRumour E a0 (pa S_19 8 (((y_13 * 10) + y_14).toNatClampNeg) ((S_19.2 8 ((y_13 * 10) + y_14).toNatClampNeg) + 1))]) := hD
          obtain ⟨S_20, eS_20⟩ : ∃ z : Ob, z = (pa S_19 8 (((y_13 * 10) + y_14).toNatClampNeg) ((S_19.2 8 ((y_13 * 10) + y_14).toNatClampNeg) + 1)) := ⟨_, rfl⟩
          have h := h S_20 eS_20
          rw [← eS_20] at hP hD
          refine lv_iinc (v := (x1_50 + 1)) (lv' := [(1, .int (x1_50 + 1)), (4, .int y_14), (3, .int y_13), (2, .int ((S0_50.2 0 x1_50.toNatClampNeg) / 100)), (0, .ref (a0 99))]) hx hb dX2_countFigures_177 hl (k := 4) rfl rfl (by decide) rfl (fun ls hl => ?_)
          refine lv_goto (tgt := 50) hx hb dX2_countFigures_180 (by decide) ?_
          exact ih50 (x1_50 + 1) S_20 _ _ _ h hP hD hS (lv_sub hl [4, 0] rfl)
  obtain ⟨n50, h⟩ := h
  exact L50 n50 0 (pw (pw (pw (pw (pw (pw S0 3 (afill 10 (S0.2 3) 0)) 4 (afill 10 ((pw S0 3 (afill 10 (S0.2 3) 0)).2 4) 0)) 5 (afill 10 ((pw (pw S0 3 (afill 10 (S0.2 3) 0)) 4 (afill 10 ((pw S0 3 (afill 10 (S0.2 3) 0)).2 4) 0)).2 5) 0)) 6 (afill 100 ((pw (pw (pw S0 3 (afill 10 (S0.2 3) 0)) 4 (afill 10 ((pw S0 3 (afill 10 (S0.2 3) 0)).2 4) 0)) 5 (afill 10 ((pw (pw S0 3 (afill 10 (S0.2 3) 0)) 4 (afill 10 ((pw S0 3 (afill 10 (S0.2 3) 0)).2 4) 0)).2 5) 0)).2 6) 0)) 7 (afill 100 ((pw (pw (pw (pw S0 3 (afill 10 (S0.2 3) 0)) 4 (afill 10 ((pw S0 3 (afill 10 (S0.2 3) 0)).2 4) 0)) 5 (afill 10 ((pw (pw S0 3 (afill 10 (S0.2 3) 0)) 4 (afill 10 ((pw S0 3 (afill 10 (S0.2 3) 0)).2 4) 0)).2 5) 0)) 6 (afill 100 ((pw (pw (pw S0 3 (afill 10 (S0.2 3) 0)) 4 (afill 10 ((pw S0 3 (afill 10 (S0.2 3) 0)).2 4) 0)) 5 (afill 10 ((pw (pw S0 3 (afill 10 (S0.2 3) 0)) 4 (afill 10 ((pw S0 3 (afill 10 (S0.2 3) 0)).2 4) 0)).2 5) 0)).2 6) 0)).2 7) 0)) 8 (afill 100 ((pw (pw (pw (pw (pw S0 3 (afill 10 (S0.2 3) 0)) 4 (afill 10 ((pw S0 3 (afill 10 (S0.2 3) 0)).2 4) 0)) 5 (afill 10 ((pw (pw S0 3 (afill 10 (S0.2 3) 0)) 4 (afill 10 ((pw S0 3 (afill 10 (S0.2 3) 0)).2 4) 0)).2 5) 0)) 6 (afill 100 ((pw (pw (pw S0 3 (afill 10 (S0.2 3) 0)) 4 (afill 10 ((pw S0 3 (afill 10 (S0.2 3) 0)).2 4) 0)) 5 (afill 10 ((pw (pw S0 3 (afill 10 (S0.2 3) 0)) 4 (afill 10 ((pw S0 3 (afill 10 (S0.2 3) 0)).2 4) 0)).2 5) 0)).2 6) 0)) 7 (afill 100 ((pw (pw (pw (pw S0 3 (afill 10 (S0.2 3) 0)) 4 (afill 10 ((pw S0 3 (afill 10 (S0.2 3) 0)).2 4) 0)) 5 (afill 10 ((pw (pw S0 3 (afill 10 (S0.2 3) 0)) 4 (afill 10 ((pw S0 3 (afill 10 (S0.2 3) 0)).2 4) 0)).2 5) 0)) 6 (afill 100 ((pw (pw (pw S0 3 (afill 10 (S0.2 3) 0)) 4 (afill 10 ((pw S0 3 (afill 10 (S0.2 3) 0)).2 4) 0)) 5 (afill 10 ((pw (pw S0 3 (afill 10 (S0.2 3) 0)) 4 (afill 10 ((pw S0 3 (afill 10 (S0.2 3) 0)).2 4) 0)).2 5) 0)).2 6) 0)).2 7) 0)).2 8) 0)) _ _ _ h hP hD hS (lv_sub hl [1, 0] rfl)
theorem dX2_greatestPart_0 : decode cX2_greatestPart 0 = .ok (.iload_n 1, 1) := by decide +kernel
theorem dX2_greatestPart_1 : decode cX2_greatestPart 1 = .ok (.bipush 100, 2) := by decide +kernel
theorem dX2_greatestPart_3 : decode cX2_greatestPart 3 = .ok (.idiv, 1) := by decide +kernel
theorem dX2_greatestPart_4 : decode cX2_greatestPart 4 = .ok (.istore_n 3, 1) := by decide +kernel
theorem dX2_greatestPart_5 : decode cX2_greatestPart 5 = .ok (.iload_n 1, 1) := by decide +kernel
theorem dX2_greatestPart_6 : decode cX2_greatestPart 6 = .ok (.bipush 10, 2) := by decide +kernel
theorem dX2_greatestPart_8 : decode cX2_greatestPart 8 = .ok (.idiv, 1) := by decide +kernel
theorem dX2_greatestPart_9 : decode cX2_greatestPart 9 = .ok (.bipush 10, 2) := by decide +kernel
theorem dX2_greatestPart_11 : decode cX2_greatestPart 11 = .ok (.irem, 1) := by decide +kernel
theorem dX2_greatestPart_12 : decode cX2_greatestPart 12 = .ok (.istore 4, 2) := by decide +kernel
theorem dX2_greatestPart_14 : decode cX2_greatestPart 14 = .ok (.iload_n 1, 1) := by decide +kernel
theorem dX2_greatestPart_15 : decode cX2_greatestPart 15 = .ok (.bipush 10, 2) := by decide +kernel
theorem dX2_greatestPart_17 : decode cX2_greatestPart 17 = .ok (.irem, 1) := by decide +kernel
theorem dX2_greatestPart_18 : decode cX2_greatestPart 18 = .ok (.istore 5, 2) := by decide +kernel
theorem dX2_greatestPart_20 : decode cX2_greatestPart 20 = .ok (.aload_n 0, 1) := by decide +kernel
theorem dX2_greatestPart_21 : decode cX2_greatestPart 21 = .ok (.getfield 31, 3) := by decide +kernel
theorem dX2_greatestPart_24 : decode cX2_greatestPart 24 = .ok (.iload_n 3, 1) := by decide +kernel
theorem dX2_greatestPart_25 : decode cX2_greatestPart 25 = .ok (.bipush 10, 2) := by decide +kernel
theorem dX2_greatestPart_27 : decode cX2_greatestPart 27 = .ok (.imul, 1) := by decide +kernel
theorem dX2_greatestPart_28 : decode cX2_greatestPart 28 = .ok (.iload 4, 2) := by decide +kernel
theorem dX2_greatestPart_30 : decode cX2_greatestPart 30 = .ok (.iadd, 1) := by decide +kernel
theorem dX2_greatestPart_31 : decode cX2_greatestPart 31 = .ok (.iaload, 1) := by decide +kernel
theorem dX2_greatestPart_32 : decode cX2_greatestPart 32 = .ok (.aload_n 0, 1) := by decide +kernel
theorem dX2_greatestPart_33 : decode cX2_greatestPart 33 = .ok (.getfield 34, 3) := by decide +kernel
theorem dX2_greatestPart_36 : decode cX2_greatestPart 36 = .ok (.iload_n 3, 1) := by decide +kernel
theorem dX2_greatestPart_37 : decode cX2_greatestPart 37 = .ok (.bipush 10, 2) := by decide +kernel
theorem dX2_greatestPart_39 : decode cX2_greatestPart 39 = .ok (.imul, 1) := by decide +kernel
theorem dX2_greatestPart_40 : decode cX2_greatestPart 40 = .ok (.iload 5, 2) := by decide +kernel
theorem dX2_greatestPart_42 : decode cX2_greatestPart 42 = .ok (.iadd, 1) := by decide +kernel
theorem dX2_greatestPart_43 : decode cX2_greatestPart 43 = .ok (.iaload, 1) := by decide +kernel
theorem dX2_greatestPart_44 : decode cX2_greatestPart 44 = .ok (.iadd, 1) := by decide +kernel
theorem dX2_greatestPart_45 : decode cX2_greatestPart 45 = .ok (.aload_n 0, 1) := by decide +kernel
theorem dX2_greatestPart_46 : decode cX2_greatestPart 46 = .ok (.getfield 37, 3) := by decide +kernel
theorem dX2_greatestPart_49 : decode cX2_greatestPart 49 = .ok (.iload 4, 2) := by decide +kernel
theorem dX2_greatestPart_51 : decode cX2_greatestPart 51 = .ok (.bipush 10, 2) := by decide +kernel
theorem dX2_greatestPart_53 : decode cX2_greatestPart 53 = .ok (.imul, 1) := by decide +kernel
theorem dX2_greatestPart_54 : decode cX2_greatestPart 54 = .ok (.iload 5, 2) := by decide +kernel
theorem dX2_greatestPart_56 : decode cX2_greatestPart 56 = .ok (.iadd, 1) := by decide +kernel
theorem dX2_greatestPart_57 : decode cX2_greatestPart 57 = .ok (.iaload, 1) := by decide +kernel
theorem dX2_greatestPart_58 : decode cX2_greatestPart 58 = .ok (.iadd, 1) := by decide +kernel
theorem dX2_greatestPart_59 : decode cX2_greatestPart 59 = .ok (.istore 6, 2) := by decide +kernel
theorem dX2_greatestPart_61 : decode cX2_greatestPart 61 = .ok (.aload_n 0, 1) := by decide +kernel
theorem dX2_greatestPart_62 : decode cX2_greatestPart 62 = .ok (.getfield 22, 3) := by decide +kernel
theorem dX2_greatestPart_65 : decode cX2_greatestPart 65 = .ok (.iload_n 3, 1) := by decide +kernel
theorem dX2_greatestPart_66 : decode cX2_greatestPart 66 = .ok (.iaload, 1) := by decide +kernel
theorem dX2_greatestPart_67 : decode cX2_greatestPart 67 = .ok (.aload_n 0, 1) := by decide +kernel
theorem dX2_greatestPart_68 : decode cX2_greatestPart 68 = .ok (.getfield 25, 3) := by decide +kernel
theorem dX2_greatestPart_71 : decode cX2_greatestPart 71 = .ok (.iload 4, 2) := by decide +kernel
theorem dX2_greatestPart_73 : decode cX2_greatestPart 73 = .ok (.iaload, 1) := by decide +kernel
theorem dX2_greatestPart_74 : decode cX2_greatestPart 74 = .ok (.iadd, 1) := by decide +kernel
theorem dX2_greatestPart_75 : decode cX2_greatestPart 75 = .ok (.aload_n 0, 1) := by decide +kernel
theorem dX2_greatestPart_76 : decode cX2_greatestPart 76 = .ok (.getfield 28, 3) := by decide +kernel
theorem dX2_greatestPart_79 : decode cX2_greatestPart 79 = .ok (.iload 5, 2) := by decide +kernel
theorem dX2_greatestPart_81 : decode cX2_greatestPart 81 = .ok (.iaload, 1) := by decide +kernel
theorem dX2_greatestPart_82 : decode cX2_greatestPart 82 = .ok (.iadd, 1) := by decide +kernel
theorem dX2_greatestPart_83 : decode cX2_greatestPart 83 = .ok (.istore 7, 2) := by decide +kernel
theorem dX2_greatestPart_85 : decode cX2_greatestPart 85 = .ok (.iload 6, 2) := by decide +kernel
theorem dX2_greatestPart_87 : decode cX2_greatestPart 87 = .ok (.iconst 3, 1) := by decide +kernel
theorem dX2_greatestPart_88 : decode cX2_greatestPart 88 = .ok (.iload_n 2, 1) := by decide +kernel
theorem dX2_greatestPart_89 : decode cX2_greatestPart 89 = .ok (.imul, 1) := by decide +kernel
theorem dX2_greatestPart_90 : decode cX2_greatestPart 90 = .ok (.isub, 1) := by decide +kernel
theorem dX2_greatestPart_91 : decode cX2_greatestPart 91 = .ok (.istore 8, 2) := by decide +kernel
theorem dX2_greatestPart_93 : decode cX2_greatestPart 93 = .ok (.iload 7, 2) := by decide +kernel
theorem dX2_greatestPart_95 : decode cX2_greatestPart 95 = .ok (.iconst 2, 1) := by decide +kernel
theorem dX2_greatestPart_96 : decode cX2_greatestPart 96 = .ok (.iload 8, 2) := by decide +kernel
theorem dX2_greatestPart_98 : decode cX2_greatestPart 98 = .ok (.imul, 1) := by decide +kernel
theorem dX2_greatestPart_99 : decode cX2_greatestPart 99 = .ok (.isub, 1) := by decide +kernel
theorem dX2_greatestPart_100 : decode cX2_greatestPart 100 = .ok (.iconst 3, 1) := by decide +kernel
theorem dX2_greatestPart_101 : decode cX2_greatestPart 101 = .ok (.iload_n 2, 1) := by decide +kernel
theorem dX2_greatestPart_102 : decode cX2_greatestPart 102 = .ok (.imul, 1) := by decide +kernel
theorem dX2_greatestPart_103 : decode cX2_greatestPart 103 = .ok (.isub, 1) := by decide +kernel
theorem dX2_greatestPart_104 : decode cX2_greatestPart 104 = .ok (.istore 9, 2) := by decide +kernel
theorem dX2_greatestPart_106 : decode cX2_greatestPart 106 = .ok (.aload_n 0, 1) := by decide +kernel
theorem dX2_greatestPart_107 : decode cX2_greatestPart 107 = .ok (.getfield 15, 3) := by decide +kernel
theorem dX2_greatestPart_110 : decode cX2_greatestPart 110 = .ok (.iload 9, 2) := by decide +kernel
theorem dX2_greatestPart_112 : decode cX2_greatestPart 112 = .ok (.isub, 1) := by decide +kernel
theorem dX2_greatestPart_113 : decode cX2_greatestPart 113 = .ok (.iload 8, 2) := by decide +kernel
theorem dX2_greatestPart_115 : decode cX2_greatestPart 115 = .ok (.isub, 1) := by decide +kernel
theorem dX2_greatestPart_116 : decode cX2_greatestPart 116 = .ok (.iload_n 2, 1) := by decide +kernel
theorem dX2_greatestPart_117 : decode cX2_greatestPart 117 = .ok (.isub, 1) := by decide +kernel
theorem dX2_greatestPart_118 : decode cX2_greatestPart 118 = .ok (.istore 10, 2) := by decide +kernel
theorem dX2_greatestPart_120 : decode cX2_greatestPart 120 = .ok (.iload 10, 2) := by decide +kernel
theorem dX2_greatestPart_122 : decode cX2_greatestPart 122 = .ok (.iload 9, 2) := by decide +kernel
theorem dX2_greatestPart_124 : decode cX2_greatestPart 124 = .ok (.invokestatic 59, 3) := by decide +kernel
theorem dX2_greatestPart_127 : decode cX2_greatestPart 127 = .ok (.iload 8, 2) := by decide +kernel
theorem dX2_greatestPart_129 : decode cX2_greatestPart 129 = .ok (.iload_n 2, 1) := by decide +kernel
theorem dX2_greatestPart_130 : decode cX2_greatestPart 130 = .ok (.invokestatic 59, 3) := by decide +kernel
theorem dX2_greatestPart_133 : decode cX2_greatestPart 133 = .ok (.invokestatic 59, 3) := by decide +kernel
theorem dX2_greatestPart_136 : decode cX2_greatestPart 136 = .ok (.ireturn, 1) := by decide +kernel
set_option maxHeartbeats 4000000 in
set_option maxRecDepth 100000 in
theorem c_X2_greatestPart (E : GE) (l : Launch) (a0 : Nat → Nat) (S0 : Ob) (x1 : Int32) (x2 : Int32) (post : Int32 → Prop) (h : wp_X2_greatestPart S0 x1 x2 post) : Met l yX2_greatestPart (wz yX2_greatestPart cX2_greatestPart 11 (some .int)) { frames := 1, cells := 0, slots := 0, locals := 21 } (gPc E [.ref (a0 99), .int x1, .int x2] (gW [bRumour E a0 S0])) (gQi E (gW [bRumour E a0 S0]) (fun r (_ : Unit) => post r) (fun (_ : Unit) w => w = gW [bRumour E a0 S0])) 0 0 (gIn (gW [bRumour E a0 S0])) := by
  unfold wp_X2_greatestPart at h
  refine g_of_i (by decide) (Nat.le_of_ble_eq_true rfl) ?_
  intro p e s m below meth c A Q hx hb hml hown ht hE hP hD hret ls hl
  have hK := hE.1
  have hS : va_S A s.heap s.heap [] := va_S.rf
  have hl : lv_has ls 11 [(0, .ref (a0 99)), (1, .int x1), (2, .int x2)] := hl
  refine lv_iload_n hx hb dX2_greatestPart_0 rfl (lv_at hl 1 rfl) ?_
  refine lv_bipush (v := 100) hx hb dX2_greatestPart_1 (by decide) ?_
  refine lv_idiv hx hb dX2_greatestPart_3 (by decide) ?_
  refine lv_istore_n (lv' := [(3, .int (x1 / 100)), (0, .ref (a0 99)), (1, .int x1), (2, .int x2)]) hx hb dX2_greatestPart_4 rfl hl (by decide) rfl (fun ls hl => ?_)
  refine lv_iload_n hx hb dX2_greatestPart_5 rfl (lv_at hl 2 rfl) ?_
  refine lv_bipush (v := 10) hx hb dX2_greatestPart_6 (by decide) ?_
  refine lv_idiv hx hb dX2_greatestPart_8 (by decide) ?_
  refine lv_bipush (v := 10) hx hb dX2_greatestPart_9 (by decide) ?_
  refine lv_irem hx hb dX2_greatestPart_11 (by decide) ?_
  refine lv_istore (lv' := [(4, .int ((x1 / 10) - (x1 / 10) / 10 * 10)), (3, .int (x1 / 100)), (0, .ref (a0 99)), (1, .int x1), (2, .int x2)]) hx hb dX2_greatestPart_12 hl (by decide) rfl (fun ls hl => ?_)
  refine lv_iload_n hx hb dX2_greatestPart_14 rfl (lv_at hl 3 rfl) ?_
  refine lv_bipush (v := 10) hx hb dX2_greatestPart_15 (by decide) ?_
  refine lv_irem hx hb dX2_greatestPart_17 (by decide) ?_
  refine lv_istore (lv' := [(5, .int (x1 - x1 / 10 * 10)), (4, .int ((x1 / 10) - (x1 / 10) / 10 * 10)), (3, .int (x1 / 100)), (0, .ref (a0 99)), (1, .int x1), (2, .int x2)]) hx hb dX2_greatestPart_18 hl (by decide) rfl (fun ls hl => ?_)
  refine lv_aload_n hx hb dX2_greatestPart_20 rfl (lv_at hl 3 rfl) ?_
  refine va_get (D := (E.1, E.2.1)) (ci := 2) (v := .ref (a0 6)) (C := RX2) (T := TX2) (N := 9) hx hb ht wu_X2 hown hK hP 0 rfl rfl 6 (by decide) (ht _ wk_X2_31) (fun _ h9 => h9) rfl dX2_greatestPart_21 ?_
  refine lv_iload_n hx hb dX2_greatestPart_24 rfl (lv_at hl 2 rfl) ?_
  refine lv_bipush (v := 10) hx hb dX2_greatestPart_25 (by decide) ?_
  refine lv_imul hx hb dX2_greatestPart_27 ?_
  refine lv_iload hx hb dX2_greatestPart_28 (lv_at hl 1 rfl) ?_
  refine lv_iadd hx hb dX2_greatestPart_30 ?_
  refine va_iald hx hb hK hP 5 0 rfl rfl h.1 dX2_greatestPart_31 ?_
  have h := h.2
  refine lv_aload_n hx hb dX2_greatestPart_32 rfl (lv_at hl 3 rfl) ?_
  refine va_get (D := (E.1, E.2.1)) (ci := 2) (v := .ref (a0 7)) (C := RX2) (T := TX2) (N := 9) hx hb ht wu_X2 hown hK hP 0 rfl rfl 7 (by decide) (ht _ wk_X2_34) (fun _ h9 => h9) rfl dX2_greatestPart_33 ?_
  refine lv_iload_n hx hb dX2_greatestPart_36 rfl (lv_at hl 2 rfl) ?_
  refine lv_bipush (v := 10) hx hb dX2_greatestPart_37 (by decide) ?_
  refine lv_imul hx hb dX2_greatestPart_39 ?_
  refine lv_iload hx hb dX2_greatestPart_40 (lv_at hl 0 rfl) ?_
  refine lv_iadd hx hb dX2_greatestPart_42 ?_
  refine va_iald hx hb hK hP 6 0 rfl rfl h.1 dX2_greatestPart_43 ?_
  have h := h.2
  refine lv_iadd hx hb dX2_greatestPart_44 ?_
  refine lv_aload_n hx hb dX2_greatestPart_45 rfl (lv_at hl 3 rfl) ?_
  refine va_get (D := (E.1, E.2.1)) (ci := 2) (v := .ref (a0 8)) (C := RX2) (T := TX2) (N := 9) hx hb ht wu_X2 hown hK hP 0 rfl rfl 8 (by decide) (ht _ wk_X2_37) (fun _ h9 => h9) rfl dX2_greatestPart_46 ?_
  refine lv_iload hx hb dX2_greatestPart_49 (lv_at hl 1 rfl) ?_
  refine lv_bipush (v := 10) hx hb dX2_greatestPart_51 (by decide) ?_
  refine lv_imul hx hb dX2_greatestPart_53 ?_
  refine lv_iload hx hb dX2_greatestPart_54 (lv_at hl 0 rfl) ?_
  refine lv_iadd hx hb dX2_greatestPart_56 ?_
  refine va_iald hx hb hK hP 7 0 rfl rfl h.1 dX2_greatestPart_57 ?_
  have h := h.2
  refine lv_iadd hx hb dX2_greatestPart_58 ?_
  refine lv_topi (fun y_1 ey_1 => ?_)
  have h := h y_1 ey_1
  refine lv_istore (lv' := [(6, .int y_1), (5, .int (x1 - x1 / 10 * 10)), (4, .int ((x1 / 10) - (x1 / 10) / 10 * 10)), (3, .int (x1 / 100)), (0, .ref (a0 99)), (1, .int x1), (2, .int x2)]) hx hb dX2_greatestPart_59 hl (by decide) rfl (fun ls hl => ?_)
  refine lv_aload_n hx hb dX2_greatestPart_61 rfl (lv_at hl 4 rfl) ?_
  refine va_get (D := (E.1, E.2.1)) (ci := 2) (v := .ref (a0 3)) (C := RX2) (T := TX2) (N := 9) hx hb ht wu_X2 hown hK hP 0 rfl rfl 3 (by decide) (ht _ wk_X2_22) (fun _ h9 => h9) rfl dX2_greatestPart_62 ?_
  refine lv_iload_n hx hb dX2_greatestPart_65 rfl (lv_at hl 3 rfl) ?_
  refine va_iald hx hb hK hP 2 0 rfl rfl h.1 dX2_greatestPart_66 ?_
  have h := h.2
  refine lv_aload_n hx hb dX2_greatestPart_67 rfl (lv_at hl 4 rfl) ?_
  refine va_get (D := (E.1, E.2.1)) (ci := 2) (v := .ref (a0 4)) (C := RX2) (T := TX2) (N := 9) hx hb ht wu_X2 hown hK hP 0 rfl rfl 4 (by decide) (ht _ wk_X2_25) (fun _ h9 => h9) rfl dX2_greatestPart_68 ?_
  refine lv_iload hx hb dX2_greatestPart_71 (lv_at hl 2 rfl) ?_
  refine va_iald hx hb hK hP 3 0 rfl rfl h.1 dX2_greatestPart_73 ?_
  have h := h.2
  refine lv_iadd hx hb dX2_greatestPart_74 ?_
  refine lv_aload_n hx hb dX2_greatestPart_75 rfl (lv_at hl 4 rfl) ?_
  refine va_get (D := (E.1, E.2.1)) (ci := 2) (v := .ref (a0 5)) (C := RX2) (T := TX2) (N := 9) hx hb ht wu_X2 hown hK hP 0 rfl rfl 5 (by decide) (ht _ wk_X2_28) (fun _ h9 => h9) rfl dX2_greatestPart_76 ?_
  refine lv_iload hx hb dX2_greatestPart_79 (lv_at hl 1 rfl) ?_
  refine va_iald hx hb hK hP 4 0 rfl rfl h.1 dX2_greatestPart_81 ?_
  have h := h.2
  refine lv_iadd hx hb dX2_greatestPart_82 ?_
  refine lv_topi (fun y_2 ey_2 => ?_)
  have h := h y_2 ey_2
  refine lv_istore (lv' := [(7, .int y_2), (6, .int y_1), (5, .int (x1 - x1 / 10 * 10)), (4, .int ((x1 / 10) - (x1 / 10) / 10 * 10)), (3, .int (x1 / 100)), (0, .ref (a0 99)), (1, .int x1), (2, .int x2)]) hx hb dX2_greatestPart_83 hl (by decide) rfl (fun ls hl => ?_)
  refine lv_iload hx hb dX2_greatestPart_85 (lv_at hl 1 rfl) ?_
  refine lv_iconst (v := 3) hx hb dX2_greatestPart_87 (by decide) ?_
  refine lv_iload_n hx hb dX2_greatestPart_88 rfl (lv_at hl 7 rfl) ?_
  refine lv_imul hx hb dX2_greatestPart_89 ?_
  refine lv_isub hx hb dX2_greatestPart_90 ?_
  refine lv_istore (lv' := [(8, .int (y_1 - (3 * x2))), (7, .int y_2), (6, .int y_1), (5, .int (x1 - x1 / 10 * 10)), (4, .int ((x1 / 10) - (x1 / 10) / 10 * 10)), (3, .int (x1 / 100)), (0, .ref (a0 99)), (1, .int x1), (2, .int x2)]) hx hb dX2_greatestPart_91 hl (by decide) rfl (fun ls hl => ?_)
  refine lv_iload hx hb dX2_greatestPart_93 (lv_at hl 1 rfl) ?_
  refine lv_iconst (v := 2) hx hb dX2_greatestPart_95 (by decide) ?_
  refine lv_iload hx hb dX2_greatestPart_96 (lv_at hl 0 rfl) ?_
  refine lv_imul hx hb dX2_greatestPart_98 ?_
  refine lv_isub hx hb dX2_greatestPart_99 ?_
  refine lv_iconst (v := 3) hx hb dX2_greatestPart_100 (by decide) ?_
  refine lv_iload_n hx hb dX2_greatestPart_101 rfl (lv_at hl 8 rfl) ?_
  refine lv_imul hx hb dX2_greatestPart_102 ?_
  refine lv_isub hx hb dX2_greatestPart_103 ?_
  refine lv_topi (fun y_3 ey_3 => ?_)
  have h := h y_3 ey_3
  refine lv_istore (lv' := [(9, .int y_3), (8, .int (y_1 - (3 * x2))), (7, .int y_2), (6, .int y_1), (5, .int (x1 - x1 / 10 * 10)), (4, .int ((x1 / 10) - (x1 / 10) / 10 * 10)), (3, .int (x1 / 100)), (0, .ref (a0 99)), (1, .int x1), (2, .int x2)]) hx hb dX2_greatestPart_104 hl (by decide) rfl (fun ls hl => ?_)
  refine lv_aload_n hx hb dX2_greatestPart_106 rfl (lv_at hl 7 rfl) ?_
  refine va_get (D := (E.1, E.2.1)) (ci := 2) (v := .int (S0.1 1)) (C := RX2) (T := TX2) (N := 9) hx hb ht wu_X2 hown hK hP 0 rfl rfl 1 (by decide) (ht _ wk_X2_15) (fun _ h9 => h9) rfl dX2_greatestPart_107 ?_
  refine lv_iload hx hb dX2_greatestPart_110 (lv_at hl 0 rfl) ?_
  refine lv_isub hx hb dX2_greatestPart_112 ?_
  refine lv_iload hx hb dX2_greatestPart_113 (lv_at hl 1 rfl) ?_
  refine lv_isub hx hb dX2_greatestPart_115 ?_
  refine lv_iload_n hx hb dX2_greatestPart_116 rfl (lv_at hl 9 rfl) ?_
  refine lv_isub hx hb dX2_greatestPart_117 ?_
  refine lv_topi (fun y_4 ey_4 => ?_)
  have h := h y_4 ey_4
  refine lv_istore (lv' := [(10, .int y_4), (9, .int y_3), (8, .int (y_1 - (3 * x2))), (7, .int y_2), (6, .int y_1), (5, .int (x1 - x1 / 10 * 10)), (4, .int ((x1 / 10) - (x1 / 10) / 10 * 10)), (3, .int (x1 / 100)), (0, .ref (a0 99)), (1, .int x1), (2, .int x2)]) hx hb dX2_greatestPart_118 hl (by decide) rfl (fun ls hl => ?_)
  refine lv_iload hx hb dX2_greatestPart_120 (lv_at hl 0 rfl) ?_
  refine lv_iload hx hb dX2_greatestPart_122 (lv_at hl 1 rfl) ?_
  refine va_mmax hx hb (hml.trans hl.1.symm) hown (ht _ wk_X2_59) (ht _ wt_J9_max_7cf53) (ht _ wn_J9) (ht _ wc_J9_max_7cf53) (Nat.le_of_ble_eq_true rfl) (Nat.le_of_ble_eq_true rfl) (Nat.zero_le _) (Nat.zero_le _) dX2_greatestPart_124 ?_
  refine lv_iload hx hb dX2_greatestPart_127 (lv_at hl 2 rfl) ?_
  refine lv_iload_n hx hb dX2_greatestPart_129 rfl (lv_at hl 10 rfl) ?_
  refine va_mmax hx hb (hml.trans hl.1.symm) hown (ht _ wk_X2_59) (ht _ wt_J9_max_7cf53) (ht _ wn_J9) (ht _ wc_J9_max_7cf53) (Nat.le_of_ble_eq_true rfl) (Nat.le_of_ble_eq_true rfl) (Nat.zero_le _) (Nat.zero_le _) dX2_greatestPart_130 ?_
  refine va_mmax hx hb (hml.trans hl.1.symm) hown (ht _ wk_X2_59) (ht _ wt_J9_max_7cf53) (ht _ wn_J9) (ht _ wc_J9_max_7cf53) (Nat.le_of_ble_eq_true rfl) (Nat.le_of_ble_eq_true rfl) (Nat.zero_le _) (Nat.zero_le _) dX2_greatestPart_133 ?_
  exact hret (if (if y_4 < y_3 then y_3 else y_4) < (if (y_1 - (3 * x2)) < x2 then x2 else (y_1 - (3 * x2))) then (if (y_1 - (3 * x2)) < x2 then x2 else (y_1 - (3 * x2))) else (if y_4 < y_3 then y_3 else y_4)) () _ _ _ _ _ h rfl hP hD hS dX2_greatestPart_136
theorem dX2_bestQuestion_0 : decode cX2_bestQuestion 0 = .ok (.aload_n 0, 1) := by decide +kernel
theorem dX2_bestQuestion_1 : decode cX2_bestQuestion 1 = .ok (.invokevirtual 47, 3) := by decide +kernel
theorem dX2_bestQuestion_4 : decode cX2_bestQuestion 4 = .ok (.bipush (-9), 2) := by decide +kernel
theorem dX2_bestQuestion_6 : decode cX2_bestQuestion 6 = .ok (.istore_n 1, 1) := by decide +kernel
theorem dX2_bestQuestion_7 : decode cX2_bestQuestion 7 = .ok (.sipush 1001, 3) := by decide +kernel
theorem dX2_bestQuestion_10 : decode cX2_bestQuestion 10 = .ok (.istore_n 2, 1) := by decide +kernel
theorem dX2_bestQuestion_11 : decode cX2_bestQuestion 11 = .ok (.iconst 0, 1) := by decide +kernel
theorem dX2_bestQuestion_12 : decode cX2_bestQuestion 12 = .ok (.istore_n 3, 1) := by decide +kernel
theorem dX2_bestQuestion_13 : decode cX2_bestQuestion 13 = .ok (.iconst 0, 1) := by decide +kernel
theorem dX2_bestQuestion_14 : decode cX2_bestQuestion 14 = .ok (.istore 4, 2) := by decide +kernel
theorem dX2_bestQuestion_16 : decode cX2_bestQuestion 16 = .ok (.iload 4, 2) := by decide +kernel
theorem dX2_bestQuestion_18 : decode cX2_bestQuestion 18 = .ok (.sipush 1000, 3) := by decide +kernel
theorem dX2_bestQuestion_21 : decode cX2_bestQuestion 21 = .ok (.if_icmp .ge 73, 3) := by decide +kernel
theorem dX2_bestQuestion_24 : decode cX2_bestQuestion 24 = .ok (.iload_n 3, 1) := by decide +kernel
theorem dX2_bestQuestion_25 : decode cX2_bestQuestion 25 = .ok (.aload_n 0, 1) := by decide +kernel
theorem dX2_bestQuestion_26 : decode cX2_bestQuestion 26 = .ok (.getfield 15, 3) := by decide +kernel
theorem dX2_bestQuestion_29 : decode cX2_bestQuestion 29 = .ok (.if_icmp .ge 18, 3) := by decide +kernel
theorem dX2_bestQuestion_32 : decode cX2_bestQuestion 32 = .ok (.aload_n 0, 1) := by decide +kernel
theorem dX2_bestQuestion_33 : decode cX2_bestQuestion 33 = .ok (.getfield 9, 3) := by decide +kernel
theorem dX2_bestQuestion_36 : decode cX2_bestQuestion 36 = .ok (.iload_n 3, 1) := by decide +kernel
theorem dX2_bestQuestion_37 : decode cX2_bestQuestion 37 = .ok (.iaload, 1) := by decide +kernel
theorem dX2_bestQuestion_38 : decode cX2_bestQuestion 38 = .ok (.iload 4, 2) := by decide +kernel
theorem dX2_bestQuestion_40 : decode cX2_bestQuestion 40 = .ok (.if_icmp .ne 7, 3) := by decide +kernel
theorem dX2_bestQuestion_43 : decode cX2_bestQuestion 43 = .ok (.iconst 1, 1) := by decide +kernel
theorem dX2_bestQuestion_44 : decode cX2_bestQuestion 44 = .ok (.goto 4, 3) := by decide +kernel
theorem dX2_bestQuestion_47 : decode cX2_bestQuestion 47 = .ok (.iconst 0, 1) := by decide +kernel
theorem dX2_bestQuestion_48 : decode cX2_bestQuestion 48 = .ok (.istore 5, 2) := by decide +kernel
theorem dX2_bestQuestion_50 : decode cX2_bestQuestion 50 = .ok (.iload 5, 2) := by decide +kernel
theorem dX2_bestQuestion_52 : decode cX2_bestQuestion 52 = .ok (.ifCond .eq 6, 3) := by decide +kernel
theorem dX2_bestQuestion_55 : decode cX2_bestQuestion 55 = .ok (.iinc 3 1, 3) := by decide +kernel
theorem dX2_bestQuestion_58 : decode cX2_bestQuestion 58 = .ok (.aload_n 0, 1) := by decide +kernel
theorem dX2_bestQuestion_59 : decode cX2_bestQuestion 59 = .ok (.iload 4, 2) := by decide +kernel
theorem dX2_bestQuestion_61 : decode cX2_bestQuestion 61 = .ok (.iload 5, 2) := by decide +kernel
theorem dX2_bestQuestion_63 : decode cX2_bestQuestion 63 = .ok (.ifCond .eq 7, 3) := by decide +kernel
theorem dX2_bestQuestion_66 : decode cX2_bestQuestion 66 = .ok (.iconst 1, 1) := by decide +kernel
theorem dX2_bestQuestion_67 : decode cX2_bestQuestion 67 = .ok (.goto 4, 3) := by decide +kernel
theorem dX2_bestQuestion_70 : decode cX2_bestQuestion 70 = .ok (.iconst 0, 1) := by decide +kernel
theorem dX2_bestQuestion_71 : decode cX2_bestQuestion 71 = .ok (.invokevirtual 50, 3) := by decide +kernel
theorem dX2_bestQuestion_74 : decode cX2_bestQuestion 74 = .ok (.istore 6, 2) := by decide +kernel
theorem dX2_bestQuestion_76 : decode cX2_bestQuestion 76 = .ok (.iload 6, 2) := by decide +kernel
theorem dX2_bestQuestion_78 : decode cX2_bestQuestion 78 = .ok (.iload_n 2, 1) := by decide +kernel
theorem dX2_bestQuestion_79 : decode cX2_bestQuestion 79 = .ok (.if_icmp .ge 9, 3) := by decide +kernel
theorem dX2_bestQuestion_82 : decode cX2_bestQuestion 82 = .ok (.iload 6, 2) := by decide +kernel
theorem dX2_bestQuestion_84 : decode cX2_bestQuestion 84 = .ok (.istore_n 2, 1) := by decide +kernel
theorem dX2_bestQuestion_85 : decode cX2_bestQuestion 85 = .ok (.iload 4, 2) := by decide +kernel
theorem dX2_bestQuestion_87 : decode cX2_bestQuestion 87 = .ok (.istore_n 1, 1) := by decide +kernel
theorem dX2_bestQuestion_88 : decode cX2_bestQuestion 88 = .ok (.iinc 4 1, 3) := by decide +kernel
theorem dX2_bestQuestion_91 : decode cX2_bestQuestion 91 = .ok (.goto (-75), 3) := by decide +kernel
theorem dX2_bestQuestion_94 : decode cX2_bestQuestion 94 = .ok (.iload_n 1, 1) := by decide +kernel
theorem dX2_bestQuestion_95 : decode cX2_bestQuestion 95 = .ok (.ireturn, 1) := by decide +kernel
set_option maxHeartbeats 4000000 in
set_option maxRecDepth 100000 in
theorem c_X2_bestQuestion (E : GE) (l : Launch) (a0 : Nat → Nat) (S0 : Ob) (post : Int32 → Ob → Prop) (h : wp_X2_bestQuestion S0 post) : Met l yX2_bestQuestion (wz yX2_bestQuestion cX2_bestQuestion 7 (some .int)) { frames := 2, cells := 0, slots := 0, locals := 51 } (gPc E [.ref (a0 99)] (gW [bRumour E a0 S0])) (gQi E (gW [bRumour E a0 S0]) (fun r (u : Ob) => post r u) (fun (u : Ob) w => w = gW [bRumour E a0 u])) 0 0 (gIn (gW [bRumour E a0 S0])) := by
  unfold wp_X2_bestQuestion at h
  refine g_of_i (by decide) (Nat.le_of_ble_eq_true rfl) ?_
  intro p e s m below meth c A Q hx hb hml hown ht hE hP hD hret ls hl
  have hK := hE.1
  have hS : va_S A s.heap s.heap [] := va_S.rf
  have hl : lv_has ls 7 [(0, .ref (a0 99))] := hl
  refine lv_aload_n hx hb dX2_bestQuestion_0 rfl (lv_at hl 0 rfl) ?_
  have p1 := gB (n := 1) (bs := [bRumour E a0 S0]) (bc := [bRumour E a0 S0]) (br := []) [0] rfl rfl (by decide)
  refine g_v (g_runV (As := []) (rest := []) ⟨hx, hb, hml, hown, ht⟩ hE (c_X2_countFigures E l a0 S0 _ h) ⟨rfl, rfl⟩ wk_X2_47 wi_X2_countFigures ws_X2_countFigures wn_X2 wc_X2_countFigures yd_X2_countFigures ⟨Nat.le_of_ble_eq_true rfl, Nat.le_of_ble_eq_true rfl⟩ hP hD p1 (ci := 2) rfl rfl rfl rfl rfl hl.1 rfl (lv_room (Nat.le_of_ble_eq_true rfl)) dX2_bestQuestion_1 ⟨Nat.zero_le _, Nat.zero_le _⟩) hP hD hS p1 (fun S_1 w H locs h hw hP hD hS => ?_)
  subst hw
  clear p1
  have p2 := gB (n := 1) (bs := [bRumour E a0 S_1]) (bc := [bRumour E a0 S_1]) (br := []) [0] rfl rfl (by decide)
  have hP := gP_perm p2.symm hP
  have hD := gD_perm p2.symm hD
  clear p2
  refine lv_bipush (v := (-9)) hx hb dX2_bestQuestion_4 (by decide) ?_
  refine lv_istore_n (lv' := [(1, .int (-9)), (0, .ref (a0 99))]) hx hb dX2_bestQuestion_6 rfl hl (by decide) rfl (fun ls hl => ?_)
  refine lv_sipush (v := 1001) hx hb dX2_bestQuestion_7 (by decide) ?_
  refine lv_istore_n (lv' := [(2, .int 1001), (1, .int (-9)), (0, .ref (a0 99))]) hx hb dX2_bestQuestion_10 rfl hl (by decide) rfl (fun ls hl => ?_)
  refine lv_iconst (v := 0) hx hb dX2_bestQuestion_11 (by decide) ?_
  refine lv_istore_n (lv' := [(3, .int 0), (2, .int 1001), (1, .int (-9)), (0, .ref (a0 99))]) hx hb dX2_bestQuestion_12 rfl hl (by decide) rfl (fun ls hl => ?_)
  refine lv_iconst (v := 0) hx hb dX2_bestQuestion_13 (by decide) ?_
  refine lv_istore (lv' := [(4, .int 0), (3, .int 0), (2, .int 1001), (1, .int (-9)), (0, .ref (a0 99))]) hx hb dX2_bestQuestion_14 hl (by decide) rfl (fun ls hl => ?_)
  have L16 : ∀ (n16 : Nat) (x1_16 : Int32) (x2_16 : Int32) (x3_16 : Int32) (x4_16 : Int32) (H : Heap) (locs : List Loc) (ls : Array Slot), wp_X2_bestQuestion_L16 post S_1 n16 x1_16 x2_16 x3_16 x4_16 → gP E (gW [bRumour E a0 S_1]) H → va_D A (gW [bRumour E a0 S_1]) → va_S A s.heap H locs → lv_has ls 7 [(0, .ref (a0 99)), (1, .int x1_16), (2, .int x2_16), (3, .int x3_16), (4, .int x4_16)] → W p l e { frames := 2, cells := 0, slots := 0, locals := 51 } s m ([.ref (a0 99)] : List Value).toArray below meth c H locs 0 0 Q (F0 m 16 ls []) := by
    intro n16
    induction n16 with
    | zero => intro x1_16 x2_16 x3_16 x4_16 H locs ls h; exact h.elim
    | succ n16 ih16 =>
      intro x1_16 x2_16 x3_16 x4_16 H locs ls h hP hD hS hl
      rw [wp_X2_bestQuestion_L16] at h
      have J58 : ∀ (x1_j58 : Int32) (x2_j58 : Int32) (x3_j58 : Int32) (x4_j58 : Int32) (x5_j58 : Int32) (H : Heap) (locs : List Loc) (ls : Array Slot), wp_X2_bestQuestion_J58 post (fun x1_16 x2_16 x3_16 x4_16 => (wp_X2_bestQuestion_L16 post S_1 n16 x1_16 x2_16 x3_16 x4_16)) x1_j58 x2_j58 x3_j58 x4_j58 x5_j58 S_1 → gP E (gW [bRumour E a0 S_1]) H → va_D A (gW [bRumour E a0 S_1]) → va_S A s.heap H locs → lv_has ls 7 [(0, .ref (a0 99)), (1, .int x1_j58), (2, .int x2_j58), (3, .int x3_j58), (4, .int x4_j58), (5, .int x5_j58)] → W p l e { frames := 2, cells := 0, slots := 0, locals := 51 } s m ([.ref (a0 99)] : List Value).toArray below meth c H locs 0 0 Q (F0 m 58 ls []) := by
        intro x1_j58 x2_j58 x3_j58 x4_j58 x5_j58 H locs ls h hP hD hS hl
        unfold wp_X2_bestQuestion_J58 at h
        refine lv_aload_n hx hb dX2_bestQuestion_58 rfl (lv_at hl 0 rfl) ?_
        refine lv_iload hx hb dX2_bestQuestion_59 (lv_at hl 4 rfl) ?_
        refine lv_iload hx hb dX2_bestQuestion_61 (lv_at hl 5 rfl) ?_
        refine lv_if_eq (tgt := 70) hx hb dX2_bestQuestion_63 (by decide) (fun c_11 => ?_) (fun c_11 => ?_)
        · have h := h.1 c_11
          refine lv_iconst (v := 0) hx hb dX2_bestQuestion_70 (by decide) ?_
          have p1 := gB (n := 1) (bs := [bRumour E a0 S_1]) (bc := [bRumour E a0 S_1]) (br := []) [0] rfl rfl (by decide)
          refine g_i (g_runV (As := [.int x4_j58, .int 0]) (rest := []) ⟨hx, hb, hml, hown, ht⟩ hE (c_X2_greatestPart E l a0 S_1 x4_j58 0 _ h) ⟨rfl, rfl⟩ wk_X2_50 wi_X2_greatestPart ws_X2_greatestPart wn_X2 wc_X2_greatestPart yd_X2_greatestPart ⟨Nat.le_of_ble_eq_true rfl, Nat.le_of_ble_eq_true rfl⟩ hP hD p1 (ci := 2) rfl rfl rfl rfl rfl hl.1 rfl (lv_room (Nat.le_of_ble_eq_true rfl)) dX2_bestQuestion_71 ⟨Nat.zero_le _, Nat.zero_le _⟩) hP hD hS p1 (fun r_12 _ w H locs h hw hP hD hS => ?_)
          subst hw
          clear p1
          have p2 := gB (n := 1) (bs := [bRumour E a0 S_1]) (bc := [bRumour E a0 S_1]) (br := []) [0] rfl rfl (by decide)
          have hP := gP_perm p2.symm hP
          have hD := gD_perm p2.symm hD
          clear p2
          refine lv_istore (lv' := [(6, .int r_12), (0, .ref (a0 99)), (1, .int x1_j58), (2, .int x2_j58), (3, .int x3_j58), (4, .int x4_j58), (5, .int x5_j58)]) hx hb dX2_bestQuestion_74 hl (by decide) rfl (fun ls hl => ?_)
          refine lv_iload hx hb dX2_bestQuestion_76 (lv_at hl 0 rfl) ?_
          refine lv_iload_n hx hb dX2_bestQuestion_78 rfl (lv_at hl 3 rfl) ?_
          refine lv_icmp_ge (tgt := 88) hx hb dX2_bestQuestion_79 (by decide) (fun c_13 => ?_) (fun c_13 => ?_)
          · have h := h.1 c_13
            refine lv_iinc (v := (x4_j58 + 1)) (lv' := [(4, .int (x4_j58 + 1)), (6, .int r_12), (0, .ref (a0 99)), (1, .int x1_j58), (2, .int x2_j58), (3, .int x3_j58), (5, .int x5_j58)]) hx hb dX2_bestQuestion_88 hl (k := 5) rfl rfl (by decide) rfl (fun ls hl => ?_)
            refine lv_goto (tgt := 16) hx hb dX2_bestQuestion_91 (by decide) ?_
            exact ih16 x1_j58 x2_j58 x3_j58 (x4_j58 + 1) _ _ _ h hP hD hS (lv_sub hl [2, 3, 4, 5, 0] rfl)
          · have h := h.2 c_13
            refine lv_iload hx hb dX2_bestQuestion_82 (lv_at hl 0 rfl) ?_
            refine lv_istore_n (lv' := [(2, .int r_12), (6, .int r_12), (0, .ref (a0 99)), (1, .int x1_j58), (3, .int x3_j58), (4, .int x4_j58), (5, .int x5_j58)]) hx hb dX2_bestQuestion_84 rfl hl (by decide) rfl (fun ls hl => ?_)
            refine lv_iload hx hb dX2_bestQuestion_85 (lv_at hl 5 rfl) ?_
            refine lv_istore_n (lv' := [(1, .int x4_j58), (2, .int r_12), (6, .int r_12), (0, .ref (a0 99)), (3, .int x3_j58), (4, .int x4_j58), (5, .int x5_j58)]) hx hb dX2_bestQuestion_87 rfl hl (by decide) rfl (fun ls hl => ?_)
            refine lv_iinc (v := (x4_j58 + 1)) (lv' := [(4, .int (x4_j58 + 1)), (1, .int x4_j58), (2, .int r_12), (6, .int r_12), (0, .ref (a0 99)), (3, .int x3_j58), (5, .int x5_j58)]) hx hb dX2_bestQuestion_88 hl (k := 5) rfl rfl (by decide) rfl (fun ls hl => ?_)
            refine lv_goto (tgt := 16) hx hb dX2_bestQuestion_91 (by decide) ?_
            exact ih16 x4_j58 r_12 x3_j58 (x4_j58 + 1) _ _ _ h hP hD hS (lv_sub hl [4, 1, 2, 5, 0] rfl)
        · have h := h.2 c_11
          refine lv_iconst (v := 1) hx hb dX2_bestQuestion_66 (by decide) ?_
          refine lv_goto (tgt := 71) hx hb dX2_bestQuestion_67 (by decide) ?_
          have p1 := gB (n := 1) (bs := [bRumour E a0 S_1]) (bc := [bRumour E a0 S_1]) (br := []) [0] rfl rfl (by decide)
          refine g_i (g_runV (As := [.int x4_j58, .int 1]) (rest := []) ⟨hx, hb, hml, hown, ht⟩ hE (c_X2_greatestPart E l a0 S_1 x4_j58 1 _ h) ⟨rfl, rfl⟩ wk_X2_50 wi_X2_greatestPart ws_X2_greatestPart wn_X2 wc_X2_greatestPart yd_X2_greatestPart ⟨Nat.le_of_ble_eq_true rfl, Nat.le_of_ble_eq_true rfl⟩ hP hD p1 (ci := 2) rfl rfl rfl rfl rfl hl.1 rfl (lv_room (Nat.le_of_ble_eq_true rfl)) dX2_bestQuestion_71 ⟨Nat.zero_le _, Nat.zero_le _⟩) hP hD hS p1 (fun r_14 _ w H locs h hw hP hD hS => ?_)
          subst hw
          clear p1
          have p2 := gB (n := 1) (bs := [bRumour E a0 S_1]) (bc := [bRumour E a0 S_1]) (br := []) [0] rfl rfl (by decide)
          have hP := gP_perm p2.symm hP
          have hD := gD_perm p2.symm hD
          clear p2
          refine lv_istore (lv' := [(6, .int r_14), (0, .ref (a0 99)), (1, .int x1_j58), (2, .int x2_j58), (3, .int x3_j58), (4, .int x4_j58), (5, .int x5_j58)]) hx hb dX2_bestQuestion_74 hl (by decide) rfl (fun ls hl => ?_)
          refine lv_iload hx hb dX2_bestQuestion_76 (lv_at hl 0 rfl) ?_
          refine lv_iload_n hx hb dX2_bestQuestion_78 rfl (lv_at hl 3 rfl) ?_
          refine lv_icmp_ge (tgt := 88) hx hb dX2_bestQuestion_79 (by decide) (fun c_15 => ?_) (fun c_15 => ?_)
          · have h := h.1 c_15
            refine lv_iinc (v := (x4_j58 + 1)) (lv' := [(4, .int (x4_j58 + 1)), (6, .int r_14), (0, .ref (a0 99)), (1, .int x1_j58), (2, .int x2_j58), (3, .int x3_j58), (5, .int x5_j58)]) hx hb dX2_bestQuestion_88 hl (k := 5) rfl rfl (by decide) rfl (fun ls hl => ?_)
            refine lv_goto (tgt := 16) hx hb dX2_bestQuestion_91 (by decide) ?_
            exact ih16 x1_j58 x2_j58 x3_j58 (x4_j58 + 1) _ _ _ h hP hD hS (lv_sub hl [2, 3, 4, 5, 0] rfl)
          · have h := h.2 c_15
            refine lv_iload hx hb dX2_bestQuestion_82 (lv_at hl 0 rfl) ?_
            refine lv_istore_n (lv' := [(2, .int r_14), (6, .int r_14), (0, .ref (a0 99)), (1, .int x1_j58), (3, .int x3_j58), (4, .int x4_j58), (5, .int x5_j58)]) hx hb dX2_bestQuestion_84 rfl hl (by decide) rfl (fun ls hl => ?_)
            refine lv_iload hx hb dX2_bestQuestion_85 (lv_at hl 5 rfl) ?_
            refine lv_istore_n (lv' := [(1, .int x4_j58), (2, .int r_14), (6, .int r_14), (0, .ref (a0 99)), (3, .int x3_j58), (4, .int x4_j58), (5, .int x5_j58)]) hx hb dX2_bestQuestion_87 rfl hl (by decide) rfl (fun ls hl => ?_)
            refine lv_iinc (v := (x4_j58 + 1)) (lv' := [(4, .int (x4_j58 + 1)), (1, .int x4_j58), (2, .int r_14), (6, .int r_14), (0, .ref (a0 99)), (3, .int x3_j58), (5, .int x5_j58)]) hx hb dX2_bestQuestion_88 hl (k := 5) rfl rfl (by decide) rfl (fun ls hl => ?_)
            refine lv_goto (tgt := 16) hx hb dX2_bestQuestion_91 (by decide) ?_
            exact ih16 x4_j58 r_14 x3_j58 (x4_j58 + 1) _ _ _ h hP hD hS (lv_sub hl [4, 1, 2, 5, 0] rfl)
      have J48 : ∀ (x1_j48 : Int32) (x2_j48 : Int32) (x3_j48 : Int32) (x4_j48 : Int32) (t0_j48 : Int32) (H : Heap) (locs : List Loc) (ls : Array Slot), wp_X2_bestQuestion_J48 post (fun x1_16 x2_16 x3_16 x4_16 => (wp_X2_bestQuestion_L16 post S_1 n16 x1_16 x2_16 x3_16 x4_16)) x1_j48 x2_j48 x3_j48 x4_j48 t0_j48 S_1 → gP E (gW [bRumour E a0 S_1]) H → va_D A (gW [bRumour E a0 S_1]) → va_S A s.heap H locs → lv_has ls 7 [(0, .ref (a0 99)), (1, .int x1_j48), (2, .int x2_j48), (3, .int x3_j48), (4, .int x4_j48)] → W p l e { frames := 2, cells := 0, slots := 0, locals := 51 } s m ([.ref (a0 99)] : List Value).toArray below meth c H locs 0 0 Q (F0 m 48 ls [.int t0_j48]) := by
        intro x1_j48 x2_j48 x3_j48 x4_j48 t0_j48 H locs ls h hP hD hS hl
        unfold wp_X2_bestQuestion_J48 at h
        refine lv_istore (lv' := [(5, .int t0_j48), (0, .ref (a0 99)), (1, .int x1_j48), (2, .int x2_j48), (3, .int x3_j48), (4, .int x4_j48)]) hx hb dX2_bestQuestion_48 hl (by decide) rfl (fun ls hl => ?_)
        refine lv_iload hx hb dX2_bestQuestion_50 (lv_at hl 0 rfl) ?_
        refine lv_if_eq (tgt := 58) hx hb dX2_bestQuestion_52 (by decide) (fun c_16 => ?_) (fun c_16 => ?_)
        · have h := h.1 c_16
          exact J58 x1_j48 x2_j48 x3_j48 x4_j48 t0_j48 _ _ _ h hP hD hS (lv_sub hl [1, 2, 3, 4, 5, 0] rfl)
        · have h := h.2 c_16
          refine lv_iinc (v := (x3_j48 + 1)) (lv' := [(3, .int (x3_j48 + 1)), (5, .int t0_j48), (0, .ref (a0 99)), (1, .int x1_j48), (2, .int x2_j48), (4, .int x4_j48)]) hx hb dX2_bestQuestion_55 hl (k := 4) rfl rfl (by decide) rfl (fun ls hl => ?_)
          exact J58 x1_j48 x2_j48 (x3_j48 + 1) x4_j48 t0_j48 _ _ _ h hP hD hS (lv_sub hl [2, 3, 4, 0, 5, 1] rfl)
      have J47 : ∀ (x1_j47 : Int32) (x2_j47 : Int32) (x3_j47 : Int32) (x4_j47 : Int32) (H : Heap) (locs : List Loc) (ls : Array Slot), wp_X2_bestQuestion_J47 post (fun x1_16 x2_16 x3_16 x4_16 => (wp_X2_bestQuestion_L16 post S_1 n16 x1_16 x2_16 x3_16 x4_16)) x1_j47 x2_j47 x3_j47 x4_j47 S_1 → gP E (gW [bRumour E a0 S_1]) H → va_D A (gW [bRumour E a0 S_1]) → va_S A s.heap H locs → lv_has ls 7 [(0, .ref (a0 99)), (1, .int x1_j47), (2, .int x2_j47), (3, .int x3_j47), (4, .int x4_j47)] → W p l e { frames := 2, cells := 0, slots := 0, locals := 51 } s m ([.ref (a0 99)] : List Value).toArray below meth c H locs 0 0 Q (F0 m 47 ls []) := by
        intro x1_j47 x2_j47 x3_j47 x4_j47 H locs ls h hP hD hS hl
        unfold wp_X2_bestQuestion_J47 at h
        refine lv_iconst (v := 0) hx hb dX2_bestQuestion_47 (by decide) ?_
        exact J48 x1_j47 x2_j47 x3_j47 x4_j47 0 _ _ _ h hP hD hS (lv_sub hl [0, 1, 2, 3, 4] rfl)
      refine lv_iload hx hb dX2_bestQuestion_16 (lv_at hl 4 rfl) ?_
      refine lv_sipush (v := 1000) hx hb dX2_bestQuestion_18 (by decide) ?_
      refine lv_icmp_ge (tgt := 94) hx hb dX2_bestQuestion_21 (by decide) (fun c_17 => ?_) (fun c_17 => ?_)
      · have h := h.1 c_17
        refine lv_iload_n hx hb dX2_bestQuestion_94 rfl (lv_at hl 1 rfl) ?_
        exact hret x1_16 S_1 _ _ _ _ _ h rfl hP hD hS dX2_bestQuestion_95
      · have h := h.2 c_17
        refine lv_iload_n hx hb dX2_bestQuestion_24 rfl (lv_at hl 3 rfl) ?_
        refine lv_aload_n hx hb dX2_bestQuestion_25 rfl (lv_at hl 0 rfl) ?_
        refine va_get (D := (E.1, E.2.1)) (ci := 2) (v := .int (S_1.1 1)) (C := RX2) (T := TX2) (N := 9) hx hb ht wu_X2 hown hK hP 0 rfl rfl 1 (by decide) (ht _ wk_X2_15) (fun _ h9 => h9) rfl dX2_bestQuestion_26 ?_
        refine lv_icmp_ge (tgt := 47) hx hb dX2_bestQuestion_29 (by decide) (fun c_18 => ?_) (fun c_18 => ?_)
        · have h := h.1 c_18
          exact J47 x1_16 x2_16 x3_16 x4_16 _ _ _ h hP hD hS (lv_sub hl [0, 1, 2, 3, 4] rfl)
        · have h := h.2 c_18
          refine lv_aload_n hx hb dX2_bestQuestion_32 rfl (lv_at hl 0 rfl) ?_
          refine va_get (D := (E.1, E.2.1)) (ci := 2) (v := .ref (a0 0)) (C := RX2) (T := TX2) (N := 9) hx hb ht wu_X2 hown hK hP 0 rfl rfl 0 (by decide) (ht _ wk_X2_9) (fun _ h9 => h9) rfl dX2_bestQuestion_33 ?_
          refine lv_iload_n hx hb dX2_bestQuestion_36 rfl (lv_at hl 3 rfl) ?_
          refine va_iald hx hb hK hP 1 0 rfl rfl h.1 dX2_bestQuestion_37 ?_
          have h := h.2
          refine lv_iload hx hb dX2_bestQuestion_38 (lv_at hl 4 rfl) ?_
          refine lv_icmp_ne (tgt := 47) hx hb dX2_bestQuestion_40 (by decide) (fun c_19 => ?_) (fun c_19 => ?_)
          · have h := h.1 c_19
            exact J47 x1_16 x2_16 x3_16 x4_16 _ _ _ h hP hD hS (lv_sub hl [0, 1, 2, 3, 4] rfl)
          · have h := h.2 c_19
            refine lv_iconst (v := 1) hx hb dX2_bestQuestion_43 (by decide) ?_
            refine lv_goto (tgt := 48) hx hb dX2_bestQuestion_44 (by decide) ?_
            exact J48 x1_16 x2_16 x3_16 x4_16 1 _ _ _ h hP hD hS (lv_sub hl [0, 1, 2, 3, 4] rfl)
  obtain ⟨n16, h⟩ := h
  exact L16 n16 (-9) 1001 0 0 _ _ _ h hP hD hS (lv_sub hl [4, 3, 2, 1, 0] rfl)
theorem dX3_begin_0 : decode cX3_begin 0 = .ok (.iconst 0, 1) := by decide +kernel
theorem dX3_begin_1 : decode cX3_begin 1 = .ok (.istore_n 2, 1) := by decide +kernel
theorem dX3_begin_2 : decode cX3_begin 2 = .ok (.iload_n 2, 1) := by decide +kernel
theorem dX3_begin_3 : decode cX3_begin 3 = .ok (.bipush 8, 2) := by decide +kernel
theorem dX3_begin_5 : decode cX3_begin 5 = .ok (.if_icmp .ge 62, 3) := by decide +kernel
theorem dX3_begin_8 : decode cX3_begin 8 = .ok (.aload_n 0, 1) := by decide +kernel
theorem dX3_begin_9 : decode cX3_begin 9 = .ok (.getfield 9, 3) := by decide +kernel
theorem dX3_begin_12 : decode cX3_begin 12 = .ok (.iload_n 2, 1) := by decide +kernel
theorem dX3_begin_13 : decode cX3_begin 13 = .ok (.aload_n 1, 1) := by decide +kernel
theorem dX3_begin_14 : decode cX3_begin 14 = .ok (.getfield 34, 3) := by decide +kernel
theorem dX3_begin_17 : decode cX3_begin 17 = .ok (.iload_n 2, 1) := by decide +kernel
theorem dX3_begin_18 : decode cX3_begin 18 = .ok (.iaload, 1) := by decide +kernel
theorem dX3_begin_19 : decode cX3_begin 19 = .ok (.iastore, 1) := by decide +kernel
theorem dX3_begin_20 : decode cX3_begin 20 = .ok (.aload_n 0, 1) := by decide +kernel
theorem dX3_begin_21 : decode cX3_begin 21 = .ok (.getfield 15, 3) := by decide +kernel
theorem dX3_begin_24 : decode cX3_begin 24 = .ok (.iload_n 2, 1) := by decide +kernel
theorem dX3_begin_25 : decode cX3_begin 25 = .ok (.iconst 0, 1) := by decide +kernel
theorem dX3_begin_26 : decode cX3_begin 26 = .ok (.iastore, 1) := by decide +kernel
theorem dX3_begin_27 : decode cX3_begin 27 = .ok (.aload_n 0, 1) := by decide +kernel
theorem dX3_begin_28 : decode cX3_begin 28 = .ok (.getfield 18, 3) := by decide +kernel
theorem dX3_begin_31 : decode cX3_begin 31 = .ok (.iload_n 2, 1) := by decide +kernel
theorem dX3_begin_32 : decode cX3_begin 32 = .ok (.aload_n 1, 1) := by decide +kernel
theorem dX3_begin_33 : decode cX3_begin 33 = .ok (.getfield 37, 3) := by decide +kernel
theorem dX3_begin_36 : decode cX3_begin 36 = .ok (.iload_n 2, 1) := by decide +kernel
theorem dX3_begin_37 : decode cX3_begin 37 = .ok (.iaload, 1) := by decide +kernel
theorem dX3_begin_38 : decode cX3_begin 38 = .ok (.iastore, 1) := by decide +kernel
theorem dX3_begin_39 : decode cX3_begin 39 = .ok (.aload_n 0, 1) := by decide +kernel
theorem dX3_begin_40 : decode cX3_begin 40 = .ok (.getfield 21, 3) := by decide +kernel
theorem dX3_begin_43 : decode cX3_begin 43 = .ok (.iload_n 2, 1) := by decide +kernel
theorem dX3_begin_44 : decode cX3_begin 44 = .ok (.iload_n 2, 1) := by decide +kernel
theorem dX3_begin_45 : decode cX3_begin 45 = .ok (.aload_n 1, 1) := by decide +kernel
theorem dX3_begin_46 : decode cX3_begin 46 = .ok (.getfield 38, 3) := by decide +kernel
theorem dX3_begin_49 : decode cX3_begin 49 = .ok (.if_icmp .ge 9, 3) := by decide +kernel
theorem dX3_begin_52 : decode cX3_begin 52 = .ok (.iload_n 2, 1) := by decide +kernel
theorem dX3_begin_53 : decode cX3_begin 53 = .ok (.iconst 1, 1) := by decide +kernel
theorem dX3_begin_54 : decode cX3_begin 54 = .ok (.iadd, 1) := by decide +kernel
theorem dX3_begin_55 : decode cX3_begin 55 = .ok (.goto 5, 3) := by decide +kernel
theorem dX3_begin_58 : decode cX3_begin 58 = .ok (.bipush (-9), 2) := by decide +kernel
theorem dX3_begin_60 : decode cX3_begin 60 = .ok (.iastore, 1) := by decide +kernel
theorem dX3_begin_61 : decode cX3_begin 61 = .ok (.iinc 2 1, 3) := by decide +kernel
theorem dX3_begin_64 : decode cX3_begin 64 = .ok (.goto (-62), 3) := by decide +kernel
theorem dX3_begin_67 : decode cX3_begin 67 = .ok (.aload_n 1, 1) := by decide +kernel
theorem dX3_begin_68 : decode cX3_begin 68 = .ok (.getfield 38, 3) := by decide +kernel
theorem dX3_begin_71 : decode cX3_begin 71 = .ok (.ifCond .le 15, 3) := by decide +kernel
theorem dX3_begin_74 : decode cX3_begin 74 = .ok (.aload_n 0, 1) := by decide +kernel
theorem dX3_begin_75 : decode cX3_begin 75 = .ok (.getfield 21, 3) := by decide +kernel
theorem dX3_begin_78 : decode cX3_begin 78 = .ok (.aload_n 1, 1) := by decide +kernel
theorem dX3_begin_79 : decode cX3_begin 79 = .ok (.getfield 38, 3) := by decide +kernel
theorem dX3_begin_82 : decode cX3_begin 82 = .ok (.iconst 1, 1) := by decide +kernel
theorem dX3_begin_83 : decode cX3_begin 83 = .ok (.isub, 1) := by decide +kernel
theorem dX3_begin_84 : decode cX3_begin 84 = .ok (.iconst 0, 1) := by decide +kernel
theorem dX3_begin_85 : decode cX3_begin 85 = .ok (.iastore, 1) := by decide +kernel
theorem dX3_begin_86 : decode cX3_begin 86 = .ok (.aload_n 0, 1) := by decide +kernel
theorem dX3_begin_87 : decode cX3_begin 87 = .ok (.bipush (-9), 2) := by decide +kernel
theorem dX3_begin_89 : decode cX3_begin 89 = .ok (.putfield 24, 3) := by decide +kernel
theorem dX3_begin_92 : decode cX3_begin 92 = .ok (.return_, 1) := by decide +kernel
set_option maxHeartbeats 4000000 in
set_option maxRecDepth 100000 in
theorem c_X3_begin (E : GE) (l : Launch) (a0 : Nat → Nat) (a1 : Nat → Nat) (S0 : Ob) (S1 : Ob) (post : Ob → Ob → Prop) (h : wp_X3_begin S0 S1 post) : Met l yX3_begin (wz yX3_begin cX3_begin 3 none) { frames := 0, cells := 0, slots := 0, locals := 0 } (gPc E [.ref (a0 99), .ref (a1 99)] (gW [bScene E a0 S0, bPlan E a1 S1])) (gQv E (gW [bScene E a0 S0, bPlan E a1 S1]) (fun (u : Ob × Ob) => post u.1 u.2) (fun (u : Ob × Ob) w => w = gW [bScene E a0 u.1, bPlan E a1 u.2])) 0 0 (gIn (gW [bScene E a0 S0, bPlan E a1 S1])) := by
  unfold wp_X3_begin at h
  refine g_of_v (by decide) (Nat.le_of_ble_eq_true rfl) ?_
  intro p e s m below meth c A Q hx hb hml hown ht hE hP hD hret ls hl
  have hK := hE.1
  have hS : va_S A s.heap s.heap [] := va_S.rf
  have hl : lv_has ls 3 [(0, .ref (a0 99)), (1, .ref (a1 99))] := hl
  refine lv_iconst (v := 0) hx hb dX3_begin_0 (by decide) ?_
  refine lv_istore_n (lv' := [(2, .int 0), (0, .ref (a0 99)), (1, .ref (a1 99))]) hx hb dX3_begin_1 rfl hl (by decide) rfl (fun ls hl => ?_)
  have L2 : ∀ (n2 : Nat) (x2_2 : Int32) (S0_2 : Ob) (S1_2 : Ob) (H : Heap) (locs : List Loc) (ls : Array Slot), wp_X3_begin_L2 post n2 x2_2 S0_2 S1_2 → gP E (gW [bScene E a0 S0_2, bPlan E a1 S1_2]) H → va_D A (gW [bScene E a0 S0_2, bPlan E a1 S1_2]) → va_S A s.heap H locs → lv_has ls 3 [(0, .ref (a0 99)), (1, .ref (a1 99)), (2, .int x2_2)] → W p l e { frames := 0, cells := 0, slots := 0, locals := 0 } s m ([.ref (a0 99), .ref (a1 99)] : List Value).toArray below meth c H locs 0 0 Q (F0 m 2 ls []) := by
    intro n2
    induction n2 with
    | zero => intro x2_2 S0_2 S1_2 H locs ls h; exact h.elim
    | succ n2 ih2 =>
      intro x2_2 S0_2 S1_2 H locs ls h hP hD hS hl
      rw [wp_X3_begin_L2] at h
      refine lv_iload_n hx hb dX3_begin_2 rfl (lv_at hl 2 rfl) ?_
      refine lv_bipush (v := 8) hx hb dX3_begin_3 (by decide) ?_
      refine lv_icmp_ge (tgt := 67) hx hb dX3_begin_5 (by decide) (fun c_7 => ?_) (fun c_7 => ?_)
      · have h := h.1 c_7
        refine lv_aload_n hx hb dX3_begin_67 rfl (lv_at hl 1 rfl) ?_
        refine va_get (D := (E.1, E.2.1)) (ci := 1) (v := .int (S1_2.1 4)) (C := RX1) (T := TX1) (N := 5) hx hb ht wu_X1 hown hK hP 5 rfl rfl 4 (by decide) (ht _ wk_X3_38) (fun _ h9 => h9) rfl dX3_begin_68 ?_
        refine lv_if_le (tgt := 86) hx hb dX3_begin_71 (by decide) (fun c_8 => ?_) (fun c_8 => ?_)
        · have h := h.1 c_8
          refine lv_aload_n hx hb dX3_begin_86 rfl (lv_at hl 0 rfl) ?_
          refine lv_bipush (v := (-9)) hx hb dX3_begin_87 (by decide) ?_
          refine va_put (D := (E.1, E.2.1)) (ci := 3) (v := .int (-9)) (ty := .int) (C := RX3) (T := TX3) (N := 5) hx hb ht wu_X3 tyX3 tyX3_ok nmX3 hown hK hP hD hS 0 rfl rfl 4 (by decide) (ht _ wk_X3_24) (fun _ h9 => h9) rfl (by decide +kernel) rfl rfl (Nat.le_of_ble_eq_true rfl) dX3_begin_89 (fun H locs hP hD hS => ?_)
          have hP : gP E (gW [bScene E a0 (pf S0_2 4 (-9)), bPlan E a1 S1_2]) H := hP
          have hD : va_D A (gW [bScene E a0 (pf S0_2 4 (-9)), bPlan E a1 S1_2]) := hD
          exact hret ⟨(pf S0_2 4 (-9)), S1_2⟩ _ _ _ _ _ h rfl hP hD hS dX3_begin_92
        · have h := h.2 c_8
          refine lv_aload_n hx hb dX3_begin_74 rfl (lv_at hl 0 rfl) ?_
          refine va_get (D := (E.1, E.2.1)) (ci := 3) (v := .ref (a0 3)) (C := RX3) (T := TX3) (N := 5) hx hb ht wu_X3 hown hK hP 0 rfl rfl 3 (by decide) (ht _ wk_X3_21) (fun _ h9 => h9) rfl dX3_begin_75 ?_
          refine lv_aload_n hx hb dX3_begin_78 rfl (lv_at hl 1 rfl) ?_
          refine va_get (D := (E.1, E.2.1)) (ci := 1) (v := .int (S1_2.1 4)) (C := RX1) (T := TX1) (N := 5) hx hb ht wu_X1 hown hK hP 5 rfl rfl 4 (by decide) (ht _ wk_X3_38) (fun _ h9 => h9) rfl dX3_begin_79 ?_
          refine lv_iconst (v := 1) hx hb dX3_begin_82 (by decide) ?_
          refine lv_isub hx hb dX3_begin_83 ?_
          refine lv_iconst (v := 0) hx hb dX3_begin_84 (by decide) ?_
          refine va_iast hx hb hK hP hD hS 4 0 rfl rfl h.1 dX3_begin_85 (fun H locs hP hD hS => ?_)
          have h := h.2
          have hP : gP E (gW [bScene E a0 (pa S0_2 3 (((S1_2.1 4) - 1).toNatClampNeg) 0), bPlan E a1 S1_2]) H := hP
          have hD : va_D A (gW [bScene E a0 (pa S0_2 3 (((S1_2.1 4) - 1).toNatClampNeg) 0), bPlan E a1 S1_2]) := hD
          obtain ⟨S_9, eS_9⟩ : ∃ z : Ob, z = (pa S0_2 3 (((S1_2.1 4) - 1).toNatClampNeg) 0) := ⟨_, rfl⟩
          have h := h S_9 eS_9
          rw [← eS_9] at hP hD
          refine lv_aload_n hx hb dX3_begin_86 rfl (lv_at hl 0 rfl) ?_
          refine lv_bipush (v := (-9)) hx hb dX3_begin_87 (by decide) ?_
          refine va_put (D := (E.1, E.2.1)) (ci := 3) (v := .int (-9)) (ty := .int) (C := RX3) (T := TX3) (N := 5) hx hb ht wu_X3 tyX3 tyX3_ok nmX3 hown hK hP hD hS 0 rfl rfl 4 (by decide) (ht _ wk_X3_24) (fun _ h9 => h9) rfl (by decide +kernel) rfl rfl (Nat.le_of_ble_eq_true rfl) dX3_begin_89 (fun H locs hP hD hS => ?_)
          have hP : gP E (gW [bScene E a0 (pf S_9 4 (-9)), bPlan E a1 S1_2]) H := hP
          have hD : va_D A (gW [bScene E a0 (pf S_9 4 (-9)), bPlan E a1 S1_2]) := hD
          exact hret ⟨(pf S_9 4 (-9)), S1_2⟩ _ _ _ _ _ h rfl hP hD hS dX3_begin_92
      · have h := h.2 c_7
        refine lv_aload_n hx hb dX3_begin_8 rfl (lv_at hl 0 rfl) ?_
        refine va_get (D := (E.1, E.2.1)) (ci := 3) (v := .ref (a0 0)) (C := RX3) (T := TX3) (N := 5) hx hb ht wu_X3 hown hK hP 0 rfl rfl 0 (by decide) (ht _ wk_X3_9) (fun _ h9 => h9) rfl dX3_begin_9 ?_
        refine lv_iload_n hx hb dX3_begin_12 rfl (lv_at hl 2 rfl) ?_
        refine lv_aload_n hx hb dX3_begin_13 rfl (lv_at hl 1 rfl) ?_
        refine va_get (D := (E.1, E.2.1)) (ci := 1) (v := .ref (a1 0)) (C := RX1) (T := TX1) (N := 5) hx hb ht wu_X1 hown hK hP 5 rfl rfl 0 (by decide) (ht _ wk_X3_34) (fun _ h9 => h9) rfl dX3_begin_14 ?_
        refine lv_iload_n hx hb dX3_begin_17 rfl (lv_at hl 2 rfl) ?_
        refine va_iald hx hb hK hP 6 0 rfl rfl h.1 dX3_begin_18 ?_
        have h := h.2
        refine va_iast hx hb hK hP hD hS 1 0 rfl rfl h.1 dX3_begin_19 (fun H locs hP hD hS => ?_)
        have h := h.2
        have hP : gP E (gW [bScene E a0 (pa S0_2 0 (x2_2.toNatClampNeg) (S1_2.2 0 x2_2.toNatClampNeg)), bPlan E a1 S1_2]) H := hP
        have hD : va_D A (gW [bScene E a0 (pa S0_2 0 (x2_2.toNatClampNeg) (S1_2.2 0 x2_2.toNatClampNeg)), bPlan E a1 S1_2]) := hD
        obtain ⟨S_10, eS_10⟩ : ∃ z : Ob, z = (pa S0_2 0 (x2_2.toNatClampNeg) (S1_2.2 0 x2_2.toNatClampNeg)) := ⟨_, rfl⟩
        have h := h S_10 eS_10
        rw [← eS_10] at hP hD
        refine lv_aload_n hx hb dX3_begin_20 rfl (lv_at hl 0 rfl) ?_
        refine va_get (D := (E.1, E.2.1)) (ci := 3) (v := .ref (a0 1)) (C := RX3) (T := TX3) (N := 5) hx hb ht wu_X3 hown hK hP 0 rfl rfl 1 (by decide) (ht _ wk_X3_15) (fun _ h9 => h9) rfl dX3_begin_21 ?_
        refine lv_iload_n hx hb dX3_begin_24 rfl (lv_at hl 2 rfl) ?_
        refine lv_iconst (v := 0) hx hb dX3_begin_25 (by decide) ?_
        refine va_iast hx hb hK hP hD hS 2 0 rfl rfl h.1 dX3_begin_26 (fun H locs hP hD hS => ?_)
        have h := h.2
        have hP : gP E (gW [bScene E a0 (pa S_10 1 (x2_2.toNatClampNeg) 0), bPlan E a1 S1_2]) H := hP
        have hD : va_D A (gW [bScene E a0 (pa S_10 1 (x2_2.toNatClampNeg) 0), bPlan E a1 S1_2]) := hD
        refine lv_aload_n hx hb dX3_begin_27 rfl (lv_at hl 0 rfl) ?_
        refine va_get (D := (E.1, E.2.1)) (ci := 3) (v := .ref (a0 2)) (C := RX3) (T := TX3) (N := 5) hx hb ht wu_X3 hown hK hP 0 rfl rfl 2 (by decide) (ht _ wk_X3_18) (fun _ h9 => h9) rfl dX3_begin_28 ?_
        refine lv_iload_n hx hb dX3_begin_31 rfl (lv_at hl 2 rfl) ?_
        refine lv_aload_n hx hb dX3_begin_32 rfl (lv_at hl 1 rfl) ?_
        refine va_get (D := (E.1, E.2.1)) (ci := 1) (v := .ref (a1 1)) (C := RX1) (T := TX1) (N := 5) hx hb ht wu_X1 hown hK hP 5 rfl rfl 1 (by decide) (ht _ wk_X3_37) (fun _ h9 => h9) rfl dX3_begin_33 ?_
        refine lv_iload_n hx hb dX3_begin_36 rfl (lv_at hl 2 rfl) ?_
        refine va_iald hx hb hK hP 7 0 rfl rfl h.1 dX3_begin_37 ?_
        have h := h.2
        refine va_iast hx hb hK hP hD hS 3 0 rfl rfl h.1 dX3_begin_38 (fun H locs hP hD hS => ?_)
        have h := h.2
        have hP : gP E (gW [bScene E a0 (pa (pa S_10 1 (x2_2.toNatClampNeg) 0) 2 (x2_2.toNatClampNeg) (S1_2.2 1 x2_2.toNatClampNeg)), bPlan E a1 S1_2]) H := hP
        have hD : va_D A (gW [bScene E a0 (pa (pa S_10 1 (x2_2.toNatClampNeg) 0) 2 (x2_2.toNatClampNeg) (S1_2.2 1 x2_2.toNatClampNeg)), bPlan E a1 S1_2]) := hD
        obtain ⟨S_11, eS_11⟩ : ∃ z : Ob, z = (pa (pa S_10 1 (x2_2.toNatClampNeg) 0) 2 (x2_2.toNatClampNeg) (S1_2.2 1 x2_2.toNatClampNeg)) := ⟨_, rfl⟩
        have h := h S_11 eS_11
        rw [← eS_11] at hP hD
        refine lv_aload_n hx hb dX3_begin_39 rfl (lv_at hl 0 rfl) ?_
        refine va_get (D := (E.1, E.2.1)) (ci := 3) (v := .ref (a0 3)) (C := RX3) (T := TX3) (N := 5) hx hb ht wu_X3 hown hK hP 0 rfl rfl 3 (by decide) (ht _ wk_X3_21) (fun _ h9 => h9) rfl dX3_begin_40 ?_
        refine lv_iload_n hx hb dX3_begin_43 rfl (lv_at hl 2 rfl) ?_
        refine lv_iload_n hx hb dX3_begin_44 rfl (lv_at hl 2 rfl) ?_
        refine lv_aload_n hx hb dX3_begin_45 rfl (lv_at hl 1 rfl) ?_
        refine va_get (D := (E.1, E.2.1)) (ci := 1) (v := .int (S1_2.1 4)) (C := RX1) (T := TX1) (N := 5) hx hb ht wu_X1 hown hK hP 5 rfl rfl 4 (by decide) (ht _ wk_X3_38) (fun _ h9 => h9) rfl dX3_begin_46 ?_
        refine lv_icmp_ge (tgt := 58) hx hb dX3_begin_49 (by decide) (fun c_12 => ?_) (fun c_12 => ?_)
        · have h := h.1 c_12
          refine lv_bipush (v := (-9)) hx hb dX3_begin_58 (by decide) ?_
          refine va_iast hx hb hK hP hD hS 4 0 rfl rfl h.1 dX3_begin_60 (fun H locs hP hD hS => ?_)
          have h := h.2
          have hP : gP E (gW [bScene E a0 (pa S_11 3 (x2_2.toNatClampNeg) (-9)), bPlan E a1 S1_2]) H := hP
          have hD : va_D A (gW [bScene E a0 (pa S_11 3 (x2_2.toNatClampNeg) (-9)), bPlan E a1 S1_2]) := hD
          refine lv_iinc (v := (x2_2 + 1)) (lv' := [(2, .int (x2_2 + 1)), (0, .ref (a0 99)), (1, .ref (a1 99))]) hx hb dX3_begin_61 hl (k := 2) rfl rfl (by decide) rfl (fun ls hl => ?_)
          refine lv_goto (tgt := 2) hx hb dX3_begin_64 (by decide) ?_
          exact ih2 (x2_2 + 1) (pa S_11 3 (x2_2.toNatClampNeg) (-9)) S1_2 _ _ _ h hP hD hS (lv_sub hl [1, 2, 0] rfl)
        · have h := h.2 c_12
          refine lv_iload_n hx hb dX3_begin_52 rfl (lv_at hl 2 rfl) ?_
          refine lv_iconst (v := 1) hx hb dX3_begin_53 (by decide) ?_
          refine lv_iadd hx hb dX3_begin_54 ?_
          refine lv_goto (tgt := 60) hx hb dX3_begin_55 (by decide) ?_
          refine va_iast hx hb hK hP hD hS 4 0 rfl rfl h.1 dX3_begin_60 (fun H locs hP hD hS => ?_)
          have h := h.2
          have hP : gP E (gW [bScene E a0 (pa S_11 3 (x2_2.toNatClampNeg) (x2_2 + 1)), bPlan E a1 S1_2]) H := hP
          have hD : va_D A (gW [bScene E a0 (pa S_11 3 (x2_2.toNatClampNeg) (x2_2 + 1)), bPlan E a1 S1_2]) := hD
          refine lv_iinc (v := (x2_2 + 1)) (lv' := [(2, .int (x2_2 + 1)), (0, .ref (a0 99)), (1, .ref (a1 99))]) hx hb dX3_begin_61 hl (k := 2) rfl rfl (by decide) rfl (fun ls hl => ?_)
          refine lv_goto (tgt := 2) hx hb dX3_begin_64 (by decide) ?_
          exact ih2 (x2_2 + 1) (pa S_11 3 (x2_2.toNatClampNeg) (x2_2 + 1)) S1_2 _ _ _ h hP hD hS (lv_sub hl [1, 2, 0] rfl)
  obtain ⟨n2, h⟩ := h
  exact L2 n2 0 S0 S1 _ _ _ h hP hD hS (lv_sub hl [1, 2, 0] rfl)
theorem dX3_copyFrom_0 : decode cX3_copyFrom 0 = .ok (.aload_n 1, 1) := by decide +kernel
theorem dX3_copyFrom_1 : decode cX3_copyFrom 1 = .ok (.getfield 9, 3) := by decide +kernel
theorem dX3_copyFrom_4 : decode cX3_copyFrom 4 = .ok (.iconst 0, 1) := by decide +kernel
theorem dX3_copyFrom_5 : decode cX3_copyFrom 5 = .ok (.aload_n 0, 1) := by decide +kernel
theorem dX3_copyFrom_6 : decode cX3_copyFrom 6 = .ok (.getfield 9, 3) := by decide +kernel
theorem dX3_copyFrom_9 : decode cX3_copyFrom 9 = .ok (.iconst 0, 1) := by decide +kernel
theorem dX3_copyFrom_10 : decode cX3_copyFrom 10 = .ok (.bipush 8, 2) := by decide +kernel
theorem dX3_copyFrom_12 : decode cX3_copyFrom 12 = .ok (.invokestatic 41, 3) := by decide +kernel
theorem dX3_copyFrom_15 : decode cX3_copyFrom 15 = .ok (.aload_n 1, 1) := by decide +kernel
theorem dX3_copyFrom_16 : decode cX3_copyFrom 16 = .ok (.getfield 15, 3) := by decide +kernel
theorem dX3_copyFrom_19 : decode cX3_copyFrom 19 = .ok (.iconst 0, 1) := by decide +kernel
theorem dX3_copyFrom_20 : decode cX3_copyFrom 20 = .ok (.aload_n 0, 1) := by decide +kernel
theorem dX3_copyFrom_21 : decode cX3_copyFrom 21 = .ok (.getfield 15, 3) := by decide +kernel
theorem dX3_copyFrom_24 : decode cX3_copyFrom 24 = .ok (.iconst 0, 1) := by decide +kernel
theorem dX3_copyFrom_25 : decode cX3_copyFrom 25 = .ok (.bipush 8, 2) := by decide +kernel
theorem dX3_copyFrom_27 : decode cX3_copyFrom 27 = .ok (.invokestatic 41, 3) := by decide +kernel
theorem dX3_copyFrom_30 : decode cX3_copyFrom 30 = .ok (.aload_n 1, 1) := by decide +kernel
theorem dX3_copyFrom_31 : decode cX3_copyFrom 31 = .ok (.getfield 18, 3) := by decide +kernel
theorem dX3_copyFrom_34 : decode cX3_copyFrom 34 = .ok (.iconst 0, 1) := by decide +kernel
theorem dX3_copyFrom_35 : decode cX3_copyFrom 35 = .ok (.aload_n 0, 1) := by decide +kernel
theorem dX3_copyFrom_36 : decode cX3_copyFrom 36 = .ok (.getfield 18, 3) := by decide +kernel
theorem dX3_copyFrom_39 : decode cX3_copyFrom 39 = .ok (.iconst 0, 1) := by decide +kernel
theorem dX3_copyFrom_40 : decode cX3_copyFrom 40 = .ok (.bipush 8, 2) := by decide +kernel
theorem dX3_copyFrom_42 : decode cX3_copyFrom 42 = .ok (.invokestatic 41, 3) := by decide +kernel
theorem dX3_copyFrom_45 : decode cX3_copyFrom 45 = .ok (.aload_n 1, 1) := by decide +kernel
theorem dX3_copyFrom_46 : decode cX3_copyFrom 46 = .ok (.getfield 21, 3) := by decide +kernel
theorem dX3_copyFrom_49 : decode cX3_copyFrom 49 = .ok (.iconst 0, 1) := by decide +kernel
theorem dX3_copyFrom_50 : decode cX3_copyFrom 50 = .ok (.aload_n 0, 1) := by decide +kernel
theorem dX3_copyFrom_51 : decode cX3_copyFrom 51 = .ok (.getfield 21, 3) := by decide +kernel
theorem dX3_copyFrom_54 : decode cX3_copyFrom 54 = .ok (.iconst 0, 1) := by decide +kernel
theorem dX3_copyFrom_55 : decode cX3_copyFrom 55 = .ok (.bipush 8, 2) := by decide +kernel
theorem dX3_copyFrom_57 : decode cX3_copyFrom 57 = .ok (.invokestatic 41, 3) := by decide +kernel
theorem dX3_copyFrom_60 : decode cX3_copyFrom 60 = .ok (.aload_n 0, 1) := by decide +kernel
theorem dX3_copyFrom_61 : decode cX3_copyFrom 61 = .ok (.aload_n 1, 1) := by decide +kernel
theorem dX3_copyFrom_62 : decode cX3_copyFrom 62 = .ok (.getfield 24, 3) := by decide +kernel
theorem dX3_copyFrom_65 : decode cX3_copyFrom 65 = .ok (.putfield 24, 3) := by decide +kernel
theorem dX3_copyFrom_68 : decode cX3_copyFrom 68 = .ok (.return_, 1) := by decide +kernel
set_option maxHeartbeats 4000000 in
set_option maxRecDepth 100000 in
theorem c_X3_copyFrom (E : GE) (l : Launch) (a0 : Nat → Nat) (a1 : Nat → Nat) (S0 : Ob) (S1 : Ob) (post : Ob → Ob → Prop) (h : wp_X3_copyFrom S0 S1 post) : Met l yX3_copyFrom (wz yX3_copyFrom cX3_copyFrom 2 none) { frames := 1, cells := 0, slots := 0, locals := 40 } (gPc E [.ref (a0 99), .ref (a1 99)] (gW [bScene E a0 S0, bScene E a1 S1])) (gQv E (gW [bScene E a0 S0, bScene E a1 S1]) (fun (u : Ob × Ob) => post u.1 u.2) (fun (u : Ob × Ob) w => w = gW [bScene E a0 u.1, bScene E a1 u.2])) 0 0 (gIn (gW [bScene E a0 S0, bScene E a1 S1])) := by
  unfold wp_X3_copyFrom at h
  refine g_of_v (by decide) (Nat.le_of_ble_eq_true rfl) ?_
  intro p e s m below meth c A Q hx hb hml hown ht hE hP hD hret ls hl
  have hK := hE.1
  have hS : va_S A s.heap s.heap [] := va_S.rf
  have hl : lv_has ls 2 [(0, .ref (a0 99)), (1, .ref (a1 99))] := hl
  refine lv_aload_n hx hb dX3_copyFrom_0 rfl (lv_at hl 1 rfl) ?_
  refine va_get (D := (E.1, E.2.1)) (ci := 3) (v := .ref (a1 0)) (C := RX3) (T := TX3) (N := 5) hx hb ht wu_X3 hown hK hP 5 rfl rfl 0 (by decide) (ht _ wk_X3_9) (fun _ h9 => h9) rfl dX3_copyFrom_1 ?_
  refine lv_iconst (v := 0) hx hb dX3_copyFrom_4 (by decide) ?_
  refine lv_aload_n hx hb dX3_copyFrom_5 rfl (lv_at hl 0 rfl) ?_
  refine va_get (D := (E.1, E.2.1)) (ci := 3) (v := .ref (a0 0)) (C := RX3) (T := TX3) (N := 5) hx hb ht wu_X3 hown hK hP 0 rfl rfl 0 (by decide) (ht _ wk_X3_9) (fun _ h9 => h9) rfl dX3_copyFrom_6 ?_
  refine lv_iconst (v := 0) hx hb dX3_copyFrom_9 (by decide) ?_
  refine lv_bipush (v := 8) hx hb dX3_copyFrom_10 (by decide) ?_
  refine va_copyi hx hb (hml.trans hl.1.symm) hown (ht _ wk_X3_41) (ht _ wv_sys) (ht _ wt_sys) (ht _ wn_J10) hK hP hD hS 6 1 0 0 rfl rfl rfl rfl rfl (by decide) (by decide) (by decide) (by decide) (by decide) (fun _ _ => rfl) (Nat.le_of_ble_eq_true rfl) (Nat.le_of_ble_eq_true rfl) dX3_copyFrom_12 (fun H locs hP hD hS => ?_)
  have hP : gP E (gW [bScene E a0 (pw S0 0 (va_cpy (S1.2 0) (S0.2 0) 0 0 8)), bScene E a1 S1]) H := hP
  have hD : va_D A (gW [bScene E a0 (pw S0 0 (va_cpy (S1.2 0) (S0.2 0) 0 0 8)), bScene E a1 S1]) := hD
  refine lv_aload_n hx hb dX3_copyFrom_15 rfl (lv_at hl 1 rfl) ?_
  refine va_get (D := (E.1, E.2.1)) (ci := 3) (v := .ref (a1 1)) (C := RX3) (T := TX3) (N := 5) hx hb ht wu_X3 hown hK hP 5 rfl rfl 1 (by decide) (ht _ wk_X3_15) (fun _ h9 => h9) rfl dX3_copyFrom_16 ?_
  refine lv_iconst (v := 0) hx hb dX3_copyFrom_19 (by decide) ?_
  refine lv_aload_n hx hb dX3_copyFrom_20 rfl (lv_at hl 0 rfl) ?_
  refine va_get (D := (E.1, E.2.1)) (ci := 3) (v := .ref (a0 1)) (C := RX3) (T := TX3) (N := 5) hx hb ht wu_X3 hown hK hP 0 rfl rfl 1 (by decide) (ht _ wk_X3_15) (fun _ h9 => h9) rfl dX3_copyFrom_21 ?_
  refine lv_iconst (v := 0) hx hb dX3_copyFrom_24 (by decide) ?_
  refine lv_bipush (v := 8) hx hb dX3_copyFrom_25 (by decide) ?_
  refine va_copyi hx hb (hml.trans hl.1.symm) hown (ht _ wk_X3_41) (ht _ wv_sys) (ht _ wt_sys) (ht _ wn_J10) hK hP hD hS 7 2 0 0 rfl rfl rfl rfl rfl (by decide) (by decide) (by decide) (by decide) (by decide) (fun _ _ => rfl) (Nat.le_of_ble_eq_true rfl) (Nat.le_of_ble_eq_true rfl) dX3_copyFrom_27 (fun H locs hP hD hS => ?_)
  have hP : gP E (gW [bScene E a0 (pw (pw S0 0 (va_cpy (S1.2 0) (S0.2 0) 0 0 8)) 1 (va_cpy (S1.2 1) ((pw S0 0 (va_cpy (S1.2 0) (S0.2 0) 0 0 8)).2 1) 0 0 8)), bScene E a1 S1]) H := hP
  have hD : va_D A (gW [bScene E a0 (pw (pw S0 0 (va_cpy (S1.2 0) (S0.2 0) 0 0 8)) 1 (va_cpy (S1.2 1) ((pw S0 0 (va_cpy (S1.2 0) (S0.2 0) 0 0 8)).2 1) 0 0 8)), bScene E a1 S1]) := hD
  refine lv_aload_n hx hb dX3_copyFrom_30 rfl (lv_at hl 1 rfl) ?_
  refine va_get (D := (E.1, E.2.1)) (ci := 3) (v := .ref (a1 2)) (C := RX3) (T := TX3) (N := 5) hx hb ht wu_X3 hown hK hP 5 rfl rfl 2 (by decide) (ht _ wk_X3_18) (fun _ h9 => h9) rfl dX3_copyFrom_31 ?_
  refine lv_iconst (v := 0) hx hb dX3_copyFrom_34 (by decide) ?_
  refine lv_aload_n hx hb dX3_copyFrom_35 rfl (lv_at hl 0 rfl) ?_
  refine va_get (D := (E.1, E.2.1)) (ci := 3) (v := .ref (a0 2)) (C := RX3) (T := TX3) (N := 5) hx hb ht wu_X3 hown hK hP 0 rfl rfl 2 (by decide) (ht _ wk_X3_18) (fun _ h9 => h9) rfl dX3_copyFrom_36 ?_
  refine lv_iconst (v := 0) hx hb dX3_copyFrom_39 (by decide) ?_
  refine lv_bipush (v := 8) hx hb dX3_copyFrom_40 (by decide) ?_
  refine va_copyi hx hb (hml.trans hl.1.symm) hown (ht _ wk_X3_41) (ht _ wv_sys) (ht _ wt_sys) (ht _ wn_J10) hK hP hD hS 8 3 0 0 rfl rfl rfl rfl rfl (by decide) (by decide) (by decide) (by decide) (by decide) (fun _ _ => rfl) (Nat.le_of_ble_eq_true rfl) (Nat.le_of_ble_eq_true rfl) dX3_copyFrom_42 (fun H locs hP hD hS => ?_)
  have hP : gP E (gW [bScene E a0 (pw (pw (pw S0 0 (va_cpy (S1.2 0) (S0.2 0) 0 0 8)) 1 (va_cpy (S1.2 1) ((pw S0 0 (va_cpy (S1.2 0) (S0.2 0) 0 0 8)).2 1) 0 0 8)) 2 (va_cpy (S1.2 2) ((pw (pw S0 0 (va_cpy (S1.2 0) (S0.2 0) 0 0 8)) 1 (va_cpy (S1.2 1) ((pw S0 0 (va_cpy (S1.2 0) (S0.2 0) 0 0 8)).2 1) 0 0 8)).2 2) 0 0 8)), bScene E a1 S1]) H := hP
  have hD : va_D A (gW [bScene E a0 (pw (pw (pw S0 0 (va_cpy (S1.2 0) (S0.2 0) 0 0 8)) 1 (va_cpy (S1.2 1) ((pw S0 0 (va_cpy (S1.2 0) (S0.2 0) 0 0 8)).2 1) 0 0 8)) 2 (va_cpy (S1.2 2) ((pw (pw S0 0 (va_cpy (S1.2 0) (S0.2 0) 0 0 8)) 1 (va_cpy (S1.2 1) ((pw S0 0 (va_cpy (S1.2 0) (S0.2 0) 0 0 8)).2 1) 0 0 8)).2 2) 0 0 8)), bScene E a1 S1]) := hD
  refine lv_aload_n hx hb dX3_copyFrom_45 rfl (lv_at hl 1 rfl) ?_
  refine va_get (D := (E.1, E.2.1)) (ci := 3) (v := .ref (a1 3)) (C := RX3) (T := TX3) (N := 5) hx hb ht wu_X3 hown hK hP 5 rfl rfl 3 (by decide) (ht _ wk_X3_21) (fun _ h9 => h9) rfl dX3_copyFrom_46 ?_
  refine lv_iconst (v := 0) hx hb dX3_copyFrom_49 (by decide) ?_
  refine lv_aload_n hx hb dX3_copyFrom_50 rfl (lv_at hl 0 rfl) ?_
  refine va_get (D := (E.1, E.2.1)) (ci := 3) (v := .ref (a0 3)) (C := RX3) (T := TX3) (N := 5) hx hb ht wu_X3 hown hK hP 0 rfl rfl 3 (by decide) (ht _ wk_X3_21) (fun _ h9 => h9) rfl dX3_copyFrom_51 ?_
  refine lv_iconst (v := 0) hx hb dX3_copyFrom_54 (by decide) ?_
  refine lv_bipush (v := 8) hx hb dX3_copyFrom_55 (by decide) ?_
  refine va_copyi hx hb (hml.trans hl.1.symm) hown (ht _ wk_X3_41) (ht _ wv_sys) (ht _ wt_sys) (ht _ wn_J10) hK hP hD hS 9 4 0 0 rfl rfl rfl rfl rfl (by decide) (by decide) (by decide) (by decide) (by decide) (fun _ _ => rfl) (Nat.le_of_ble_eq_true rfl) (Nat.le_of_ble_eq_true rfl) dX3_copyFrom_57 (fun H locs hP hD hS => ?_)
  have hP : gP E (gW [bScene E a0 (pw (pw (pw (pw S0 0 (va_cpy (S1.2 0) (S0.2 0) 0 0 8)) 1 (va_cpy (S1.2 1) ((pw S0 0 (va_cpy (S1.2 0) (S0.2 0) 0 0 8)).2 1) 0 0 8)) 2 (va_cpy (S1.2 2) ((pw (pw S0 0 (va_cpy (S1.2 0) (S0.2 0) 0 0 8)) 1 (va_cpy (S1.2 1) ((pw S0 0 (va_cpy (S1.2 0) (S0.2 0) 0 0 8)).2 1) 0 0 8)).2 2) 0 0 8)) 3 (va_cpy (S1.2 3) ((pw (pw (pw S0 0 (va_cpy (S1.2 0) (S0.2 0) 0 0 8)) 1 (va_cpy (S1.2 1) ((pw S0 0 (va_cpy (S1.2 0) (S0.2 0) 0 0 8)).2 1) 0 0 8)) 2 (va_cpy (S1.2 2) ((pw (pw S0 0 (va_cpy (S1.2 0) (S0.2 0) 0 0 8)) 1 (va_cpy (S1.2 1) ((pw S0 0 (va_cpy (S1.2 0) (S0.2 0) 0 0 8)).2 1) 0 0 8)).2 2) 0 0 8)).2 3) 0 0 8)), bScene E a1 S1]) H := hP
  have hD : va_D A (gW [bScene E a0 (pw (pw (pw (pw S0 0 (va_cpy (S1.2 0) (S0.2 0) 0 0 8)) 1 (va_cpy (S1.2 1) ((pw S0 0 (va_cpy (S1.2 0) (S0.2 0) 0 0 8)).2 1) 0 0 8)) 2 (va_cpy (S1.2 2) ((pw (pw S0 0 (va_cpy (S1.2 0) (S0.2 0) 0 0 8)) 1 (va_cpy (S1.2 1) ((pw S0 0 (va_cpy (S1.2 0) (S0.2 0) 0 0 8)).2 1) 0 0 8)).2 2) 0 0 8)) 3 (va_cpy (S1.2 3) ((pw (pw (pw S0 0 (va_cpy (S1.2 0) (S0.2 0) 0 0 8)) 1 (va_cpy (S1.2 1) ((pw S0 0 (va_cpy (S1.2 0) (S0.2 0) 0 0 8)).2 1) 0 0 8)) 2 (va_cpy (S1.2 2) ((pw (pw S0 0 (va_cpy (S1.2 0) (S0.2 0) 0 0 8)) 1 (va_cpy (S1.2 1) ((pw S0 0 (va_cpy (S1.2 0) (S0.2 0) 0 0 8)).2 1) 0 0 8)).2 2) 0 0 8)).2 3) 0 0 8)), bScene E a1 S1]) := hD
  refine lv_aload_n hx hb dX3_copyFrom_60 rfl (lv_at hl 0 rfl) ?_
  refine lv_aload_n hx hb dX3_copyFrom_61 rfl (lv_at hl 1 rfl) ?_
  refine va_get (D := (E.1, E.2.1)) (ci := 3) (v := .int (S1.1 4)) (C := RX3) (T := TX3) (N := 5) hx hb ht wu_X3 hown hK hP 5 rfl rfl 4 (by decide) (ht _ wk_X3_24) (fun _ h9 => h9) rfl dX3_copyFrom_62 ?_
  refine va_put (D := (E.1, E.2.1)) (ci := 3) (v := .int (S1.1 4)) (ty := .int) (C := RX3) (T := TX3) (N := 5) hx hb ht wu_X3 tyX3 tyX3_ok nmX3 hown hK hP hD hS 0 rfl rfl 4 (by decide) (ht _ wk_X3_24) (fun _ h9 => h9) rfl (by decide +kernel) rfl rfl (Nat.le_of_ble_eq_true rfl) dX3_copyFrom_65 (fun H locs hP hD hS => ?_)
  have hP : gP E (gW [bScene E a0 (pf (pw (pw (pw (pw S0 0 (va_cpy (S1.2 0) (S0.2 0) 0 0 8)) 1 (va_cpy (S1.2 1) ((pw S0 0 (va_cpy (S1.2 0) (S0.2 0) 0 0 8)).2 1) 0 0 8)) 2 (va_cpy (S1.2 2) ((pw (pw S0 0 (va_cpy (S1.2 0) (S0.2 0) 0 0 8)) 1 (va_cpy (S1.2 1) ((pw S0 0 (va_cpy (S1.2 0) (S0.2 0) 0 0 8)).2 1) 0 0 8)).2 2) 0 0 8)) 3 (va_cpy (S1.2 3) ((pw (pw (pw S0 0 (va_cpy (S1.2 0) (S0.2 0) 0 0 8)) 1 (va_cpy (S1.2 1) ((pw S0 0 (va_cpy (S1.2 0) (S0.2 0) 0 0 8)).2 1) 0 0 8)) 2 (va_cpy (S1.2 2) ((pw (pw S0 0 (va_cpy (S1.2 0) (S0.2 0) 0 0 8)) 1 (va_cpy (S1.2 1) ((pw S0 0 (va_cpy (S1.2 0) (S0.2 0) 0 0 8)).2 1) 0 0 8)).2 2) 0 0 8)).2 3) 0 0 8)) 4 (S1.1 4)), bScene E a1 S1]) H := hP
  have hD : va_D A (gW [bScene E a0 (pf (pw (pw (pw (pw S0 0 (va_cpy (S1.2 0) (S0.2 0) 0 0 8)) 1 (va_cpy (S1.2 1) ((pw S0 0 (va_cpy (S1.2 0) (S0.2 0) 0 0 8)).2 1) 0 0 8)) 2 (va_cpy (S1.2 2) ((pw (pw S0 0 (va_cpy (S1.2 0) (S0.2 0) 0 0 8)) 1 (va_cpy (S1.2 1) ((pw S0 0 (va_cpy (S1.2 0) (S0.2 0) 0 0 8)).2 1) 0 0 8)).2 2) 0 0 8)) 3 (va_cpy (S1.2 3) ((pw (pw (pw S0 0 (va_cpy (S1.2 0) (S0.2 0) 0 0 8)) 1 (va_cpy (S1.2 1) ((pw S0 0 (va_cpy (S1.2 0) (S0.2 0) 0 0 8)).2 1) 0 0 8)) 2 (va_cpy (S1.2 2) ((pw (pw S0 0 (va_cpy (S1.2 0) (S0.2 0) 0 0 8)) 1 (va_cpy (S1.2 1) ((pw S0 0 (va_cpy (S1.2 0) (S0.2 0) 0 0 8)).2 1) 0 0 8)).2 2) 0 0 8)).2 3) 0 0 8)) 4 (S1.1 4)), bScene E a1 S1]) := hD
  obtain ⟨S_1, eS_1⟩ : ∃ z : Ob, z = (pf (pw (pw (pw (pw S0 0 (va_cpy (S1.2 0) (S0.2 0) 0 0 8)) 1 (va_cpy (S1.2 1) ((pw S0 0 (va_cpy (S1.2 0) (S0.2 0) 0 0 8)).2 1) 0 0 8)) 2 (va_cpy (S1.2 2) ((pw (pw S0 0 (va_cpy (S1.2 0) (S0.2 0) 0 0 8)) 1 (va_cpy (S1.2 1) ((pw S0 0 (va_cpy (S1.2 0) (S0.2 0) 0 0 8)).2 1) 0 0 8)).2 2) 0 0 8)) 3 (va_cpy (S1.2 3) ((pw (pw (pw S0 0 (va_cpy (S1.2 0) (S0.2 0) 0 0 8)) 1 (va_cpy (S1.2 1) ((pw S0 0 (va_cpy (S1.2 0) (S0.2 0) 0 0 8)).2 1) 0 0 8)) 2 (va_cpy (S1.2 2) ((pw (pw S0 0 (va_cpy (S1.2 0) (S0.2 0) 0 0 8)) 1 (va_cpy (S1.2 1) ((pw S0 0 (va_cpy (S1.2 0) (S0.2 0) 0 0 8)).2 1) 0 0 8)).2 2) 0 0 8)).2 3) 0 0 8)) 4 (S1.1 4)) := ⟨_, rfl⟩
  have h := h S_1 eS_1
  rw [← eS_1] at hP hD
  exact hret ⟨S_1, S1⟩ _ _ _ _ _ h rfl hP hD hS dX3_copyFrom_68
theorem dX3_isOpen_0 : decode cX3_isOpen 0 = .ok (.aload_n 0, 1) := by decide +kernel
theorem dX3_isOpen_1 : decode cX3_isOpen 1 = .ok (.getfield 24, 3) := by decide +kernel
theorem dX3_isOpen_4 : decode cX3_isOpen 4 = .ok (.ifCond .lt 16, 3) := by decide +kernel
theorem dX3_isOpen_7 : decode cX3_isOpen 7 = .ok (.aload_n 0, 1) := by decide +kernel
theorem dX3_isOpen_8 : decode cX3_isOpen 8 = .ok (.getfield 24, 3) := by decide +kernel
theorem dX3_isOpen_11 : decode cX3_isOpen 11 = .ok (.bipush 8, 2) := by decide +kernel
theorem dX3_isOpen_13 : decode cX3_isOpen 13 = .ok (.if_icmp .ge 7, 3) := by decide +kernel
theorem dX3_isOpen_16 : decode cX3_isOpen 16 = .ok (.iconst 1, 1) := by decide +kernel
theorem dX3_isOpen_17 : decode cX3_isOpen 17 = .ok (.goto 4, 3) := by decide +kernel
theorem dX3_isOpen_20 : decode cX3_isOpen 20 = .ok (.iconst 0, 1) := by decide +kernel
theorem dX3_isOpen_21 : decode cX3_isOpen 21 = .ok (.ireturn, 1) := by decide +kernel
set_option maxHeartbeats 4000000 in
set_option maxRecDepth 100000 in
theorem c_X3_isOpen (E : GE) (l : Launch) (a0 : Nat → Nat) (S0 : Ob) (post : Int32 → Prop) (h : wp_X3_isOpen S0 post) : Met l yX3_isOpen (wz yX3_isOpen cX3_isOpen 1 (some .boolean)) { frames := 0, cells := 0, slots := 0, locals := 0 } (gPc E [.ref (a0 99)] (gW [bScene E a0 S0])) (gQi E (gW [bScene E a0 S0]) (fun r (_ : Unit) => post r) (fun (_ : Unit) w => w = gW [bScene E a0 S0])) 0 0 (gIn (gW [bScene E a0 S0])) := by
  unfold wp_X3_isOpen at h
  refine g_of_z (by decide) (Nat.le_of_ble_eq_true rfl) ?_
  intro p e s m below meth c A Q hx hb hml hown ht hE hP hD hret ls hl
  have hK := hE.1
  have hS : va_S A s.heap s.heap [] := va_S.rf
  have hl : lv_has ls 1 [(0, .ref (a0 99))] := hl
  refine lv_aload_n hx hb dX3_isOpen_0 rfl (lv_at hl 0 rfl) ?_
  refine va_get (D := (E.1, E.2.1)) (ci := 3) (v := .int (S0.1 4)) (C := RX3) (T := TX3) (N := 5) hx hb ht wu_X3 hown hK hP 0 rfl rfl 4 (by decide) (ht _ wk_X3_24) (fun _ h9 => h9) rfl dX3_isOpen_1 ?_
  refine lv_if_lt (tgt := 20) hx hb dX3_isOpen_4 (by decide) (fun c_1 => ?_) (fun c_1 => ?_)
  · have h := h.1 c_1
    refine lv_iconst (v := 0) hx hb dX3_isOpen_20 (by decide) ?_
    exact hret 0 () _ _ _ _ _ rfl h rfl hP hD hS dX3_isOpen_21
  · have h := h.2 c_1
    refine lv_aload_n hx hb dX3_isOpen_7 rfl (lv_at hl 0 rfl) ?_
    refine va_get (D := (E.1, E.2.1)) (ci := 3) (v := .int (S0.1 4)) (C := RX3) (T := TX3) (N := 5) hx hb ht wu_X3 hown hK hP 0 rfl rfl 4 (by decide) (ht _ wk_X3_24) (fun _ h9 => h9) rfl dX3_isOpen_8 ?_
    refine lv_bipush (v := 8) hx hb dX3_isOpen_11 (by decide) ?_
    refine lv_icmp_ge (tgt := 20) hx hb dX3_isOpen_13 (by decide) (fun c_2 => ?_) (fun c_2 => ?_)
    · have h := h.1 c_2
      refine lv_iconst (v := 0) hx hb dX3_isOpen_20 (by decide) ?_
      exact hret 0 () _ _ _ _ _ rfl h rfl hP hD hS dX3_isOpen_21
    · have h := h.2 c_2
      refine lv_iconst (v := 1) hx hb dX3_isOpen_16 (by decide) ?_
      refine lv_goto (tgt := 21) hx hb dX3_isOpen_17 (by decide) ?_
      exact hret 1 () _ _ _ _ _ rfl h rfl hP hD hS dX3_isOpen_21
theorem dX3_behindOf_0 : decode cX3_behindOf 0 = .ok (.iload_n 1, 1) := by decide +kernel
theorem dX3_behindOf_1 : decode cX3_behindOf 1 = .ok (.ifCond .lt 18, 3) := by decide +kernel
theorem dX3_behindOf_4 : decode cX3_behindOf 4 = .ok (.iload_n 1, 1) := by decide +kernel
theorem dX3_behindOf_5 : decode cX3_behindOf 5 = .ok (.bipush 8, 2) := by decide +kernel
theorem dX3_behindOf_7 : decode cX3_behindOf 7 = .ok (.if_icmp .ge 12, 3) := by decide +kernel
theorem dX3_behindOf_10 : decode cX3_behindOf 10 = .ok (.aload_n 0, 1) := by decide +kernel
theorem dX3_behindOf_11 : decode cX3_behindOf 11 = .ok (.getfield 21, 3) := by decide +kernel
theorem dX3_behindOf_14 : decode cX3_behindOf 14 = .ok (.iload_n 1, 1) := by decide +kernel
theorem dX3_behindOf_15 : decode cX3_behindOf 15 = .ok (.iaload, 1) := by decide +kernel
theorem dX3_behindOf_16 : decode cX3_behindOf 16 = .ok (.goto 5, 3) := by decide +kernel
theorem dX3_behindOf_19 : decode cX3_behindOf 19 = .ok (.bipush (-9), 2) := by decide +kernel
theorem dX3_behindOf_21 : decode cX3_behindOf 21 = .ok (.ireturn, 1) := by decide +kernel
set_option maxHeartbeats 4000000 in
set_option maxRecDepth 100000 in
theorem c_X3_behindOf (E : GE) (l : Launch) (a0 : Nat → Nat) (S0 : Ob) (x1 : Int32) (post : Int32 → Prop) (h : wp_X3_behindOf S0 x1 post) : Met l yX3_behindOf (wz yX3_behindOf cX3_behindOf 2 (some .int)) { frames := 0, cells := 0, slots := 0, locals := 0 } (gPc E [.ref (a0 99), .int x1] (gW [bScene E a0 S0])) (gQi E (gW [bScene E a0 S0]) (fun r (_ : Unit) => post r) (fun (_ : Unit) w => w = gW [bScene E a0 S0])) 0 0 (gIn (gW [bScene E a0 S0])) := by
  unfold wp_X3_behindOf at h
  refine g_of_i (by decide) (Nat.le_of_ble_eq_true rfl) ?_
  intro p e s m below meth c A Q hx hb hml hown ht hE hP hD hret ls hl
  have hK := hE.1
  have hS : va_S A s.heap s.heap [] := va_S.rf
  have hl : lv_has ls 2 [(0, .ref (a0 99)), (1, .int x1)] := hl
  refine lv_iload_n hx hb dX3_behindOf_0 rfl (lv_at hl 1 rfl) ?_
  refine lv_if_lt (tgt := 19) hx hb dX3_behindOf_1 (by decide) (fun c_1 => ?_) (fun c_1 => ?_)
  · have h := h.1 c_1
    refine lv_bipush (v := (-9)) hx hb dX3_behindOf_19 (by decide) ?_
    exact hret (-9) () _ _ _ _ _ h rfl hP hD hS dX3_behindOf_21
  · have h := h.2 c_1
    refine lv_iload_n hx hb dX3_behindOf_4 rfl (lv_at hl 1 rfl) ?_
    refine lv_bipush (v := 8) hx hb dX3_behindOf_5 (by decide) ?_
    refine lv_icmp_ge (tgt := 19) hx hb dX3_behindOf_7 (by decide) (fun c_2 => ?_) (fun c_2 => ?_)
    · have h := h.1 c_2
      refine lv_bipush (v := (-9)) hx hb dX3_behindOf_19 (by decide) ?_
      exact hret (-9) () _ _ _ _ _ h rfl hP hD hS dX3_behindOf_21
    · have h := h.2 c_2
      refine lv_aload_n hx hb dX3_behindOf_10 rfl (lv_at hl 0 rfl) ?_
      refine va_get (D := (E.1, E.2.1)) (ci := 3) (v := .ref (a0 3)) (C := RX3) (T := TX3) (N := 5) hx hb ht wu_X3 hown hK hP 0 rfl rfl 3 (by decide) (ht _ wk_X3_21) (fun _ h9 => h9) rfl dX3_behindOf_11 ?_
      refine lv_iload_n hx hb dX3_behindOf_14 rfl (lv_at hl 1 rfl) ?_
      refine va_iald hx hb hK hP 4 0 rfl rfl h.1 dX3_behindOf_15 ?_
      have h := h.2
      refine lv_goto (tgt := 21) hx hb dX3_behindOf_16 (by decide) ?_
      exact hret (S0.2 3 x1.toNatClampNeg) () _ _ _ _ _ h rfl hP hD hS dX3_behindOf_21
theorem dX3_inRing_0 : decode cX3_inRing 0 = .ok (.aload_n 0, 1) := by decide +kernel
theorem dX3_inRing_1 : decode cX3_inRing 1 = .ok (.iload_n 1, 1) := by decide +kernel
theorem dX3_inRing_2 : decode cX3_inRing 2 = .ok (.invokevirtual 47, 3) := by decide +kernel
theorem dX3_inRing_5 : decode cX3_inRing 5 = .ok (.bipush (-9), 2) := by decide +kernel
theorem dX3_inRing_7 : decode cX3_inRing 7 = .ok (.if_icmp .eq 7, 3) := by decide +kernel
theorem dX3_inRing_10 : decode cX3_inRing 10 = .ok (.iconst 1, 1) := by decide +kernel
theorem dX3_inRing_11 : decode cX3_inRing 11 = .ok (.goto 4, 3) := by decide +kernel
theorem dX3_inRing_14 : decode cX3_inRing 14 = .ok (.iconst 0, 1) := by decide +kernel
theorem dX3_inRing_15 : decode cX3_inRing 15 = .ok (.ireturn, 1) := by decide +kernel
set_option maxHeartbeats 4000000 in
set_option maxRecDepth 100000 in
theorem c_X3_inRing (E : GE) (l : Launch) (a0 : Nat → Nat) (S0 : Ob) (x1 : Int32) (post : Int32 → Prop) (h : wp_X3_inRing S0 x1 post) : Met l yX3_inRing (wz yX3_inRing cX3_inRing 2 (some .boolean)) { frames := 1, cells := 0, slots := 0, locals := 21 } (gPc E [.ref (a0 99), .int x1] (gW [bScene E a0 S0])) (gQi E (gW [bScene E a0 S0]) (fun r (_ : Unit) => post r) (fun (_ : Unit) w => w = gW [bScene E a0 S0])) 0 0 (gIn (gW [bScene E a0 S0])) := by
  unfold wp_X3_inRing at h
  refine g_of_z (by decide) (Nat.le_of_ble_eq_true rfl) ?_
  intro p e s m below meth c A Q hx hb hml hown ht hE hP hD hret ls hl
  have hK := hE.1
  have hS : va_S A s.heap s.heap [] := va_S.rf
  have hl : lv_has ls 2 [(0, .ref (a0 99)), (1, .int x1)] := hl
  refine lv_aload_n hx hb dX3_inRing_0 rfl (lv_at hl 0 rfl) ?_
  refine lv_iload_n hx hb dX3_inRing_1 rfl (lv_at hl 1 rfl) ?_
  have p1 := gB (n := 1) (bs := [bScene E a0 S0]) (bc := [bScene E a0 S0]) (br := []) [0] rfl rfl (by decide)
  refine g_i (g_runV (As := [.int x1]) (rest := []) ⟨hx, hb, hml, hown, ht⟩ hE (c_X3_behindOf E l a0 S0 x1 _ h) ⟨rfl, rfl⟩ wk_X3_47 wi_X3_behindOf ws_X3_behindOf wn_X3 wc_X3_behindOf yd_X3_behindOf ⟨Nat.le_of_ble_eq_true rfl, Nat.le_of_ble_eq_true rfl⟩ hP hD p1 (ci := 3) rfl rfl rfl rfl rfl hl.1 rfl (lv_room (Nat.le_of_ble_eq_true rfl)) dX3_inRing_2 ⟨Nat.zero_le _, Nat.zero_le _⟩) hP hD hS p1 (fun r_1 _ w H locs h hw hP hD hS => ?_)
  subst hw
  clear p1
  have p2 := gB (n := 1) (bs := [bScene E a0 S0]) (bc := [bScene E a0 S0]) (br := []) [0] rfl rfl (by decide)
  have hP := gP_perm p2.symm hP
  have hD := gD_perm p2.symm hD
  clear p2
  refine lv_bipush (v := (-9)) hx hb dX3_inRing_5 (by decide) ?_
  refine lv_icmp_eq (tgt := 14) hx hb dX3_inRing_7 (by decide) (fun c_2 => ?_) (fun c_2 => ?_)
  · have h := h.1 c_2
    refine lv_iconst (v := 0) hx hb dX3_inRing_14 (by decide) ?_
    exact hret 0 () _ _ _ _ _ rfl h rfl hP hD hS dX3_inRing_15
  · have h := h.2 c_2
    refine lv_iconst (v := 1) hx hb dX3_inRing_10 (by decide) ?_
    refine lv_goto (tgt := 15) hx hb dX3_inRing_11 (by decide) ?_
    exact hret 1 () _ _ _ _ _ rfl h rfl hP hD hS dX3_inRing_15
theorem dX3_ringBits_0 : decode cX3_ringBits 0 = .ok (.iconst 0, 1) := by decide +kernel
theorem dX3_ringBits_1 : decode cX3_ringBits 1 = .ok (.istore_n 1, 1) := by decide +kernel
theorem dX3_ringBits_2 : decode cX3_ringBits 2 = .ok (.iconst 0, 1) := by decide +kernel
theorem dX3_ringBits_3 : decode cX3_ringBits 3 = .ok (.istore_n 2, 1) := by decide +kernel
theorem dX3_ringBits_4 : decode cX3_ringBits 4 = .ok (.iload_n 2, 1) := by decide +kernel
theorem dX3_ringBits_5 : decode cX3_ringBits 5 = .ok (.bipush 8, 2) := by decide +kernel
theorem dX3_ringBits_7 : decode cX3_ringBits 7 = .ok (.if_icmp .ge 23, 3) := by decide +kernel
theorem dX3_ringBits_10 : decode cX3_ringBits 10 = .ok (.aload_n 0, 1) := by decide +kernel
theorem dX3_ringBits_11 : decode cX3_ringBits 11 = .ok (.iload_n 2, 1) := by decide +kernel
theorem dX3_ringBits_12 : decode cX3_ringBits 12 = .ok (.invokevirtual 51, 3) := by decide +kernel
theorem dX3_ringBits_15 : decode cX3_ringBits 15 = .ok (.ifCond .eq 9, 3) := by decide +kernel
theorem dX3_ringBits_18 : decode cX3_ringBits 18 = .ok (.iload_n 1, 1) := by decide +kernel
theorem dX3_ringBits_19 : decode cX3_ringBits 19 = .ok (.iconst 1, 1) := by decide +kernel
theorem dX3_ringBits_20 : decode cX3_ringBits 20 = .ok (.iload_n 2, 1) := by decide +kernel
theorem dX3_ringBits_21 : decode cX3_ringBits 21 = .ok (.ishl, 1) := by decide +kernel
theorem dX3_ringBits_22 : decode cX3_ringBits 22 = .ok (.ior, 1) := by decide +kernel
theorem dX3_ringBits_23 : decode cX3_ringBits 23 = .ok (.istore_n 1, 1) := by decide +kernel
theorem dX3_ringBits_24 : decode cX3_ringBits 24 = .ok (.iinc 2 1, 3) := by decide +kernel
theorem dX3_ringBits_27 : decode cX3_ringBits 27 = .ok (.goto (-23), 3) := by decide +kernel
theorem dX3_ringBits_30 : decode cX3_ringBits 30 = .ok (.iload_n 1, 1) := by decide +kernel
theorem dX3_ringBits_31 : decode cX3_ringBits 31 = .ok (.ireturn, 1) := by decide +kernel
set_option maxHeartbeats 4000000 in
set_option maxRecDepth 100000 in
theorem c_X3_ringBits (E : GE) (l : Launch) (a0 : Nat → Nat) (S0 : Ob) (post : Int32 → Prop) (h : wp_X3_ringBits S0 post) : Met l yX3_ringBits (wz yX3_ringBits cX3_ringBits 3 (some .int)) { frames := 2, cells := 0, slots := 0, locals := 42 } (gPc E [.ref (a0 99)] (gW [bScene E a0 S0])) (gQi E (gW [bScene E a0 S0]) (fun r (_ : Unit) => post r) (fun (_ : Unit) w => w = gW [bScene E a0 S0])) 0 0 (gIn (gW [bScene E a0 S0])) := by
  unfold wp_X3_ringBits at h
  refine g_of_i (by decide) (Nat.le_of_ble_eq_true rfl) ?_
  intro p e s m below meth c A Q hx hb hml hown ht hE hP hD hret ls hl
  have hK := hE.1
  have hS : va_S A s.heap s.heap [] := va_S.rf
  have hl : lv_has ls 3 [(0, .ref (a0 99))] := hl
  refine lv_iconst (v := 0) hx hb dX3_ringBits_0 (by decide) ?_
  refine lv_istore_n (lv' := [(1, .int 0), (0, .ref (a0 99))]) hx hb dX3_ringBits_1 rfl hl (by decide) rfl (fun ls hl => ?_)
  refine lv_iconst (v := 0) hx hb dX3_ringBits_2 (by decide) ?_
  refine lv_istore_n (lv' := [(2, .int 0), (1, .int 0), (0, .ref (a0 99))]) hx hb dX3_ringBits_3 rfl hl (by decide) rfl (fun ls hl => ?_)
  have L4 : ∀ (n4 : Nat) (x1_4 : Int32) (x2_4 : Int32) (H : Heap) (locs : List Loc) (ls : Array Slot), wp_X3_ringBits_L4 post S0 n4 x1_4 x2_4 → gP E (gW [bScene E a0 S0]) H → va_D A (gW [bScene E a0 S0]) → va_S A s.heap H locs → lv_has ls 3 [(0, .ref (a0 99)), (1, .int x1_4), (2, .int x2_4)] → W p l e { frames := 2, cells := 0, slots := 0, locals := 42 } s m ([.ref (a0 99)] : List Value).toArray below meth c H locs 0 0 Q (F0 m 4 ls []) := by
    intro n4
    induction n4 with
    | zero => intro x1_4 x2_4 H locs ls h; exact h.elim
    | succ n4 ih4 =>
      intro x1_4 x2_4 H locs ls h hP hD hS hl
      rw [wp_X3_ringBits_L4] at h
      refine lv_iload_n hx hb dX3_ringBits_4 rfl (lv_at hl 2 rfl) ?_
      refine lv_bipush (v := 8) hx hb dX3_ringBits_5 (by decide) ?_
      refine lv_icmp_ge (tgt := 30) hx hb dX3_ringBits_7 (by decide) (fun c_4 => ?_) (fun c_4 => ?_)
      · have h := h.1 c_4
        refine lv_iload_n hx hb dX3_ringBits_30 rfl (lv_at hl 1 rfl) ?_
        exact hret x1_4 () _ _ _ _ _ h rfl hP hD hS dX3_ringBits_31
      · have h := h.2 c_4
        refine lv_aload_n hx hb dX3_ringBits_10 rfl (lv_at hl 0 rfl) ?_
        refine lv_iload_n hx hb dX3_ringBits_11 rfl (lv_at hl 2 rfl) ?_
        have p1 := gB (n := 1) (bs := [bScene E a0 S0]) (bc := [bScene E a0 S0]) (br := []) [0] rfl rfl (by decide)
        refine g_i (g_runV (As := [.int x2_4]) (rest := []) ⟨hx, hb, hml, hown, ht⟩ hE (c_X3_inRing E l a0 S0 x2_4 _ h) ⟨rfl, rfl⟩ wk_X3_51 wi_X3_inRing ws_X3_inRing wn_X3 wc_X3_inRing yd_X3_inRing ⟨Nat.le_of_ble_eq_true rfl, Nat.le_of_ble_eq_true rfl⟩ hP hD p1 (ci := 3) rfl rfl rfl rfl rfl hl.1 rfl (lv_room (Nat.le_of_ble_eq_true rfl)) dX3_ringBits_12 ⟨Nat.zero_le _, Nat.zero_le _⟩) hP hD hS p1 (fun r_5 _ w H locs h hw hP hD hS => ?_)
        subst hw
        clear p1
        have p2 := gB (n := 1) (bs := [bScene E a0 S0]) (bc := [bScene E a0 S0]) (br := []) [0] rfl rfl (by decide)
        have hP := gP_perm p2.symm hP
        have hD := gD_perm p2.symm hD
        clear p2
        refine lv_if_eq (tgt := 24) hx hb dX3_ringBits_15 (by decide) (fun c_6 => ?_) (fun c_6 => ?_)
        · have h := h.1 c_6
          refine lv_iinc (v := (x2_4 + 1)) (lv' := [(2, .int (x2_4 + 1)), (0, .ref (a0 99)), (1, .int x1_4)]) hx hb dX3_ringBits_24 hl (k := 2) rfl rfl (by decide) rfl (fun ls hl => ?_)
          refine lv_goto (tgt := 4) hx hb dX3_ringBits_27 (by decide) ?_
          exact ih4 x1_4 (x2_4 + 1) _ _ _ h hP hD hS (lv_sub hl [1, 2, 0] rfl)
        · have h := h.2 c_6
          refine lv_iload_n hx hb dX3_ringBits_18 rfl (lv_at hl 1 rfl) ?_
          refine lv_iconst (v := 1) hx hb dX3_ringBits_19 (by decide) ?_
          refine lv_iload_n hx hb dX3_ringBits_20 rfl (lv_at hl 2 rfl) ?_
          refine lv_ishl hx hb dX3_ringBits_21 ?_
          refine lv_ior hx hb dX3_ringBits_22 ?_
          refine lv_istore_n (lv' := [(1, .int (x1_4 ||| ((1 : Int32) <<< (x2_4 &&& 31)))), (0, .ref (a0 99)), (2, .int x2_4)]) hx hb dX3_ringBits_23 rfl hl (by decide) rfl (fun ls hl => ?_)
          refine lv_iinc (v := (x2_4 + 1)) (lv' := [(2, .int (x2_4 + 1)), (1, .int (x1_4 ||| ((1 : Int32) <<< (x2_4 &&& 31)))), (0, .ref (a0 99))]) hx hb dX3_ringBits_24 hl (k := 2) rfl rfl (by decide) rfl (fun ls hl => ?_)
          refine lv_goto (tgt := 4) hx hb dX3_ringBits_27 (by decide) ?_
          exact ih4 (x1_4 ||| ((1 : Int32) <<< (x2_4 &&& 31))) (x2_4 + 1) _ _ _ h hP hD hS (lv_sub hl [2, 1, 0] rfl)
  obtain ⟨n4, h⟩ := h
  exact L4 n4 0 0 _ _ _ h hP hD hS (lv_sub hl [2, 1, 0] rfl)
theorem dX3_ringSize_0 : decode cX3_ringSize 0 = .ok (.aload_n 0, 1) := by decide +kernel
theorem dX3_ringSize_1 : decode cX3_ringSize 1 = .ok (.invokevirtual 55, 3) := by decide +kernel
theorem dX3_ringSize_4 : decode cX3_ringSize 4 = .ok (.invokestatic 59, 3) := by decide +kernel
theorem dX3_ringSize_7 : decode cX3_ringSize 7 = .ok (.ireturn, 1) := by decide +kernel
set_option maxHeartbeats 4000000 in
set_option maxRecDepth 100000 in
theorem c_X3_ringSize (E : GE) (l : Launch) (a0 : Nat → Nat) (S0 : Ob) (post : Int32 → Prop) (h : wp_X3_ringSize S0 post) : Met l yX3_ringSize (wz yX3_ringSize cX3_ringSize 1 (some .int)) { frames := 3, cells := 0, slots := 0, locals := 64 } (gPc E [.ref (a0 99)] (gW [bScene E a0 S0])) (gQi E (gW [bScene E a0 S0]) (fun r (_ : Unit) => post r) (fun (_ : Unit) w => w = gW [bScene E a0 S0])) 0 0 (gIn (gW [bScene E a0 S0])) := by
  unfold wp_X3_ringSize at h
  refine g_of_i (by decide) (Nat.le_of_ble_eq_true rfl) ?_
  intro p e s m below meth c A Q hx hb hml hown ht hE hP hD hret ls hl
  have hK := hE.1
  have hS : va_S A s.heap s.heap [] := va_S.rf
  have hl : lv_has ls 1 [(0, .ref (a0 99))] := hl
  refine lv_aload_n hx hb dX3_ringSize_0 rfl (lv_at hl 0 rfl) ?_
  have p1 := gB (n := 1) (bs := [bScene E a0 S0]) (bc := [bScene E a0 S0]) (br := []) [0] rfl rfl (by decide)
  refine g_i (g_runV (As := []) (rest := []) ⟨hx, hb, hml, hown, ht⟩ hE (c_X3_ringBits E l a0 S0 _ h) ⟨rfl, rfl⟩ wk_X3_55 wi_X3_ringBits ws_X3_ringBits wn_X3 wc_X3_ringBits yd_X3_ringBits ⟨Nat.le_of_ble_eq_true rfl, Nat.le_of_ble_eq_true rfl⟩ hP hD p1 (ci := 3) rfl rfl rfl rfl rfl hl.1 rfl (lv_room (Nat.le_of_ble_eq_true rfl)) dX3_ringSize_1 ⟨Nat.zero_le _, Nat.zero_le _⟩) hP hD hS p1 (fun r_1 _ w H locs h hw hP hD hS => ?_)
  subst hw
  clear p1
  have p2 := gB (n := 1) (bs := [bScene E a0 S0]) (bc := [bScene E a0 S0]) (br := []) [0] rfl rfl (by decide)
  have hP := gP_perm p2.symm hP
  have hD := gD_perm p2.symm hD
  clear p2
  have p1 := gB (n := 1) (bs := [bScene E a0 S0]) (bc := []) (br := [bScene E a0 S0]) [0] rfl rfl (by decide)
  refine g_i (g_runS (As := [.int r_1]) (rest := []) ⟨hx, hb, hml, hown, ht⟩ hE (c_J6_bitCount_0f7a4 E l r_1 _ h) ⟨rfl, rfl⟩ wk_X3_59 wt_J6_bitCount_0f7a4 wn_J6 wc_J6_bitCount_0f7a4 yd_J6_bitCount_0f7a4 ⟨Nat.le_of_ble_eq_true rfl, Nat.le_of_ble_eq_true rfl⟩ hP hD p1 rfl rfl hl.1 rfl (lv_room (Nat.le_of_ble_eq_true rfl)) dX3_ringSize_4 ⟨Nat.zero_le _, Nat.zero_le _⟩) hP hD hS p1 (fun r_2 _ w H locs h hw hP hD hS => ?_)
  subst hw
  clear p1
  have p2 := gB (n := 1) (bs := [bScene E a0 S0]) (bc := []) (br := [bScene E a0 S0]) [0] rfl rfl (by decide)
  have hP := gP_perm p2.symm hP
  have hD := gD_perm p2.symm hD
  clear p2
  exact hret r_2 () _ _ _ _ _ h rfl hP hD hS dX3_ringSize_7
theorem dX3_knows_0 : decode cX3_knows 0 = .ok (.aload_n 0, 1) := by decide +kernel
theorem dX3_knows_1 : decode cX3_knows 1 = .ok (.getfield 18, 3) := by decide +kernel
theorem dX3_knows_4 : decode cX3_knows 4 = .ok (.iload_n 2, 1) := by decide +kernel
theorem dX3_knows_5 : decode cX3_knows 5 = .ok (.iaload, 1) := by decide +kernel
theorem dX3_knows_6 : decode cX3_knows 6 = .ok (.iload_n 1, 1) := by decide +kernel
theorem dX3_knows_7 : decode cX3_knows 7 = .ok (.invokestatic 64, 3) := by decide +kernel
theorem dX3_knows_10 : decode cX3_knows 10 = .ok (.ireturn, 1) := by decide +kernel
set_option maxHeartbeats 4000000 in
set_option maxRecDepth 100000 in
theorem c_X3_knows (E : GE) (l : Launch) (a0 : Nat → Nat) (S0 : Ob) (x1 : Int32) (x2 : Int32) (post : Int32 → Prop) (h : wp_X3_knows S0 x1 x2 post) : Met l yX3_knows (wz yX3_knows cX3_knows 3 (some .boolean)) { frames := 1, cells := 0, slots := 0, locals := 21 } (gPc E [.ref (a0 99), .int x1, .int x2] (gW [bScene E a0 S0])) (gQi E (gW [bScene E a0 S0]) (fun r (_ : Unit) => post r) (fun (_ : Unit) w => w = gW [bScene E a0 S0])) 0 0 (gIn (gW [bScene E a0 S0])) := by
  unfold wp_X3_knows at h
  refine g_of_z (by decide) (Nat.le_of_ble_eq_true rfl) ?_
  intro p e s m below meth c A Q hx hb hml hown ht hE hP hD hret ls hl
  have hK := hE.1
  have hS : va_S A s.heap s.heap [] := va_S.rf
  have hl : lv_has ls 3 [(0, .ref (a0 99)), (1, .int x1), (2, .int x2)] := hl
  refine lv_aload_n hx hb dX3_knows_0 rfl (lv_at hl 0 rfl) ?_
  refine va_get (D := (E.1, E.2.1)) (ci := 3) (v := .ref (a0 2)) (C := RX3) (T := TX3) (N := 5) hx hb ht wu_X3 hown hK hP 0 rfl rfl 2 (by decide) (ht _ wk_X3_18) (fun _ h9 => h9) rfl dX3_knows_1 ?_
  refine lv_iload_n hx hb dX3_knows_4 rfl (lv_at hl 2 rfl) ?_
  refine va_iald hx hb hK hP 3 0 rfl rfl h.1 dX3_knows_5 ?_
  have h := h.2
  refine lv_iload_n hx hb dX3_knows_6 rfl (lv_at hl 1 rfl) ?_
  have p1 := gB (n := 1) (bs := [bScene E a0 S0]) (bc := []) (br := [bScene E a0 S0]) [0] rfl rfl (by decide)
  refine g_i (g_runSN (As := [.int (S0.2 2 x2.toNatClampNeg), .int x1]) (rest := []) ⟨hx, hb, hml, hown, ht⟩ hE (c_X5_hasBit E l (S0.2 2 x2.toNatClampNeg) x1 _ h) ⟨rfl, rfl⟩ hE.2.1.2.2.2.1 wt_X5_hasBit wn_X5 wc_X5_hasBit yd_X5_hasBit ⟨Nat.le_of_ble_eq_true rfl, Nat.le_of_ble_eq_true rfl⟩ hP hD p1 rfl rfl hl.1 rfl (lv_room (Nat.le_of_ble_eq_true rfl)) dX3_knows_7 ⟨Nat.zero_le _, Nat.zero_le _⟩) hP hD hS p1 (fun r_1 _ w H locs h hw hP hD hS => ?_)
  subst hw
  clear p1
  have p2 := gB (n := 1) (bs := [bScene E a0 S0]) (bc := []) (br := [bScene E a0 S0]) [0] rfl rfl (by decide)
  have hP := gP_perm p2.symm hP
  have hD := gD_perm p2.symm hD
  clear p2
  exact hret r_1 () _ _ _ _ _ h.1 h.2 rfl hP hD hS dX3_knows_10
theorem dX3_knowerCount_0 : decode cX3_knowerCount 0 = .ok (.aload_n 0, 1) := by decide +kernel
theorem dX3_knowerCount_1 : decode cX3_knowerCount 1 = .ok (.getfield 18, 3) := by decide +kernel
theorem dX3_knowerCount_4 : decode cX3_knowerCount 4 = .ok (.iload_n 1, 1) := by decide +kernel
theorem dX3_knowerCount_5 : decode cX3_knowerCount 5 = .ok (.iaload, 1) := by decide +kernel
theorem dX3_knowerCount_6 : decode cX3_knowerCount 6 = .ok (.invokestatic 59, 3) := by decide +kernel
theorem dX3_knowerCount_9 : decode cX3_knowerCount 9 = .ok (.ireturn, 1) := by decide +kernel
set_option maxHeartbeats 4000000 in
set_option maxRecDepth 100000 in
theorem c_X3_knowerCount (E : GE) (l : Launch) (a0 : Nat → Nat) (S0 : Ob) (x1 : Int32) (post : Int32 → Prop) (h : wp_X3_knowerCount S0 x1 post) : Met l yX3_knowerCount (wz yX3_knowerCount cX3_knowerCount 2 (some .int)) { frames := 1, cells := 0, slots := 0, locals := 20 } (gPc E [.ref (a0 99), .int x1] (gW [bScene E a0 S0])) (gQi E (gW [bScene E a0 S0]) (fun r (_ : Unit) => post r) (fun (_ : Unit) w => w = gW [bScene E a0 S0])) 0 0 (gIn (gW [bScene E a0 S0])) := by
  unfold wp_X3_knowerCount at h
  refine g_of_i (by decide) (Nat.le_of_ble_eq_true rfl) ?_
  intro p e s m below meth c A Q hx hb hml hown ht hE hP hD hret ls hl
  have hK := hE.1
  have hS : va_S A s.heap s.heap [] := va_S.rf
  have hl : lv_has ls 2 [(0, .ref (a0 99)), (1, .int x1)] := hl
  refine lv_aload_n hx hb dX3_knowerCount_0 rfl (lv_at hl 0 rfl) ?_
  refine va_get (D := (E.1, E.2.1)) (ci := 3) (v := .ref (a0 2)) (C := RX3) (T := TX3) (N := 5) hx hb ht wu_X3 hown hK hP 0 rfl rfl 2 (by decide) (ht _ wk_X3_18) (fun _ h9 => h9) rfl dX3_knowerCount_1 ?_
  refine lv_iload_n hx hb dX3_knowerCount_4 rfl (lv_at hl 1 rfl) ?_
  refine va_iald hx hb hK hP 3 0 rfl rfl h.1 dX3_knowerCount_5 ?_
  have h := h.2
  have p1 := gB (n := 1) (bs := [bScene E a0 S0]) (bc := []) (br := [bScene E a0 S0]) [0] rfl rfl (by decide)
  refine g_i (g_runS (As := [.int (S0.2 2 x1.toNatClampNeg)]) (rest := []) ⟨hx, hb, hml, hown, ht⟩ hE (c_J6_bitCount_0f7a4 E l (S0.2 2 x1.toNatClampNeg) _ h) ⟨rfl, rfl⟩ wk_X3_59 wt_J6_bitCount_0f7a4 wn_J6 wc_J6_bitCount_0f7a4 yd_J6_bitCount_0f7a4 ⟨Nat.le_of_ble_eq_true rfl, Nat.le_of_ble_eq_true rfl⟩ hP hD p1 rfl rfl hl.1 rfl (lv_room (Nat.le_of_ble_eq_true rfl)) dX3_knowerCount_6 ⟨Nat.zero_le _, Nat.zero_le _⟩) hP hD hS p1 (fun r_1 _ w H locs h hw hP hD hS => ?_)
  subst hw
  clear p1
  have p2 := gB (n := 1) (bs := [bScene E a0 S0]) (bc := []) (br := [bScene E a0 S0]) [0] rfl rfl (by decide)
  have hP := gP_perm p2.symm hP
  have hD := gD_perm p2.symm hD
  clear p2
  exact hret r_1 () _ _ _ _ _ h rfl hP hD hS dX3_knowerCount_9
theorem dX3_stepsOf_0 : decode cX3_stepsOf 0 = .ok (.aload_n 0, 1) := by decide +kernel
theorem dX3_stepsOf_1 : decode cX3_stepsOf 1 = .ok (.getfield 15, 3) := by decide +kernel
theorem dX3_stepsOf_4 : decode cX3_stepsOf 4 = .ok (.iload_n 1, 1) := by decide +kernel
theorem dX3_stepsOf_5 : decode cX3_stepsOf 5 = .ok (.iaload, 1) := by decide +kernel
theorem dX3_stepsOf_6 : decode cX3_stepsOf 6 = .ok (.aload_n 0, 1) := by decide +kernel
theorem dX3_stepsOf_7 : decode cX3_stepsOf 7 = .ok (.getfield 9, 3) := by decide +kernel
theorem dX3_stepsOf_10 : decode cX3_stepsOf 10 = .ok (.iload_n 1, 1) := by decide +kernel
theorem dX3_stepsOf_11 : decode cX3_stepsOf 11 = .ok (.iaload, 1) := by decide +kernel
theorem dX3_stepsOf_12 : decode cX3_stepsOf 12 = .ok (.invokestatic 68, 3) := by decide +kernel
theorem dX3_stepsOf_15 : decode cX3_stepsOf 15 = .ok (.ireturn, 1) := by decide +kernel
set_option maxHeartbeats 4000000 in
set_option maxRecDepth 100000 in
theorem c_X3_stepsOf (E : GE) (l : Launch) (a0 : Nat → Nat) (S0 : Ob) (x1 : Int32) (post : Int32 → Prop) (h : wp_X3_stepsOf S0 x1 post) : Met l yX3_stepsOf (wz yX3_stepsOf cX3_stepsOf 2 (some .int)) { frames := 3, cells := 0, slots := 0, locals := 64 } (gPc E [.ref (a0 99), .int x1] (gW [bScene E a0 S0])) (gQi E (gW [bScene E a0 S0]) (fun r (_ : Unit) => post r) (fun (_ : Unit) w => w = gW [bScene E a0 S0])) 0 0 (gIn (gW [bScene E a0 S0])) := by
  unfold wp_X3_stepsOf at h
  refine g_of_i (by decide) (Nat.le_of_ble_eq_true rfl) ?_
  intro p e s m below meth c A Q hx hb hml hown ht hE hP hD hret ls hl
  have hK := hE.1
  have hS : va_S A s.heap s.heap [] := va_S.rf
  have hl : lv_has ls 2 [(0, .ref (a0 99)), (1, .int x1)] := hl
  refine lv_aload_n hx hb dX3_stepsOf_0 rfl (lv_at hl 0 rfl) ?_
  refine va_get (D := (E.1, E.2.1)) (ci := 3) (v := .ref (a0 1)) (C := RX3) (T := TX3) (N := 5) hx hb ht wu_X3 hown hK hP 0 rfl rfl 1 (by decide) (ht _ wk_X3_15) (fun _ h9 => h9) rfl dX3_stepsOf_1 ?_
  refine lv_iload_n hx hb dX3_stepsOf_4 rfl (lv_at hl 1 rfl) ?_
  refine va_iald hx hb hK hP 2 0 rfl rfl h.1 dX3_stepsOf_5 ?_
  have h := h.2
  refine lv_aload_n hx hb dX3_stepsOf_6 rfl (lv_at hl 0 rfl) ?_
  refine va_get (D := (E.1, E.2.1)) (ci := 3) (v := .ref (a0 0)) (C := RX3) (T := TX3) (N := 5) hx hb ht wu_X3 hown hK hP 0 rfl rfl 0 (by decide) (ht _ wk_X3_9) (fun _ h9 => h9) rfl dX3_stepsOf_7 ?_
  refine lv_iload_n hx hb dX3_stepsOf_10 rfl (lv_at hl 1 rfl) ?_
  refine va_iald hx hb hK hP 1 0 rfl rfl h.1 dX3_stepsOf_11 ?_
  have h := h.2
  have p1 := gB (n := 1) (bs := [bScene E a0 S0]) (bc := []) (br := [bScene E a0 S0]) [0] rfl rfl (by decide)
  refine g_i (g_runSN (As := [.int (S0.2 1 x1.toNatClampNeg), .int (S0.2 0 x1.toNatClampNeg)]) (rest := []) ⟨hx, hb, hml, hown, ht⟩ hE (c_X5_stepsBetween E l (S0.2 1 x1.toNatClampNeg) (S0.2 0 x1.toNatClampNeg) _ h) ⟨rfl, rfl⟩ hE.2.1.2.2.1 wt_X5_stepsBetween wn_X5 wc_X5_stepsBetween yd_X5_stepsBetween ⟨Nat.le_of_ble_eq_true rfl, Nat.le_of_ble_eq_true rfl⟩ hP hD p1 rfl rfl hl.1 rfl (lv_room (Nat.le_of_ble_eq_true rfl)) dX3_stepsOf_12 ⟨Nat.zero_le _, Nat.zero_le _⟩) hP hD hS p1 (fun r_1 _ w H locs h hw hP hD hS => ?_)
  subst hw
  clear p1
  have p2 := gB (n := 1) (bs := [bScene E a0 S0]) (bc := []) (br := [bScene E a0 S0]) [0] rfl rfl (by decide)
  have hP := gP_perm p2.symm hP
  have hD := gD_perm p2.symm hD
  clear p2
  exact hret r_1 () _ _ _ _ _ h rfl hP hD hS dX3_stepsOf_15
theorem dX3_knownBy_0 : decode cX3_knownBy 0 = .ok (.iconst 0, 1) := by decide +kernel
theorem dX3_knownBy_1 : decode cX3_knownBy 1 = .ok (.istore_n 2, 1) := by decide +kernel
theorem dX3_knownBy_2 : decode cX3_knownBy 2 = .ok (.iconst 0, 1) := by decide +kernel
theorem dX3_knownBy_3 : decode cX3_knownBy 3 = .ok (.istore_n 3, 1) := by decide +kernel
theorem dX3_knownBy_4 : decode cX3_knownBy 4 = .ok (.iload_n 3, 1) := by decide +kernel
theorem dX3_knownBy_5 : decode cX3_knownBy 5 = .ok (.bipush 8, 2) := by decide +kernel
theorem dX3_knownBy_7 : decode cX3_knownBy 7 = .ok (.if_icmp .ge 26, 3) := by decide +kernel
theorem dX3_knownBy_10 : decode cX3_knownBy 10 = .ok (.aload_n 0, 1) := by decide +kernel
theorem dX3_knownBy_11 : decode cX3_knownBy 11 = .ok (.getfield 18, 3) := by decide +kernel
theorem dX3_knownBy_14 : decode cX3_knownBy 14 = .ok (.iload_n 3, 1) := by decide +kernel
theorem dX3_knownBy_15 : decode cX3_knownBy 15 = .ok (.iaload, 1) := by decide +kernel
theorem dX3_knownBy_16 : decode cX3_knownBy 16 = .ok (.iload_n 1, 1) := by decide +kernel
theorem dX3_knownBy_17 : decode cX3_knownBy 17 = .ok (.iand, 1) := by decide +kernel
theorem dX3_knownBy_18 : decode cX3_knownBy 18 = .ok (.ifCond .eq 9, 3) := by decide +kernel
theorem dX3_knownBy_21 : decode cX3_knownBy 21 = .ok (.iload_n 2, 1) := by decide +kernel
theorem dX3_knownBy_22 : decode cX3_knownBy 22 = .ok (.iconst 1, 1) := by decide +kernel
theorem dX3_knownBy_23 : decode cX3_knownBy 23 = .ok (.iload_n 3, 1) := by decide +kernel
theorem dX3_knownBy_24 : decode cX3_knownBy 24 = .ok (.ishl, 1) := by decide +kernel
theorem dX3_knownBy_25 : decode cX3_knownBy 25 = .ok (.ior, 1) := by decide +kernel
theorem dX3_knownBy_26 : decode cX3_knownBy 26 = .ok (.istore_n 2, 1) := by decide +kernel
theorem dX3_knownBy_27 : decode cX3_knownBy 27 = .ok (.iinc 3 1, 3) := by decide +kernel
theorem dX3_knownBy_30 : decode cX3_knownBy 30 = .ok (.goto (-26), 3) := by decide +kernel
theorem dX3_knownBy_33 : decode cX3_knownBy 33 = .ok (.iload_n 2, 1) := by decide +kernel
theorem dX3_knownBy_34 : decode cX3_knownBy 34 = .ok (.ireturn, 1) := by decide +kernel
set_option maxHeartbeats 4000000 in
set_option maxRecDepth 100000 in
theorem c_X3_knownBy (E : GE) (l : Launch) (a0 : Nat → Nat) (S0 : Ob) (x1 : Int32) (post : Int32 → Prop) (h : wp_X3_knownBy S0 x1 post) : Met l yX3_knownBy (wz yX3_knownBy cX3_knownBy 4 (some .int)) { frames := 0, cells := 0, slots := 0, locals := 0 } (gPc E [.ref (a0 99), .int x1] (gW [bScene E a0 S0])) (gQi E (gW [bScene E a0 S0]) (fun r (_ : Unit) => post r) (fun (_ : Unit) w => w = gW [bScene E a0 S0])) 0 0 (gIn (gW [bScene E a0 S0])) := by
  unfold wp_X3_knownBy at h
  refine g_of_i (by decide) (Nat.le_of_ble_eq_true rfl) ?_
  intro p e s m below meth c A Q hx hb hml hown ht hE hP hD hret ls hl
  have hK := hE.1
  have hS : va_S A s.heap s.heap [] := va_S.rf
  have hl : lv_has ls 4 [(0, .ref (a0 99)), (1, .int x1)] := hl
  refine lv_iconst (v := 0) hx hb dX3_knownBy_0 (by decide) ?_
  refine lv_istore_n (lv' := [(2, .int 0), (0, .ref (a0 99)), (1, .int x1)]) hx hb dX3_knownBy_1 rfl hl (by decide) rfl (fun ls hl => ?_)
  refine lv_iconst (v := 0) hx hb dX3_knownBy_2 (by decide) ?_
  refine lv_istore_n (lv' := [(3, .int 0), (2, .int 0), (0, .ref (a0 99)), (1, .int x1)]) hx hb dX3_knownBy_3 rfl hl (by decide) rfl (fun ls hl => ?_)
  have L4 : ∀ (n4 : Nat) (x2_4 : Int32) (x3_4 : Int32) (H : Heap) (locs : List Loc) (ls : Array Slot), wp_X3_knownBy_L4 post x1 S0 n4 x2_4 x3_4 → gP E (gW [bScene E a0 S0]) H → va_D A (gW [bScene E a0 S0]) → va_S A s.heap H locs → lv_has ls 4 [(0, .ref (a0 99)), (1, .int x1), (2, .int x2_4), (3, .int x3_4)] → W p l e { frames := 0, cells := 0, slots := 0, locals := 0 } s m ([.ref (a0 99), .int x1] : List Value).toArray below meth c H locs 0 0 Q (F0 m 4 ls []) := by
    intro n4
    induction n4 with
    | zero => intro x2_4 x3_4 H locs ls h; exact h.elim
    | succ n4 ih4 =>
      intro x2_4 x3_4 H locs ls h hP hD hS hl
      rw [wp_X3_knownBy_L4] at h
      refine lv_iload_n hx hb dX3_knownBy_4 rfl (lv_at hl 3 rfl) ?_
      refine lv_bipush (v := 8) hx hb dX3_knownBy_5 (by decide) ?_
      refine lv_icmp_ge (tgt := 33) hx hb dX3_knownBy_7 (by decide) (fun c_3 => ?_) (fun c_3 => ?_)
      · have h := h.1 c_3
        refine lv_iload_n hx hb dX3_knownBy_33 rfl (lv_at hl 2 rfl) ?_
        exact hret x2_4 () _ _ _ _ _ h rfl hP hD hS dX3_knownBy_34
      · have h := h.2 c_3
        refine lv_aload_n hx hb dX3_knownBy_10 rfl (lv_at hl 0 rfl) ?_
        refine va_get (D := (E.1, E.2.1)) (ci := 3) (v := .ref (a0 2)) (C := RX3) (T := TX3) (N := 5) hx hb ht wu_X3 hown hK hP 0 rfl rfl 2 (by decide) (ht _ wk_X3_18) (fun _ h9 => h9) rfl dX3_knownBy_11 ?_
        refine lv_iload_n hx hb dX3_knownBy_14 rfl (lv_at hl 3 rfl) ?_
        refine va_iald hx hb hK hP 3 0 rfl rfl h.1 dX3_knownBy_15 ?_
        have h := h.2
        refine lv_iload_n hx hb dX3_knownBy_16 rfl (lv_at hl 1 rfl) ?_
        refine lv_iand hx hb dX3_knownBy_17 ?_
        refine lv_if_eq (tgt := 27) hx hb dX3_knownBy_18 (by decide) (fun c_4 => ?_) (fun c_4 => ?_)
        · have h := h.1 c_4
          refine lv_iinc (v := (x3_4 + 1)) (lv' := [(3, .int (x3_4 + 1)), (0, .ref (a0 99)), (1, .int x1), (2, .int x2_4)]) hx hb dX3_knownBy_27 hl (k := 3) rfl rfl (by decide) rfl (fun ls hl => ?_)
          refine lv_goto (tgt := 4) hx hb dX3_knownBy_30 (by decide) ?_
          exact ih4 x2_4 (x3_4 + 1) _ _ _ h hP hD hS (lv_sub hl [1, 2, 3, 0] rfl)
        · have h := h.2 c_4
          refine lv_iload_n hx hb dX3_knownBy_21 rfl (lv_at hl 2 rfl) ?_
          refine lv_iconst (v := 1) hx hb dX3_knownBy_22 (by decide) ?_
          refine lv_iload_n hx hb dX3_knownBy_23 rfl (lv_at hl 3 rfl) ?_
          refine lv_ishl hx hb dX3_knownBy_24 ?_
          refine lv_ior hx hb dX3_knownBy_25 ?_
          refine lv_istore_n (lv' := [(2, .int (x2_4 ||| ((1 : Int32) <<< (x3_4 &&& 31)))), (0, .ref (a0 99)), (1, .int x1), (3, .int x3_4)]) hx hb dX3_knownBy_26 rfl hl (by decide) rfl (fun ls hl => ?_)
          refine lv_iinc (v := (x3_4 + 1)) (lv' := [(3, .int (x3_4 + 1)), (2, .int (x2_4 ||| ((1 : Int32) <<< (x3_4 &&& 31)))), (0, .ref (a0 99)), (1, .int x1)]) hx hb dX3_knownBy_27 hl (k := 3) rfl rfl (by decide) rfl (fun ls hl => ?_)
          refine lv_goto (tgt := 4) hx hb dX3_knownBy_30 (by decide) ?_
          exact ih4 (x2_4 ||| ((1 : Int32) <<< (x3_4 &&& 31))) (x3_4 + 1) _ _ _ h hP hD hS (lv_sub hl [2, 3, 1, 0] rfl)
  obtain ⟨n4, h⟩ := h
  exact L4 n4 0 0 _ _ _ h hP hD hS (lv_sub hl [2, 3, 1, 0] rfl)
theorem dX3_whoKnowsAny_0 : decode cX3_whoKnowsAny 0 = .ok (.iconst 0, 1) := by decide +kernel
theorem dX3_whoKnowsAny_1 : decode cX3_whoKnowsAny 1 = .ok (.istore_n 2, 1) := by decide +kernel
theorem dX3_whoKnowsAny_2 : decode cX3_whoKnowsAny 2 = .ok (.iconst 0, 1) := by decide +kernel
theorem dX3_whoKnowsAny_3 : decode cX3_whoKnowsAny 3 = .ok (.istore_n 3, 1) := by decide +kernel
theorem dX3_whoKnowsAny_4 : decode cX3_whoKnowsAny 4 = .ok (.iload_n 3, 1) := by decide +kernel
theorem dX3_whoKnowsAny_5 : decode cX3_whoKnowsAny 5 = .ok (.bipush 8, 2) := by decide +kernel
theorem dX3_whoKnowsAny_7 : decode cX3_whoKnowsAny 7 = .ok (.if_icmp .ge 26, 3) := by decide +kernel
theorem dX3_whoKnowsAny_10 : decode cX3_whoKnowsAny 10 = .ok (.iload_n 1, 1) := by decide +kernel
theorem dX3_whoKnowsAny_11 : decode cX3_whoKnowsAny 11 = .ok (.iload_n 3, 1) := by decide +kernel
theorem dX3_whoKnowsAny_12 : decode cX3_whoKnowsAny 12 = .ok (.invokestatic 64, 3) := by decide +kernel
theorem dX3_whoKnowsAny_15 : decode cX3_whoKnowsAny 15 = .ok (.ifCond .eq 12, 3) := by decide +kernel
theorem dX3_whoKnowsAny_18 : decode cX3_whoKnowsAny 18 = .ok (.iload_n 2, 1) := by decide +kernel
theorem dX3_whoKnowsAny_19 : decode cX3_whoKnowsAny 19 = .ok (.aload_n 0, 1) := by decide +kernel
theorem dX3_whoKnowsAny_20 : decode cX3_whoKnowsAny 20 = .ok (.getfield 18, 3) := by decide +kernel
theorem dX3_whoKnowsAny_23 : decode cX3_whoKnowsAny 23 = .ok (.iload_n 3, 1) := by decide +kernel
theorem dX3_whoKnowsAny_24 : decode cX3_whoKnowsAny 24 = .ok (.iaload, 1) := by decide +kernel
theorem dX3_whoKnowsAny_25 : decode cX3_whoKnowsAny 25 = .ok (.ior, 1) := by decide +kernel
theorem dX3_whoKnowsAny_26 : decode cX3_whoKnowsAny 26 = .ok (.istore_n 2, 1) := by decide +kernel
theorem dX3_whoKnowsAny_27 : decode cX3_whoKnowsAny 27 = .ok (.iinc 3 1, 3) := by decide +kernel
theorem dX3_whoKnowsAny_30 : decode cX3_whoKnowsAny 30 = .ok (.goto (-26), 3) := by decide +kernel
theorem dX3_whoKnowsAny_33 : decode cX3_whoKnowsAny 33 = .ok (.iload_n 2, 1) := by decide +kernel
theorem dX3_whoKnowsAny_34 : decode cX3_whoKnowsAny 34 = .ok (.ireturn, 1) := by decide +kernel
set_option maxHeartbeats 4000000 in
set_option maxRecDepth 100000 in
theorem c_X3_whoKnowsAny (E : GE) (l : Launch) (a0 : Nat → Nat) (S0 : Ob) (x1 : Int32) (post : Int32 → Prop) (h : wp_X3_whoKnowsAny S0 x1 post) : Met l yX3_whoKnowsAny (wz yX3_whoKnowsAny cX3_whoKnowsAny 4 (some .int)) { frames := 1, cells := 0, slots := 0, locals := 21 } (gPc E [.ref (a0 99), .int x1] (gW [bScene E a0 S0])) (gQi E (gW [bScene E a0 S0]) (fun r (_ : Unit) => post r) (fun (_ : Unit) w => w = gW [bScene E a0 S0])) 0 0 (gIn (gW [bScene E a0 S0])) := by
  unfold wp_X3_whoKnowsAny at h
  refine g_of_i (by decide) (Nat.le_of_ble_eq_true rfl) ?_
  intro p e s m below meth c A Q hx hb hml hown ht hE hP hD hret ls hl
  have hK := hE.1
  have hS : va_S A s.heap s.heap [] := va_S.rf
  have hl : lv_has ls 4 [(0, .ref (a0 99)), (1, .int x1)] := hl
  refine lv_iconst (v := 0) hx hb dX3_whoKnowsAny_0 (by decide) ?_
  refine lv_istore_n (lv' := [(2, .int 0), (0, .ref (a0 99)), (1, .int x1)]) hx hb dX3_whoKnowsAny_1 rfl hl (by decide) rfl (fun ls hl => ?_)
  refine lv_iconst (v := 0) hx hb dX3_whoKnowsAny_2 (by decide) ?_
  refine lv_istore_n (lv' := [(3, .int 0), (2, .int 0), (0, .ref (a0 99)), (1, .int x1)]) hx hb dX3_whoKnowsAny_3 rfl hl (by decide) rfl (fun ls hl => ?_)
  have L4 : ∀ (n4 : Nat) (x2_4 : Int32) (x3_4 : Int32) (H : Heap) (locs : List Loc) (ls : Array Slot), wp_X3_whoKnowsAny_L4 post x1 S0 n4 x2_4 x3_4 → gP E (gW [bScene E a0 S0]) H → va_D A (gW [bScene E a0 S0]) → va_S A s.heap H locs → lv_has ls 4 [(0, .ref (a0 99)), (1, .int x1), (2, .int x2_4), (3, .int x3_4)] → W p l e { frames := 1, cells := 0, slots := 0, locals := 21 } s m ([.ref (a0 99), .int x1] : List Value).toArray below meth c H locs 0 0 Q (F0 m 4 ls []) := by
    intro n4
    induction n4 with
    | zero => intro x2_4 x3_4 H locs ls h; exact h.elim
    | succ n4 ih4 =>
      intro x2_4 x3_4 H locs ls h hP hD hS hl
      rw [wp_X3_whoKnowsAny_L4] at h
      refine lv_iload_n hx hb dX3_whoKnowsAny_4 rfl (lv_at hl 3 rfl) ?_
      refine lv_bipush (v := 8) hx hb dX3_whoKnowsAny_5 (by decide) ?_
      refine lv_icmp_ge (tgt := 33) hx hb dX3_whoKnowsAny_7 (by decide) (fun c_4 => ?_) (fun c_4 => ?_)
      · have h := h.1 c_4
        refine lv_iload_n hx hb dX3_whoKnowsAny_33 rfl (lv_at hl 2 rfl) ?_
        exact hret x2_4 () _ _ _ _ _ h rfl hP hD hS dX3_whoKnowsAny_34
      · have h := h.2 c_4
        refine lv_iload_n hx hb dX3_whoKnowsAny_10 rfl (lv_at hl 1 rfl) ?_
        refine lv_iload_n hx hb dX3_whoKnowsAny_11 rfl (lv_at hl 3 rfl) ?_
        have p1 := gB (n := 1) (bs := [bScene E a0 S0]) (bc := []) (br := [bScene E a0 S0]) [0] rfl rfl (by decide)
        refine g_i (g_runSN (As := [.int x1, .int x3_4]) (rest := []) ⟨hx, hb, hml, hown, ht⟩ hE (c_X5_hasBit E l x1 x3_4 _ h) ⟨rfl, rfl⟩ hE.2.1.2.2.2.1 wt_X5_hasBit wn_X5 wc_X5_hasBit yd_X5_hasBit ⟨Nat.le_of_ble_eq_true rfl, Nat.le_of_ble_eq_true rfl⟩ hP hD p1 rfl rfl hl.1 rfl (lv_room (Nat.le_of_ble_eq_true rfl)) dX3_whoKnowsAny_12 ⟨Nat.zero_le _, Nat.zero_le _⟩) hP hD hS p1 (fun r_5 _ w H locs h hw hP hD hS => ?_)
        subst hw
        clear p1
        have p2 := gB (n := 1) (bs := [bScene E a0 S0]) (bc := []) (br := [bScene E a0 S0]) [0] rfl rfl (by decide)
        have hP := gP_perm p2.symm hP
        have hD := gD_perm p2.symm hD
        clear p2
        refine lv_if_eq (tgt := 27) hx hb dX3_whoKnowsAny_15 (by decide) (fun c_6 => ?_) (fun c_6 => ?_)
        · have h := h.1 c_6
          refine lv_iinc (v := (x3_4 + 1)) (lv' := [(3, .int (x3_4 + 1)), (0, .ref (a0 99)), (1, .int x1), (2, .int x2_4)]) hx hb dX3_whoKnowsAny_27 hl (k := 3) rfl rfl (by decide) rfl (fun ls hl => ?_)
          refine lv_goto (tgt := 4) hx hb dX3_whoKnowsAny_30 (by decide) ?_
          exact ih4 x2_4 (x3_4 + 1) _ _ _ h hP hD hS (lv_sub hl [1, 2, 3, 0] rfl)
        · have h := h.2 c_6
          refine lv_iload_n hx hb dX3_whoKnowsAny_18 rfl (lv_at hl 2 rfl) ?_
          refine lv_aload_n hx hb dX3_whoKnowsAny_19 rfl (lv_at hl 0 rfl) ?_
          refine va_get (D := (E.1, E.2.1)) (ci := 3) (v := .ref (a0 2)) (C := RX3) (T := TX3) (N := 5) hx hb ht wu_X3 hown hK hP 0 rfl rfl 2 (by decide) (ht _ wk_X3_18) (fun _ h9 => h9) rfl dX3_whoKnowsAny_20 ?_
          refine lv_iload_n hx hb dX3_whoKnowsAny_23 rfl (lv_at hl 3 rfl) ?_
          refine va_iald hx hb hK hP 3 0 rfl rfl h.1 dX3_whoKnowsAny_24 ?_
          have h := h.2
          refine lv_ior hx hb dX3_whoKnowsAny_25 ?_
          refine lv_istore_n (lv' := [(2, .int (x2_4 ||| (S0.2 2 x3_4.toNatClampNeg))), (0, .ref (a0 99)), (1, .int x1), (3, .int x3_4)]) hx hb dX3_whoKnowsAny_26 rfl hl (by decide) rfl (fun ls hl => ?_)
          refine lv_iinc (v := (x3_4 + 1)) (lv' := [(3, .int (x3_4 + 1)), (2, .int (x2_4 ||| (S0.2 2 x3_4.toNatClampNeg))), (0, .ref (a0 99)), (1, .int x1)]) hx hb dX3_whoKnowsAny_27 hl (k := 3) rfl rfl (by decide) rfl (fun ls hl => ?_)
          refine lv_goto (tgt := 4) hx hb dX3_whoKnowsAny_30 (by decide) ?_
          exact ih4 (x2_4 ||| (S0.2 2 x3_4.toNatClampNeg)) (x3_4 + 1) _ _ _ h hP hD hS (lv_sub hl [2, 3, 1, 0] rfl)
  obtain ⟨n4, h⟩ := h
  exact L4 n4 0 0 _ _ _ h hP hD hS (lv_sub hl [2, 3, 1, 0] rfl)
theorem dX3_whoGetsIn_0 : decode cX3_whoGetsIn 0 = .ok (.aload_n 0, 1) := by decide +kernel
theorem dX3_whoGetsIn_1 : decode cX3_whoGetsIn 1 = .ok (.aload_n 0, 1) := by decide +kernel
theorem dX3_whoGetsIn_2 : decode cX3_whoGetsIn 2 = .ok (.invokevirtual 55, 3) := by decide +kernel
theorem dX3_whoGetsIn_5 : decode cX3_whoGetsIn 5 = .ok (.invokevirtual 72, 3) := by decide +kernel
theorem dX3_whoGetsIn_8 : decode cX3_whoGetsIn 8 = .ok (.ireturn, 1) := by decide +kernel
set_option maxHeartbeats 4000000 in
set_option maxRecDepth 100000 in
theorem c_X3_whoGetsIn (E : GE) (l : Launch) (a0 : Nat → Nat) (S0 : Ob) (post : Int32 → Prop) (h : wp_X3_whoGetsIn S0 post) : Met l yX3_whoGetsIn (wz yX3_whoGetsIn cX3_whoGetsIn 1 (some .int)) { frames := 3, cells := 0, slots := 0, locals := 64 } (gPc E [.ref (a0 99)] (gW [bScene E a0 S0])) (gQi E (gW [bScene E a0 S0]) (fun r (_ : Unit) => post r) (fun (_ : Unit) w => w = gW [bScene E a0 S0])) 0 0 (gIn (gW [bScene E a0 S0])) := by
  unfold wp_X3_whoGetsIn at h
  refine g_of_i (by decide) (Nat.le_of_ble_eq_true rfl) ?_
  intro p e s m below meth c A Q hx hb hml hown ht hE hP hD hret ls hl
  have hK := hE.1
  have hS : va_S A s.heap s.heap [] := va_S.rf
  have hl : lv_has ls 1 [(0, .ref (a0 99))] := hl
  refine lv_aload_n hx hb dX3_whoGetsIn_0 rfl (lv_at hl 0 rfl) ?_
  refine lv_aload_n hx hb dX3_whoGetsIn_1 rfl (lv_at hl 0 rfl) ?_
  have p1 := gB (n := 1) (bs := [bScene E a0 S0]) (bc := [bScene E a0 S0]) (br := []) [0] rfl rfl (by decide)
  refine g_i (g_runV (As := []) (rest := [.ref (a0 99)]) ⟨hx, hb, hml, hown, ht⟩ hE (c_X3_ringBits E l a0 S0 _ h) ⟨rfl, rfl⟩ wk_X3_55 wi_X3_ringBits ws_X3_ringBits wn_X3 wc_X3_ringBits yd_X3_ringBits ⟨Nat.le_of_ble_eq_true rfl, Nat.le_of_ble_eq_true rfl⟩ hP hD p1 (ci := 3) rfl rfl rfl rfl rfl hl.1 rfl (lv_room (Nat.le_of_ble_eq_true rfl)) dX3_whoGetsIn_2 ⟨Nat.zero_le _, Nat.zero_le _⟩) hP hD hS p1 (fun r_1 _ w H locs h hw hP hD hS => ?_)
  subst hw
  clear p1
  have p2 := gB (n := 1) (bs := [bScene E a0 S0]) (bc := [bScene E a0 S0]) (br := []) [0] rfl rfl (by decide)
  have hP := gP_perm p2.symm hP
  have hD := gD_perm p2.symm hD
  clear p2
  have p1 := gB (n := 1) (bs := [bScene E a0 S0]) (bc := [bScene E a0 S0]) (br := []) [0] rfl rfl (by decide)
  refine g_i (g_runV (As := [.int r_1]) (rest := []) ⟨hx, hb, hml, hown, ht⟩ hE (c_X3_whoKnowsAny E l a0 S0 r_1 _ h) ⟨rfl, rfl⟩ wk_X3_72 wi_X3_whoKnowsAny ws_X3_whoKnowsAny wn_X3 wc_X3_whoKnowsAny yd_X3_whoKnowsAny ⟨Nat.le_of_ble_eq_true rfl, Nat.le_of_ble_eq_true rfl⟩ hP hD p1 (ci := 3) rfl rfl rfl rfl rfl hl.1 rfl (lv_room (Nat.le_of_ble_eq_true rfl)) dX3_whoGetsIn_5 ⟨Nat.zero_le _, Nat.zero_le _⟩) hP hD hS p1 (fun r_2 _ w H locs h hw hP hD hS => ?_)
  subst hw
  clear p1
  have p2 := gB (n := 1) (bs := [bScene E a0 S0]) (bc := [bScene E a0 S0]) (br := []) [0] rfl rfl (by decide)
  have hP := gP_perm p2.symm hP
  have hD := gD_perm p2.symm hD
  clear p2
  exact hret r_2 () _ _ _ _ _ h rfl hP hD hS dX3_whoGetsIn_8
theorem dX3_canShutOn_0 : decode cX3_canShutOn 0 = .ok (.aload_n 0, 1) := by decide +kernel
theorem dX3_canShutOn_1 : decode cX3_canShutOn 1 = .ok (.iload_n 1, 1) := by decide +kernel
theorem dX3_canShutOn_2 : decode cX3_canShutOn 2 = .ok (.invokevirtual 47, 3) := by decide +kernel
theorem dX3_canShutOn_5 : decode cX3_canShutOn 5 = .ok (.iload_n 1, 1) := by decide +kernel
theorem dX3_canShutOn_6 : decode cX3_canShutOn 6 = .ok (.if_icmp .ne 7, 3) := by decide +kernel
theorem dX3_canShutOn_9 : decode cX3_canShutOn 9 = .ok (.iconst 1, 1) := by decide +kernel
theorem dX3_canShutOn_10 : decode cX3_canShutOn 10 = .ok (.goto 4, 3) := by decide +kernel
theorem dX3_canShutOn_13 : decode cX3_canShutOn 13 = .ok (.iconst 0, 1) := by decide +kernel
theorem dX3_canShutOn_14 : decode cX3_canShutOn 14 = .ok (.istore_n 2, 1) := by decide +kernel
theorem dX3_canShutOn_15 : decode cX3_canShutOn 15 = .ok (.aload_n 0, 1) := by decide +kernel
theorem dX3_canShutOn_16 : decode cX3_canShutOn 16 = .ok (.invokevirtual 75, 3) := by decide +kernel
theorem dX3_canShutOn_19 : decode cX3_canShutOn 19 = .ok (.ifCond .eq 27, 3) := by decide +kernel
theorem dX3_canShutOn_22 : decode cX3_canShutOn 22 = .ok (.aload_n 0, 1) := by decide +kernel
theorem dX3_canShutOn_23 : decode cX3_canShutOn 23 = .ok (.iload_n 1, 1) := by decide +kernel
theorem dX3_canShutOn_24 : decode cX3_canShutOn 24 = .ok (.invokevirtual 51, 3) := by decide +kernel
theorem dX3_canShutOn_27 : decode cX3_canShutOn 27 = .ok (.ifCond .eq 19, 3) := by decide +kernel
theorem dX3_canShutOn_30 : decode cX3_canShutOn 30 = .ok (.iload_n 1, 1) := by decide +kernel
theorem dX3_canShutOn_31 : decode cX3_canShutOn 31 = .ok (.aload_n 0, 1) := by decide +kernel
theorem dX3_canShutOn_32 : decode cX3_canShutOn 32 = .ok (.getfield 24, 3) := by decide +kernel
theorem dX3_canShutOn_35 : decode cX3_canShutOn 35 = .ok (.if_icmp .ne 7, 3) := by decide +kernel
theorem dX3_canShutOn_38 : decode cX3_canShutOn 38 = .ok (.iload_n 2, 1) := by decide +kernel
theorem dX3_canShutOn_39 : decode cX3_canShutOn 39 = .ok (.ifCond .eq 7, 3) := by decide +kernel
theorem dX3_canShutOn_42 : decode cX3_canShutOn 42 = .ok (.iconst 1, 1) := by decide +kernel
theorem dX3_canShutOn_43 : decode cX3_canShutOn 43 = .ok (.goto 4, 3) := by decide +kernel
theorem dX3_canShutOn_46 : decode cX3_canShutOn 46 = .ok (.iconst 0, 1) := by decide +kernel
theorem dX3_canShutOn_47 : decode cX3_canShutOn 47 = .ok (.ireturn, 1) := by decide +kernel
set_option maxHeartbeats 4000000 in
set_option maxRecDepth 100000 in
theorem c_X3_canShutOn (E : GE) (l : Launch) (a0 : Nat → Nat) (S0 : Ob) (x1 : Int32) (post : Int32 → Prop) (h : wp_X3_canShutOn S0 x1 post) : Met l yX3_canShutOn (wz yX3_canShutOn cX3_canShutOn 3 (some .boolean)) { frames := 2, cells := 0, slots := 0, locals := 42 } (gPc E [.ref (a0 99), .int x1] (gW [bScene E a0 S0])) (gQi E (gW [bScene E a0 S0]) (fun r (_ : Unit) => post r) (fun (_ : Unit) w => w = gW [bScene E a0 S0])) 0 0 (gIn (gW [bScene E a0 S0])) := by
  unfold wp_X3_canShutOn at h
  refine g_of_z (by decide) (Nat.le_of_ble_eq_true rfl) ?_
  intro p e s m below meth c A Q hx hb hml hown ht hE hP hD hret ls hl
  have hK := hE.1
  have hS : va_S A s.heap s.heap [] := va_S.rf
  have hl : lv_has ls 3 [(0, .ref (a0 99)), (1, .int x1)] := hl
  have J14 : ∀ (x1_j14 : Int32) (t0_j14 : Int32) (H : Heap) (locs : List Loc) (ls : Array Slot), wp_X3_canShutOn_J14 post x1_j14 t0_j14 S0 → gP E (gW [bScene E a0 S0]) H → va_D A (gW [bScene E a0 S0]) → va_S A s.heap H locs → lv_has ls 3 [(0, .ref (a0 99)), (1, .int x1_j14)] → W p l e { frames := 2, cells := 0, slots := 0, locals := 42 } s m ([.ref (a0 99), .int x1] : List Value).toArray below meth c H locs 0 0 Q (F0 m 14 ls [.int t0_j14]) := by
    intro x1_j14 t0_j14 H locs ls h hP hD hS hl
    unfold wp_X3_canShutOn_J14 at h
    refine lv_istore_n (lv' := [(2, .int t0_j14), (0, .ref (a0 99)), (1, .int x1_j14)]) hx hb dX3_canShutOn_14 rfl hl (by decide) rfl (fun ls hl => ?_)
    refine lv_aload_n hx hb dX3_canShutOn_15 rfl (lv_at hl 1 rfl) ?_
    have p1 := gB (n := 1) (bs := [bScene E a0 S0]) (bc := [bScene E a0 S0]) (br := []) [0] rfl rfl (by decide)
    refine g_i (g_runV (As := []) (rest := []) ⟨hx, hb, hml, hown, ht⟩ hE (c_X3_isOpen E l a0 S0 _ h) ⟨rfl, rfl⟩ wk_X3_75 wi_X3_isOpen ws_X3_isOpen wn_X3 wc_X3_isOpen yd_X3_isOpen ⟨Nat.le_of_ble_eq_true rfl, Nat.le_of_ble_eq_true rfl⟩ hP hD p1 (ci := 3) rfl rfl rfl rfl rfl hl.1 rfl (lv_room (Nat.le_of_ble_eq_true rfl)) dX3_canShutOn_16 ⟨Nat.zero_le _, Nat.zero_le _⟩) hP hD hS p1 (fun r_7 _ w H locs h hw hP hD hS => ?_)
    subst hw
    clear p1
    have p2 := gB (n := 1) (bs := [bScene E a0 S0]) (bc := [bScene E a0 S0]) (br := []) [0] rfl rfl (by decide)
    have hP := gP_perm p2.symm hP
    have hD := gD_perm p2.symm hD
    clear p2
    refine lv_if_eq (tgt := 46) hx hb dX3_canShutOn_19 (by decide) (fun c_8 => ?_) (fun c_8 => ?_)
    · have h := h.1 c_8
      refine lv_iconst (v := 0) hx hb dX3_canShutOn_46 (by decide) ?_
      exact hret 0 () _ _ _ _ _ rfl h rfl hP hD hS dX3_canShutOn_47
    · have h := h.2 c_8
      refine lv_aload_n hx hb dX3_canShutOn_22 rfl (lv_at hl 1 rfl) ?_
      refine lv_iload_n hx hb dX3_canShutOn_23 rfl (lv_at hl 2 rfl) ?_
      have p1 := gB (n := 1) (bs := [bScene E a0 S0]) (bc := [bScene E a0 S0]) (br := []) [0] rfl rfl (by decide)
      refine g_i (g_runV (As := [.int x1_j14]) (rest := []) ⟨hx, hb, hml, hown, ht⟩ hE (c_X3_inRing E l a0 S0 x1_j14 _ h) ⟨rfl, rfl⟩ wk_X3_51 wi_X3_inRing ws_X3_inRing wn_X3 wc_X3_inRing yd_X3_inRing ⟨Nat.le_of_ble_eq_true rfl, Nat.le_of_ble_eq_true rfl⟩ hP hD p1 (ci := 3) rfl rfl rfl rfl rfl hl.1 rfl (lv_room (Nat.le_of_ble_eq_true rfl)) dX3_canShutOn_24 ⟨Nat.zero_le _, Nat.zero_le _⟩) hP hD hS p1 (fun r_9 _ w H locs h hw hP hD hS => ?_)
      subst hw
      clear p1
      have p2 := gB (n := 1) (bs := [bScene E a0 S0]) (bc := [bScene E a0 S0]) (br := []) [0] rfl rfl (by decide)
      have hP := gP_perm p2.symm hP
      have hD := gD_perm p2.symm hD
      clear p2
      refine lv_if_eq (tgt := 46) hx hb dX3_canShutOn_27 (by decide) (fun c_10 => ?_) (fun c_10 => ?_)
      · have h := h.1 c_10
        refine lv_iconst (v := 0) hx hb dX3_canShutOn_46 (by decide) ?_
        exact hret 0 () _ _ _ _ _ rfl h rfl hP hD hS dX3_canShutOn_47
      · have h := h.2 c_10
        refine lv_iload_n hx hb dX3_canShutOn_30 rfl (lv_at hl 2 rfl) ?_
        refine lv_aload_n hx hb dX3_canShutOn_31 rfl (lv_at hl 1 rfl) ?_
        refine va_get (D := (E.1, E.2.1)) (ci := 3) (v := .int (S0.1 4)) (C := RX3) (T := TX3) (N := 5) hx hb ht wu_X3 hown hK hP 0 rfl rfl 4 (by decide) (ht _ wk_X3_24) (fun _ h9 => h9) rfl dX3_canShutOn_32 ?_
        refine lv_icmp_ne (tgt := 42) hx hb dX3_canShutOn_35 (by decide) (fun c_11 => ?_) (fun c_11 => ?_)
        · have h := h.1 c_11
          refine lv_iconst (v := 1) hx hb dX3_canShutOn_42 (by decide) ?_
          refine lv_goto (tgt := 47) hx hb dX3_canShutOn_43 (by decide) ?_
          exact hret 1 () _ _ _ _ _ rfl h rfl hP hD hS dX3_canShutOn_47
        · have h := h.2 c_11
          refine lv_iload_n hx hb dX3_canShutOn_38 rfl (lv_at hl 0 rfl) ?_
          refine lv_if_eq (tgt := 46) hx hb dX3_canShutOn_39 (by decide) (fun c_12 => ?_) (fun c_12 => ?_)
          · have h := h.1 c_12
            refine lv_iconst (v := 0) hx hb dX3_canShutOn_46 (by decide) ?_
            exact hret 0 () _ _ _ _ _ rfl h rfl hP hD hS dX3_canShutOn_47
          · have h := h.2 c_12
            refine lv_iconst (v := 1) hx hb dX3_canShutOn_42 (by decide) ?_
            refine lv_goto (tgt := 47) hx hb dX3_canShutOn_43 (by decide) ?_
            exact hret 1 () _ _ _ _ _ rfl h rfl hP hD hS dX3_canShutOn_47
  refine lv_aload_n hx hb dX3_canShutOn_0 rfl (lv_at hl 0 rfl) ?_
  refine lv_iload_n hx hb dX3_canShutOn_1 rfl (lv_at hl 1 rfl) ?_
  have p1 := gB (n := 1) (bs := [bScene E a0 S0]) (bc := [bScene E a0 S0]) (br := []) [0] rfl rfl (by decide)
  refine g_i (g_runV (As := [.int x1]) (rest := []) ⟨hx, hb, hml, hown, ht⟩ hE (c_X3_behindOf E l a0 S0 x1 _ h) ⟨rfl, rfl⟩ wk_X3_47 wi_X3_behindOf ws_X3_behindOf wn_X3 wc_X3_behindOf yd_X3_behindOf ⟨Nat.le_of_ble_eq_true rfl, Nat.le_of_ble_eq_true rfl⟩ hP hD p1 (ci := 3) rfl rfl rfl rfl rfl hl.1 rfl (lv_room (Nat.le_of_ble_eq_true rfl)) dX3_canShutOn_2 ⟨Nat.zero_le _, Nat.zero_le _⟩) hP hD hS p1 (fun r_13 _ w H locs h hw hP hD hS => ?_)
  subst hw
  clear p1
  have p2 := gB (n := 1) (bs := [bScene E a0 S0]) (bc := [bScene E a0 S0]) (br := []) [0] rfl rfl (by decide)
  have hP := gP_perm p2.symm hP
  have hD := gD_perm p2.symm hD
  clear p2
  refine lv_iload_n hx hb dX3_canShutOn_5 rfl (lv_at hl 1 rfl) ?_
  refine lv_icmp_ne (tgt := 13) hx hb dX3_canShutOn_6 (by decide) (fun c_14 => ?_) (fun c_14 => ?_)
  · have h := h.1 c_14
    refine lv_iconst (v := 0) hx hb dX3_canShutOn_13 (by decide) ?_
    exact J14 x1 0 _ _ _ h hP hD hS (lv_sub hl [0, 1] rfl)
  · have h := h.2 c_14
    refine lv_iconst (v := 1) hx hb dX3_canShutOn_9 (by decide) ?_
    refine lv_goto (tgt := 14) hx hb dX3_canShutOn_10 (by decide) ?_
    exact J14 x1 1 _ _ _ h hP hD hS (lv_sub hl [0, 1] rfl)
theorem dX3_between_0 : decode cX3_between 0 = .ok (.iconst 0, 1) := by decide +kernel
theorem dX3_between_1 : decode cX3_between 1 = .ok (.istore_n 2, 1) := by decide +kernel
theorem dX3_between_2 : decode cX3_between 2 = .ok (.aload_n 0, 1) := by decide +kernel
theorem dX3_between_3 : decode cX3_between 3 = .ok (.aload_n 0, 1) := by decide +kernel
theorem dX3_between_4 : decode cX3_between 4 = .ok (.getfield 24, 3) := by decide +kernel
theorem dX3_between_7 : decode cX3_between 7 = .ok (.invokevirtual 47, 3) := by decide +kernel
theorem dX3_between_10 : decode cX3_between 10 = .ok (.istore_n 3, 1) := by decide +kernel
theorem dX3_between_11 : decode cX3_between 11 = .ok (.iconst 0, 1) := by decide +kernel
theorem dX3_between_12 : decode cX3_between 12 = .ok (.istore 4, 2) := by decide +kernel
theorem dX3_between_14 : decode cX3_between 14 = .ok (.iload 4, 2) := by decide +kernel
theorem dX3_between_16 : decode cX3_between 16 = .ok (.bipush 8, 2) := by decide +kernel
theorem dX3_between_18 : decode cX3_between 18 = .ok (.if_icmp .ge 32, 3) := by decide +kernel
theorem dX3_between_21 : decode cX3_between 21 = .ok (.iload_n 3, 1) := by decide +kernel
theorem dX3_between_22 : decode cX3_between 22 = .ok (.iload_n 1, 1) := by decide +kernel
theorem dX3_between_23 : decode cX3_between 23 = .ok (.if_icmp .eq 27, 3) := by decide +kernel
theorem dX3_between_26 : decode cX3_between 26 = .ok (.iload_n 3, 1) := by decide +kernel
theorem dX3_between_27 : decode cX3_between 27 = .ok (.bipush (-9), 2) := by decide +kernel
theorem dX3_between_29 : decode cX3_between 29 = .ok (.if_icmp .eq 21, 3) := by decide +kernel
theorem dX3_between_32 : decode cX3_between 32 = .ok (.iload_n 2, 1) := by decide +kernel
theorem dX3_between_33 : decode cX3_between 33 = .ok (.iconst 1, 1) := by decide +kernel
theorem dX3_between_34 : decode cX3_between 34 = .ok (.iload_n 3, 1) := by decide +kernel
theorem dX3_between_35 : decode cX3_between 35 = .ok (.ishl, 1) := by decide +kernel
theorem dX3_between_36 : decode cX3_between 36 = .ok (.ior, 1) := by decide +kernel
theorem dX3_between_37 : decode cX3_between 37 = .ok (.istore_n 2, 1) := by decide +kernel
theorem dX3_between_38 : decode cX3_between 38 = .ok (.aload_n 0, 1) := by decide +kernel
theorem dX3_between_39 : decode cX3_between 39 = .ok (.iload_n 3, 1) := by decide +kernel
theorem dX3_between_40 : decode cX3_between 40 = .ok (.invokevirtual 47, 3) := by decide +kernel
theorem dX3_between_43 : decode cX3_between 43 = .ok (.istore_n 3, 1) := by decide +kernel
theorem dX3_between_44 : decode cX3_between 44 = .ok (.iinc 4 1, 3) := by decide +kernel
theorem dX3_between_47 : decode cX3_between 47 = .ok (.goto (-33), 3) := by decide +kernel
theorem dX3_between_50 : decode cX3_between 50 = .ok (.iload_n 2, 1) := by decide +kernel
theorem dX3_between_51 : decode cX3_between 51 = .ok (.ireturn, 1) := by decide +kernel
set_option maxHeartbeats 4000000 in
set_option maxRecDepth 100000 in
theorem c_X3_between (E : GE) (l : Launch) (a0 : Nat → Nat) (S0 : Ob) (x1 : Int32) (post : Int32 → Prop) (h : wp_X3_between S0 x1 post) : Met l yX3_between (wz yX3_between cX3_between 5 (some .int)) { frames := 1, cells := 0, slots := 0, locals := 21 } (gPc E [.ref (a0 99), .int x1] (gW [bScene E a0 S0])) (gQi E (gW [bScene E a0 S0]) (fun r (_ : Unit) => post r) (fun (_ : Unit) w => w = gW [bScene E a0 S0])) 0 0 (gIn (gW [bScene E a0 S0])) := by
  unfold wp_X3_between at h
  refine g_of_i (by decide) (Nat.le_of_ble_eq_true rfl) ?_
  intro p e s m below meth c A Q hx hb hml hown ht hE hP hD hret ls hl
  have hK := hE.1
  have hS : va_S A s.heap s.heap [] := va_S.rf
  have hl : lv_has ls 5 [(0, .ref (a0 99)), (1, .int x1)] := hl
  refine lv_iconst (v := 0) hx hb dX3_between_0 (by decide) ?_
  refine lv_istore_n (lv' := [(2, .int 0), (0, .ref (a0 99)), (1, .int x1)]) hx hb dX3_between_1 rfl hl (by decide) rfl (fun ls hl => ?_)
  refine lv_aload_n hx hb dX3_between_2 rfl (lv_at hl 1 rfl) ?_
  refine lv_aload_n hx hb dX3_between_3 rfl (lv_at hl 1 rfl) ?_
  refine va_get (D := (E.1, E.2.1)) (ci := 3) (v := .int (S0.1 4)) (C := RX3) (T := TX3) (N := 5) hx hb ht wu_X3 hown hK hP 0 rfl rfl 4 (by decide) (ht _ wk_X3_24) (fun _ h9 => h9) rfl dX3_between_4 ?_
  have p1 := gB (n := 1) (bs := [bScene E a0 S0]) (bc := [bScene E a0 S0]) (br := []) [0] rfl rfl (by decide)
  refine g_i (g_runV (As := [.int (S0.1 4)]) (rest := []) ⟨hx, hb, hml, hown, ht⟩ hE (c_X3_behindOf E l a0 S0 (S0.1 4) _ h) ⟨rfl, rfl⟩ wk_X3_47 wi_X3_behindOf ws_X3_behindOf wn_X3 wc_X3_behindOf yd_X3_behindOf ⟨Nat.le_of_ble_eq_true rfl, Nat.le_of_ble_eq_true rfl⟩ hP hD p1 (ci := 3) rfl rfl rfl rfl rfl hl.1 rfl (lv_room (Nat.le_of_ble_eq_true rfl)) dX3_between_7 ⟨Nat.zero_le _, Nat.zero_le _⟩) hP hD hS p1 (fun r_1 _ w H locs h hw hP hD hS => ?_)
  subst hw
  clear p1
  have p2 := gB (n := 1) (bs := [bScene E a0 S0]) (bc := [bScene E a0 S0]) (br := []) [0] rfl rfl (by decide)
  have hP := gP_perm p2.symm hP
  have hD := gD_perm p2.symm hD
  clear p2
  refine lv_istore_n (lv' := [(3, .int r_1), (2, .int 0), (0, .ref (a0 99)), (1, .int x1)]) hx hb dX3_between_10 rfl hl (by decide) rfl (fun ls hl => ?_)
  refine lv_iconst (v := 0) hx hb dX3_between_11 (by decide) ?_
  refine lv_istore (lv' := [(4, .int 0), (3, .int r_1), (2, .int 0), (0, .ref (a0 99)), (1, .int x1)]) hx hb dX3_between_12 hl (by decide) rfl (fun ls hl => ?_)
  have L14 : ∀ (n14 : Nat) (x2_14 : Int32) (x3_14 : Int32) (x4_14 : Int32) (H : Heap) (locs : List Loc) (ls : Array Slot), wp_X3_between_L14 post x1 S0 n14 x2_14 x3_14 x4_14 → gP E (gW [bScene E a0 S0]) H → va_D A (gW [bScene E a0 S0]) → va_S A s.heap H locs → lv_has ls 5 [(0, .ref (a0 99)), (1, .int x1), (2, .int x2_14), (3, .int x3_14), (4, .int x4_14)] → W p l e { frames := 1, cells := 0, slots := 0, locals := 21 } s m ([.ref (a0 99), .int x1] : List Value).toArray below meth c H locs 0 0 Q (F0 m 14 ls []) := by
    intro n14
    induction n14 with
    | zero => intro x2_14 x3_14 x4_14 H locs ls h; exact h.elim
    | succ n14 ih14 =>
      intro x2_14 x3_14 x4_14 H locs ls h hP hD hS hl
      rw [wp_X3_between_L14] at h
      refine lv_iload hx hb dX3_between_14 (lv_at hl 4 rfl) ?_
      refine lv_bipush (v := 8) hx hb dX3_between_16 (by decide) ?_
      refine lv_icmp_ge (tgt := 50) hx hb dX3_between_18 (by decide) (fun c_6 => ?_) (fun c_6 => ?_)
      · have h := h.1 c_6
        refine lv_iload_n hx hb dX3_between_50 rfl (lv_at hl 2 rfl) ?_
        exact hret x2_14 () _ _ _ _ _ h rfl hP hD hS dX3_between_51
      · have h := h.2 c_6
        refine lv_iload_n hx hb dX3_between_21 rfl (lv_at hl 3 rfl) ?_
        refine lv_iload_n hx hb dX3_between_22 rfl (lv_at hl 1 rfl) ?_
        refine lv_icmp_eq (tgt := 50) hx hb dX3_between_23 (by decide) (fun c_7 => ?_) (fun c_7 => ?_)
        · have h := h.1 c_7
          refine lv_iload_n hx hb dX3_between_50 rfl (lv_at hl 2 rfl) ?_
          exact hret x2_14 () _ _ _ _ _ h rfl hP hD hS dX3_between_51
        · have h := h.2 c_7
          refine lv_iload_n hx hb dX3_between_26 rfl (lv_at hl 3 rfl) ?_
          refine lv_bipush (v := (-9)) hx hb dX3_between_27 (by decide) ?_
          refine lv_icmp_eq (tgt := 50) hx hb dX3_between_29 (by decide) (fun c_8 => ?_) (fun c_8 => ?_)
          · have h := h.1 c_8
            refine lv_iload_n hx hb dX3_between_50 rfl (lv_at hl 2 rfl) ?_
            exact hret x2_14 () _ _ _ _ _ h rfl hP hD hS dX3_between_51
          · have h := h.2 c_8
            refine lv_iload_n hx hb dX3_between_32 rfl (lv_at hl 2 rfl) ?_
            refine lv_iconst (v := 1) hx hb dX3_between_33 (by decide) ?_
            refine lv_iload_n hx hb dX3_between_34 rfl (lv_at hl 3 rfl) ?_
            refine lv_ishl hx hb dX3_between_35 ?_
            refine lv_ior hx hb dX3_between_36 ?_
            refine lv_istore_n (lv' := [(2, .int (x2_14 ||| ((1 : Int32) <<< (x3_14 &&& 31)))), (0, .ref (a0 99)), (1, .int x1), (3, .int x3_14), (4, .int x4_14)]) hx hb dX3_between_37 rfl hl (by decide) rfl (fun ls hl => ?_)
            refine lv_aload_n hx hb dX3_between_38 rfl (lv_at hl 1 rfl) ?_
            refine lv_iload_n hx hb dX3_between_39 rfl (lv_at hl 3 rfl) ?_
            have p1 := gB (n := 1) (bs := [bScene E a0 S0]) (bc := [bScene E a0 S0]) (br := []) [0] rfl rfl (by decide)
            refine g_i (g_runV (As := [.int x3_14]) (rest := []) ⟨hx, hb, hml, hown, ht⟩ hE (c_X3_behindOf E l a0 S0 x3_14 _ h) ⟨rfl, rfl⟩ wk_X3_47 wi_X3_behindOf ws_X3_behindOf wn_X3 wc_X3_behindOf yd_X3_behindOf ⟨Nat.le_of_ble_eq_true rfl, Nat.le_of_ble_eq_true rfl⟩ hP hD p1 (ci := 3) rfl rfl rfl rfl rfl hl.1 rfl (lv_room (Nat.le_of_ble_eq_true rfl)) dX3_between_40 ⟨Nat.zero_le _, Nat.zero_le _⟩) hP hD hS p1 (fun r_9 _ w H locs h hw hP hD hS => ?_)
            subst hw
            clear p1
            have p2 := gB (n := 1) (bs := [bScene E a0 S0]) (bc := [bScene E a0 S0]) (br := []) [0] rfl rfl (by decide)
            have hP := gP_perm p2.symm hP
            have hD := gD_perm p2.symm hD
            clear p2
            refine lv_istore_n (lv' := [(3, .int r_9), (2, .int (x2_14 ||| ((1 : Int32) <<< (x3_14 &&& 31)))), (0, .ref (a0 99)), (1, .int x1), (4, .int x4_14)]) hx hb dX3_between_43 rfl hl (by decide) rfl (fun ls hl => ?_)
            refine lv_iinc (v := (x4_14 + 1)) (lv' := [(4, .int (x4_14 + 1)), (3, .int r_9), (2, .int (x2_14 ||| ((1 : Int32) <<< (x3_14 &&& 31)))), (0, .ref (a0 99)), (1, .int x1)]) hx hb dX3_between_44 hl (k := 4) rfl rfl (by decide) rfl (fun ls hl => ?_)
            refine lv_goto (tgt := 14) hx hb dX3_between_47 (by decide) ?_
            exact ih14 (x2_14 ||| ((1 : Int32) <<< (x3_14 &&& 31))) r_9 (x4_14 + 1) _ _ _ h hP hD hS (lv_sub hl [3, 4, 2, 1, 0] rfl)
  obtain ⟨n14, h⟩ := h
  exact L14 n14 0 r_1 0 _ _ _ h hP hD hS (lv_sub hl [3, 4, 2, 1, 0] rfl)
theorem dX3_leftBy_0 : decode cX3_leftBy 0 = .ok (.aload_n 0, 1) := by decide +kernel
theorem dX3_leftBy_1 : decode cX3_leftBy 1 = .ok (.iload_n 1, 1) := by decide +kernel
theorem dX3_leftBy_2 : decode cX3_leftBy 2 = .ok (.invokevirtual 79, 3) := by decide +kernel
theorem dX3_leftBy_5 : decode cX3_leftBy 5 = .ok (.ifCond .ne 6, 3) := by decide +kernel
theorem dX3_leftBy_8 : decode cX3_leftBy 8 = .ok (.bipush (-9), 2) := by decide +kernel
theorem dX3_leftBy_10 : decode cX3_leftBy 10 = .ok (.ireturn, 1) := by decide +kernel
theorem dX3_leftBy_11 : decode cX3_leftBy 11 = .ok (.aload_n 0, 1) := by decide +kernel
theorem dX3_leftBy_12 : decode cX3_leftBy 12 = .ok (.invokevirtual 82, 3) := by decide +kernel
theorem dX3_leftBy_15 : decode cX3_leftBy 15 = .ok (.aload_n 0, 1) := by decide +kernel
theorem dX3_leftBy_16 : decode cX3_leftBy 16 = .ok (.aload_n 0, 1) := by decide +kernel
theorem dX3_leftBy_17 : decode cX3_leftBy 17 = .ok (.invokevirtual 55, 3) := by decide +kernel
theorem dX3_leftBy_20 : decode cX3_leftBy 20 = .ok (.aload_n 0, 1) := by decide +kernel
theorem dX3_leftBy_21 : decode cX3_leftBy 21 = .ok (.iload_n 1, 1) := by decide +kernel
theorem dX3_leftBy_22 : decode cX3_leftBy 22 = .ok (.invokevirtual 85, 3) := by decide +kernel
theorem dX3_leftBy_25 : decode cX3_leftBy 25 = .ok (.iconst (-1), 1) := by decide +kernel
theorem dX3_leftBy_26 : decode cX3_leftBy 26 = .ok (.ixor, 1) := by decide +kernel
theorem dX3_leftBy_27 : decode cX3_leftBy 27 = .ok (.iand, 1) := by decide +kernel
theorem dX3_leftBy_28 : decode cX3_leftBy 28 = .ok (.invokevirtual 72, 3) := by decide +kernel
theorem dX3_leftBy_31 : decode cX3_leftBy 31 = .ok (.iconst (-1), 1) := by decide +kernel
theorem dX3_leftBy_32 : decode cX3_leftBy 32 = .ok (.ixor, 1) := by decide +kernel
theorem dX3_leftBy_33 : decode cX3_leftBy 33 = .ok (.iand, 1) := by decide +kernel
theorem dX3_leftBy_34 : decode cX3_leftBy 34 = .ok (.ireturn, 1) := by decide +kernel
set_option maxHeartbeats 4000000 in
set_option maxRecDepth 100000 in
theorem c_X3_leftBy (E : GE) (l : Launch) (a0 : Nat → Nat) (S0 : Ob) (x1 : Int32) (post : Int32 → Prop) (h : wp_X3_leftBy S0 x1 post) : Met l yX3_leftBy (wz yX3_leftBy cX3_leftBy 2 (some .int)) { frames := 4, cells := 0, slots := 0, locals := 84 } (gPc E [.ref (a0 99), .int x1] (gW [bScene E a0 S0])) (gQi E (gW [bScene E a0 S0]) (fun r (_ : Unit) => post r) (fun (_ : Unit) w => w = gW [bScene E a0 S0])) 0 0 (gIn (gW [bScene E a0 S0])) := by
  unfold wp_X3_leftBy at h
  refine g_of_i (by decide) (Nat.le_of_ble_eq_true rfl) ?_
  intro p e s m below meth c A Q hx hb hml hown ht hE hP hD hret ls hl
  have hK := hE.1
  have hS : va_S A s.heap s.heap [] := va_S.rf
  have hl : lv_has ls 2 [(0, .ref (a0 99)), (1, .int x1)] := hl
  refine lv_aload_n hx hb dX3_leftBy_0 rfl (lv_at hl 0 rfl) ?_
  refine lv_iload_n hx hb dX3_leftBy_1 rfl (lv_at hl 1 rfl) ?_
  have p1 := gB (n := 1) (bs := [bScene E a0 S0]) (bc := [bScene E a0 S0]) (br := []) [0] rfl rfl (by decide)
  refine g_i (g_runV (As := [.int x1]) (rest := []) ⟨hx, hb, hml, hown, ht⟩ hE (c_X3_canShutOn E l a0 S0 x1 _ h) ⟨rfl, rfl⟩ wk_X3_79 wi_X3_canShutOn ws_X3_canShutOn wn_X3 wc_X3_canShutOn yd_X3_canShutOn ⟨Nat.le_of_ble_eq_true rfl, Nat.le_of_ble_eq_true rfl⟩ hP hD p1 (ci := 3) rfl rfl rfl rfl rfl hl.1 rfl (lv_room (Nat.le_of_ble_eq_true rfl)) dX3_leftBy_2 ⟨Nat.zero_le _, Nat.zero_le _⟩) hP hD hS p1 (fun r_1 _ w H locs h hw hP hD hS => ?_)
  subst hw
  clear p1
  have p2 := gB (n := 1) (bs := [bScene E a0 S0]) (bc := [bScene E a0 S0]) (br := []) [0] rfl rfl (by decide)
  have hP := gP_perm p2.symm hP
  have hD := gD_perm p2.symm hD
  clear p2
  refine lv_if_ne (tgt := 11) hx hb dX3_leftBy_5 (by decide) (fun c_2 => ?_) (fun c_2 => ?_)
  · have h := h.1 c_2
    refine lv_aload_n hx hb dX3_leftBy_11 rfl (lv_at hl 0 rfl) ?_
    have p1 := gB (n := 1) (bs := [bScene E a0 S0]) (bc := [bScene E a0 S0]) (br := []) [0] rfl rfl (by decide)
    refine g_i (g_runV (As := []) (rest := []) ⟨hx, hb, hml, hown, ht⟩ hE (c_X3_whoGetsIn E l a0 S0 _ h) ⟨rfl, rfl⟩ wk_X3_82 wi_X3_whoGetsIn ws_X3_whoGetsIn wn_X3 wc_X3_whoGetsIn yd_X3_whoGetsIn ⟨Nat.le_of_ble_eq_true rfl, Nat.le_of_ble_eq_true rfl⟩ hP hD p1 (ci := 3) rfl rfl rfl rfl rfl hl.1 rfl (lv_room (Nat.le_of_ble_eq_true rfl)) dX3_leftBy_12 ⟨Nat.zero_le _, Nat.zero_le _⟩) hP hD hS p1 (fun r_3 _ w H locs h hw hP hD hS => ?_)
    subst hw
    clear p1
    have p2 := gB (n := 1) (bs := [bScene E a0 S0]) (bc := [bScene E a0 S0]) (br := []) [0] rfl rfl (by decide)
    have hP := gP_perm p2.symm hP
    have hD := gD_perm p2.symm hD
    clear p2
    refine lv_aload_n hx hb dX3_leftBy_15 rfl (lv_at hl 0 rfl) ?_
    refine lv_aload_n hx hb dX3_leftBy_16 rfl (lv_at hl 0 rfl) ?_
    have p1 := gB (n := 1) (bs := [bScene E a0 S0]) (bc := [bScene E a0 S0]) (br := []) [0] rfl rfl (by decide)
    refine g_i (g_runV (As := []) (rest := [.ref (a0 99), .int r_3]) ⟨hx, hb, hml, hown, ht⟩ hE (c_X3_ringBits E l a0 S0 _ h) ⟨rfl, rfl⟩ wk_X3_55 wi_X3_ringBits ws_X3_ringBits wn_X3 wc_X3_ringBits yd_X3_ringBits ⟨Nat.le_of_ble_eq_true rfl, Nat.le_of_ble_eq_true rfl⟩ hP hD p1 (ci := 3) rfl rfl rfl rfl rfl hl.1 rfl (lv_room (Nat.le_of_ble_eq_true rfl)) dX3_leftBy_17 ⟨Nat.zero_le _, Nat.zero_le _⟩) hP hD hS p1 (fun r_4 _ w H locs h hw hP hD hS => ?_)
    subst hw
    clear p1
    have p2 := gB (n := 1) (bs := [bScene E a0 S0]) (bc := [bScene E a0 S0]) (br := []) [0] rfl rfl (by decide)
    have hP := gP_perm p2.symm hP
    have hD := gD_perm p2.symm hD
    clear p2
    refine lv_aload_n hx hb dX3_leftBy_20 rfl (lv_at hl 0 rfl) ?_
    refine lv_iload_n hx hb dX3_leftBy_21 rfl (lv_at hl 1 rfl) ?_
    have p1 := gB (n := 1) (bs := [bScene E a0 S0]) (bc := [bScene E a0 S0]) (br := []) [0] rfl rfl (by decide)
    refine g_i (g_runV (As := [.int x1]) (rest := [.int r_4, .ref (a0 99), .int r_3]) ⟨hx, hb, hml, hown, ht⟩ hE (c_X3_between E l a0 S0 x1 _ h) ⟨rfl, rfl⟩ wk_X3_85 wi_X3_between ws_X3_between wn_X3 wc_X3_between yd_X3_between ⟨Nat.le_of_ble_eq_true rfl, Nat.le_of_ble_eq_true rfl⟩ hP hD p1 (ci := 3) rfl rfl rfl rfl rfl hl.1 rfl (lv_room (Nat.le_of_ble_eq_true rfl)) dX3_leftBy_22 ⟨Nat.zero_le _, Nat.zero_le _⟩) hP hD hS p1 (fun r_5 _ w H locs h hw hP hD hS => ?_)
    subst hw
    clear p1
    have p2 := gB (n := 1) (bs := [bScene E a0 S0]) (bc := [bScene E a0 S0]) (br := []) [0] rfl rfl (by decide)
    have hP := gP_perm p2.symm hP
    have hD := gD_perm p2.symm hD
    clear p2
    refine lv_iconst (v := (-1)) hx hb dX3_leftBy_25 (by decide) ?_
    refine lv_ixor hx hb dX3_leftBy_26 ?_
    refine lv_iand hx hb dX3_leftBy_27 ?_
    have p1 := gB (n := 1) (bs := [bScene E a0 S0]) (bc := [bScene E a0 S0]) (br := []) [0] rfl rfl (by decide)
    refine g_i (g_runV (As := [.int (r_4 &&& (r_5 ^^^ (-1)))]) (rest := [.int r_3]) ⟨hx, hb, hml, hown, ht⟩ hE (c_X3_whoKnowsAny E l a0 S0 (r_4 &&& (r_5 ^^^ (-1))) _ h) ⟨rfl, rfl⟩ wk_X3_72 wi_X3_whoKnowsAny ws_X3_whoKnowsAny wn_X3 wc_X3_whoKnowsAny yd_X3_whoKnowsAny ⟨Nat.le_of_ble_eq_true rfl, Nat.le_of_ble_eq_true rfl⟩ hP hD p1 (ci := 3) rfl rfl rfl rfl rfl hl.1 rfl (lv_room (Nat.le_of_ble_eq_true rfl)) dX3_leftBy_28 ⟨Nat.zero_le _, Nat.zero_le _⟩) hP hD hS p1 (fun r_6 _ w H locs h hw hP hD hS => ?_)
    subst hw
    clear p1
    have p2 := gB (n := 1) (bs := [bScene E a0 S0]) (bc := [bScene E a0 S0]) (br := []) [0] rfl rfl (by decide)
    have hP := gP_perm p2.symm hP
    have hD := gD_perm p2.symm hD
    clear p2
    refine lv_iconst (v := (-1)) hx hb dX3_leftBy_31 (by decide) ?_
    refine lv_ixor hx hb dX3_leftBy_32 ?_
    refine lv_iand hx hb dX3_leftBy_33 ?_
    exact hret (r_3 &&& (r_6 ^^^ (-1))) () _ _ _ _ _ h rfl hP hD hS dX3_leftBy_34
  · have h := h.2 c_2
    refine lv_bipush (v := (-9)) hx hb dX3_leftBy_8 (by decide) ?_
    exact hret (-9) () _ _ _ _ _ h rfl hP hD hS dX3_leftBy_10
theorem dX3_shutOn_0 : decode cX3_shutOn 0 = .ok (.aload_n 0, 1) := by decide +kernel
theorem dX3_shutOn_1 : decode cX3_shutOn 1 = .ok (.iload_n 1, 1) := by decide +kernel
theorem dX3_shutOn_2 : decode cX3_shutOn 2 = .ok (.invokevirtual 85, 3) := by decide +kernel
theorem dX3_shutOn_5 : decode cX3_shutOn 5 = .ok (.istore_n 3, 1) := by decide +kernel
theorem dX3_shutOn_6 : decode cX3_shutOn 6 = .ok (.iconst 0, 1) := by decide +kernel
theorem dX3_shutOn_7 : decode cX3_shutOn 7 = .ok (.istore 4, 2) := by decide +kernel
theorem dX3_shutOn_9 : decode cX3_shutOn 9 = .ok (.iload 4, 2) := by decide +kernel
theorem dX3_shutOn_11 : decode cX3_shutOn 11 = .ok (.bipush 8, 2) := by decide +kernel
theorem dX3_shutOn_13 : decode cX3_shutOn 13 = .ok (.if_icmp .ge 27, 3) := by decide +kernel
theorem dX3_shutOn_16 : decode cX3_shutOn 16 = .ok (.iload_n 3, 1) := by decide +kernel
theorem dX3_shutOn_17 : decode cX3_shutOn 17 = .ok (.iload 4, 2) := by decide +kernel
theorem dX3_shutOn_19 : decode cX3_shutOn 19 = .ok (.invokestatic 64, 3) := by decide +kernel
theorem dX3_shutOn_22 : decode cX3_shutOn 22 = .ok (.ifCond .eq 12, 3) := by decide +kernel
theorem dX3_shutOn_25 : decode cX3_shutOn 25 = .ok (.aload_n 0, 1) := by decide +kernel
theorem dX3_shutOn_26 : decode cX3_shutOn 26 = .ok (.getfield 21, 3) := by decide +kernel
theorem dX3_shutOn_29 : decode cX3_shutOn 29 = .ok (.iload 4, 2) := by decide +kernel
theorem dX3_shutOn_31 : decode cX3_shutOn 31 = .ok (.bipush (-9), 2) := by decide +kernel
theorem dX3_shutOn_33 : decode cX3_shutOn 33 = .ok (.iastore, 1) := by decide +kernel
theorem dX3_shutOn_34 : decode cX3_shutOn 34 = .ok (.iinc 4 1, 3) := by decide +kernel
theorem dX3_shutOn_37 : decode cX3_shutOn 37 = .ok (.goto (-28), 3) := by decide +kernel
theorem dX3_shutOn_40 : decode cX3_shutOn 40 = .ok (.aload_n 0, 1) := by decide +kernel
theorem dX3_shutOn_41 : decode cX3_shutOn 41 = .ok (.getfield 21, 3) := by decide +kernel
theorem dX3_shutOn_44 : decode cX3_shutOn 44 = .ok (.aload_n 0, 1) := by decide +kernel
theorem dX3_shutOn_45 : decode cX3_shutOn 45 = .ok (.getfield 24, 3) := by decide +kernel
theorem dX3_shutOn_48 : decode cX3_shutOn 48 = .ok (.iload_n 1, 1) := by decide +kernel
theorem dX3_shutOn_49 : decode cX3_shutOn 49 = .ok (.iastore, 1) := by decide +kernel
theorem dX3_shutOn_50 : decode cX3_shutOn 50 = .ok (.aload_n 0, 1) := by decide +kernel
theorem dX3_shutOn_51 : decode cX3_shutOn 51 = .ok (.getfield 15, 3) := by decide +kernel
theorem dX3_shutOn_54 : decode cX3_shutOn 54 = .ok (.aload_n 0, 1) := by decide +kernel
theorem dX3_shutOn_55 : decode cX3_shutOn 55 = .ok (.getfield 24, 3) := by decide +kernel
theorem dX3_shutOn_58 : decode cX3_shutOn 58 = .ok (.iload_n 2, 1) := by decide +kernel
theorem dX3_shutOn_59 : decode cX3_shutOn 59 = .ok (.iastore, 1) := by decide +kernel
theorem dX3_shutOn_60 : decode cX3_shutOn 60 = .ok (.aload_n 0, 1) := by decide +kernel
theorem dX3_shutOn_61 : decode cX3_shutOn 61 = .ok (.bipush (-9), 2) := by decide +kernel
theorem dX3_shutOn_63 : decode cX3_shutOn 63 = .ok (.putfield 24, 3) := by decide +kernel
theorem dX3_shutOn_66 : decode cX3_shutOn 66 = .ok (.iload_n 3, 1) := by decide +kernel
theorem dX3_shutOn_67 : decode cX3_shutOn 67 = .ok (.invokestatic 59, 3) := by decide +kernel
theorem dX3_shutOn_70 : decode cX3_shutOn 70 = .ok (.ireturn, 1) := by decide +kernel
set_option maxHeartbeats 4000000 in
set_option maxRecDepth 100000 in
theorem c_X3_shutOn (E : GE) (l : Launch) (a0 : Nat → Nat) (S0 : Ob) (x1 : Int32) (x2 : Int32) (post : Int32 → Ob → Prop) (h : wp_X3_shutOn S0 x1 x2 post) : Met l yX3_shutOn (wz yX3_shutOn cX3_shutOn 5 (some .int)) { frames := 2, cells := 0, slots := 0, locals := 45 } (gPc E [.ref (a0 99), .int x1, .int x2] (gW [bScene E a0 S0])) (gQi E (gW [bScene E a0 S0]) (fun r (u : Ob) => post r u) (fun (u : Ob) w => w = gW [bScene E a0 u])) 0 0 (gIn (gW [bScene E a0 S0])) := by
  unfold wp_X3_shutOn at h
  refine g_of_i (by decide) (Nat.le_of_ble_eq_true rfl) ?_
  intro p e s m below meth c A Q hx hb hml hown ht hE hP hD hret ls hl
  have hK := hE.1
  have hS : va_S A s.heap s.heap [] := va_S.rf
  have hl : lv_has ls 5 [(0, .ref (a0 99)), (1, .int x1), (2, .int x2)] := hl
  refine lv_aload_n hx hb dX3_shutOn_0 rfl (lv_at hl 0 rfl) ?_
  refine lv_iload_n hx hb dX3_shutOn_1 rfl (lv_at hl 1 rfl) ?_
  have p1 := gB (n := 1) (bs := [bScene E a0 S0]) (bc := [bScene E a0 S0]) (br := []) [0] rfl rfl (by decide)
  refine g_i (g_runV (As := [.int x1]) (rest := []) ⟨hx, hb, hml, hown, ht⟩ hE (c_X3_between E l a0 S0 x1 _ h) ⟨rfl, rfl⟩ wk_X3_85 wi_X3_between ws_X3_between wn_X3 wc_X3_between yd_X3_between ⟨Nat.le_of_ble_eq_true rfl, Nat.le_of_ble_eq_true rfl⟩ hP hD p1 (ci := 3) rfl rfl rfl rfl rfl hl.1 rfl (lv_room (Nat.le_of_ble_eq_true rfl)) dX3_shutOn_2 ⟨Nat.zero_le _, Nat.zero_le _⟩) hP hD hS p1 (fun r_1 _ w H locs h hw hP hD hS => ?_)
  subst hw
  clear p1
  have p2 := gB (n := 1) (bs := [bScene E a0 S0]) (bc := [bScene E a0 S0]) (br := []) [0] rfl rfl (by decide)
  have hP := gP_perm p2.symm hP
  have hD := gD_perm p2.symm hD
  clear p2
  refine lv_istore_n (lv' := [(3, .int r_1), (0, .ref (a0 99)), (1, .int x1), (2, .int x2)]) hx hb dX3_shutOn_5 rfl hl (by decide) rfl (fun ls hl => ?_)
  refine lv_iconst (v := 0) hx hb dX3_shutOn_6 (by decide) ?_
  refine lv_istore (lv' := [(4, .int 0), (3, .int r_1), (0, .ref (a0 99)), (1, .int x1), (2, .int x2)]) hx hb dX3_shutOn_7 hl (by decide) rfl (fun ls hl => ?_)
  have L9 : ∀ (n9 : Nat) (x4_9 : Int32) (S0_9 : Ob) (H : Heap) (locs : List Loc) (ls : Array Slot), wp_X3_shutOn_L9 post x1 x2 r_1 n9 x4_9 S0_9 → gP E (gW [bScene E a0 S0_9]) H → va_D A (gW [bScene E a0 S0_9]) → va_S A s.heap H locs → lv_has ls 5 [(0, .ref (a0 99)), (1, .int x1), (2, .int x2), (3, .int r_1), (4, .int x4_9)] → W p l e { frames := 2, cells := 0, slots := 0, locals := 45 } s m ([.ref (a0 99), .int x1, .int x2] : List Value).toArray below meth c H locs 0 0 Q (F0 m 9 ls []) := by
    intro n9
    induction n9 with
    | zero => intro x4_9 S0_9 H locs ls h; exact h.elim
    | succ n9 ih9 =>
      intro x4_9 S0_9 H locs ls h hP hD hS hl
      rw [wp_X3_shutOn_L9] at h
      refine lv_iload hx hb dX3_shutOn_9 (lv_at hl 4 rfl) ?_
      refine lv_bipush (v := 8) hx hb dX3_shutOn_11 (by decide) ?_
      refine lv_icmp_ge (tgt := 40) hx hb dX3_shutOn_13 (by decide) (fun c_8 => ?_) (fun c_8 => ?_)
      · have h := h.1 c_8
        refine lv_aload_n hx hb dX3_shutOn_40 rfl (lv_at hl 0 rfl) ?_
        refine va_get (D := (E.1, E.2.1)) (ci := 3) (v := .ref (a0 3)) (C := RX3) (T := TX3) (N := 5) hx hb ht wu_X3 hown hK hP 0 rfl rfl 3 (by decide) (ht _ wk_X3_21) (fun _ h9 => h9) rfl dX3_shutOn_41 ?_
        refine lv_aload_n hx hb dX3_shutOn_44 rfl (lv_at hl 0 rfl) ?_
        refine va_get (D := (E.1, E.2.1)) (ci := 3) (v := .int (S0_9.1 4)) (C := RX3) (T := TX3) (N := 5) hx hb ht wu_X3 hown hK hP 0 rfl rfl 4 (by decide) (ht _ wk_X3_24) (fun _ h9 => h9) rfl dX3_shutOn_45 ?_
        refine lv_iload_n hx hb dX3_shutOn_48 rfl (lv_at hl 1 rfl) ?_
        refine va_iast hx hb hK hP hD hS 4 0 rfl rfl h.1 dX3_shutOn_49 (fun H locs hP hD hS => ?_)
        have h := h.2
        have hP : gP E (gW [bScene E a0 (pa S0_9 3 ((S0_9.1 4).toNatClampNeg) x1)]) H := hP
        have hD : va_D A (gW [bScene E a0 (pa S0_9 3 ((S0_9.1 4).toNatClampNeg) x1)]) := hD
        obtain ⟨S_9, eS_9⟩ : ∃ z : Ob, z = (pa S0_9 3 ((S0_9.1 4).toNatClampNeg) x1) := ⟨_, rfl⟩
        have h := h S_9 eS_9
        rw [← eS_9] at hP hD
        refine lv_aload_n hx hb dX3_shutOn_50 rfl (lv_at hl 0 rfl) ?_
        refine va_get (D := (E.1, E.2.1)) (ci := 3) (v := .ref (a0 1)) (C := RX3) (T := TX3) (N := 5) hx hb ht wu_X3 hown hK hP 0 rfl rfl 1 (by decide) (ht _ wk_X3_15) (fun _ h9 => h9) rfl dX3_shutOn_51 ?_
        refine lv_aload_n hx hb dX3_shutOn_54 rfl (lv_at hl 0 rfl) ?_
        refine va_get (D := (E.1, E.2.1)) (ci := 3) (v := .int (S_9.1 4)) (C := RX3) (T := TX3) (N := 5) hx hb ht wu_X3 hown hK hP 0 rfl rfl 4 (by decide) (ht _ wk_X3_24) (fun _ h9 => h9) rfl dX3_shutOn_55 ?_
        refine lv_iload_n hx hb dX3_shutOn_58 rfl (lv_at hl 2 rfl) ?_
        refine va_iast hx hb hK hP hD hS 2 0 rfl rfl h.1 dX3_shutOn_59 (fun H locs hP hD hS => ?_)
        have h := h.2
        have hP : gP E (gW [bScene E a0 (pa S_9 1 ((S_9.1 4).toNatClampNeg) x2)]) H := hP
        have hD : va_D A (gW [bScene E a0 (pa S_9 1 ((S_9.1 4).toNatClampNeg) x2)]) := hD
        obtain ⟨S_10, eS_10⟩ : ∃ z : Ob, z = (pa S_9 1 ((S_9.1 4).toNatClampNeg) x2) := ⟨_, rfl⟩
        have h := h S_10 eS_10
        rw [← eS_10] at hP hD
        refine lv_aload_n hx hb dX3_shutOn_60 rfl (lv_at hl 0 rfl) ?_
        refine lv_bipush (v := (-9)) hx hb dX3_shutOn_61 (by decide) ?_
        refine va_put (D := (E.1, E.2.1)) (ci := 3) (v := .int (-9)) (ty := .int) (C := RX3) (T := TX3) (N := 5) hx hb ht wu_X3 tyX3 tyX3_ok nmX3 hown hK hP hD hS 0 rfl rfl 4 (by decide) (ht _ wk_X3_24) (fun _ h9 => h9) rfl (by decide +kernel) rfl rfl (Nat.le_of_ble_eq_true rfl) dX3_shutOn_63 (fun H locs hP hD hS => ?_)
        have hP : gP E (gW [bScene E a0 (pf S_10 4 (-9))]) H := hP
        have hD : va_D A (gW [bScene E a0 (pf S_10 4 (-9))]) := hD
        refine lv_iload_n hx hb dX3_shutOn_66 rfl (lv_at hl 3 rfl) ?_
        have p1 := gB (n := 1) (bs := [bScene E a0 (pf S_10 4 (-9))]) (bc := []) (br := [bScene E a0 (pf S_10 4 (-9))]) [0] rfl rfl (by decide)
        refine g_i (g_runS (As := [.int r_1]) (rest := []) ⟨hx, hb, hml, hown, ht⟩ hE (c_J6_bitCount_0f7a4 E l r_1 _ h) ⟨rfl, rfl⟩ wk_X3_59 wt_J6_bitCount_0f7a4 wn_J6 wc_J6_bitCount_0f7a4 yd_J6_bitCount_0f7a4 ⟨Nat.le_of_ble_eq_true rfl, Nat.le_of_ble_eq_true rfl⟩ hP hD p1 rfl rfl hl.1 rfl (lv_room (Nat.le_of_ble_eq_true rfl)) dX3_shutOn_67 ⟨Nat.zero_le _, Nat.zero_le _⟩) hP hD hS p1 (fun r_11 _ w H locs h hw hP hD hS => ?_)
        subst hw
        clear p1
        have p2 := gB (n := 1) (bs := [bScene E a0 (pf S_10 4 (-9))]) (bc := []) (br := [bScene E a0 (pf S_10 4 (-9))]) [0] rfl rfl (by decide)
        have hP := gP_perm p2.symm hP
        have hD := gD_perm p2.symm hD
        clear p2
        exact hret r_11 (pf S_10 4 (-9)) _ _ _ _ _ h rfl hP hD hS dX3_shutOn_70
      · have h := h.2 c_8
        refine lv_iload_n hx hb dX3_shutOn_16 rfl (lv_at hl 3 rfl) ?_
        refine lv_iload hx hb dX3_shutOn_17 (lv_at hl 4 rfl) ?_
        have p1 := gB (n := 1) (bs := [bScene E a0 S0_9]) (bc := []) (br := [bScene E a0 S0_9]) [0] rfl rfl (by decide)
        refine g_i (g_runSN (As := [.int r_1, .int x4_9]) (rest := []) ⟨hx, hb, hml, hown, ht⟩ hE (c_X5_hasBit E l r_1 x4_9 _ h) ⟨rfl, rfl⟩ hE.2.1.2.2.2.1 wt_X5_hasBit wn_X5 wc_X5_hasBit yd_X5_hasBit ⟨Nat.le_of_ble_eq_true rfl, Nat.le_of_ble_eq_true rfl⟩ hP hD p1 rfl rfl hl.1 rfl (lv_room (Nat.le_of_ble_eq_true rfl)) dX3_shutOn_19 ⟨Nat.zero_le _, Nat.zero_le _⟩) hP hD hS p1 (fun r_12 _ w H locs h hw hP hD hS => ?_)
        subst hw
        clear p1
        have p2 := gB (n := 1) (bs := [bScene E a0 S0_9]) (bc := []) (br := [bScene E a0 S0_9]) [0] rfl rfl (by decide)
        have hP := gP_perm p2.symm hP
        have hD := gD_perm p2.symm hD
        clear p2
        refine lv_if_eq (tgt := 34) hx hb dX3_shutOn_22 (by decide) (fun c_13 => ?_) (fun c_13 => ?_)
        · have h := h.1 c_13
          refine lv_iinc (v := (x4_9 + 1)) (lv' := [(4, .int (x4_9 + 1)), (0, .ref (a0 99)), (1, .int x1), (2, .int x2), (3, .int r_1)]) hx hb dX3_shutOn_34 hl (k := 4) rfl rfl (by decide) rfl (fun ls hl => ?_)
          refine lv_goto (tgt := 9) hx hb dX3_shutOn_37 (by decide) ?_
          exact ih9 (x4_9 + 1) S0_9 _ _ _ h hP hD hS (lv_sub hl [1, 2, 3, 4, 0] rfl)
        · have h := h.2 c_13
          refine lv_aload_n hx hb dX3_shutOn_25 rfl (lv_at hl 0 rfl) ?_
          refine va_get (D := (E.1, E.2.1)) (ci := 3) (v := .ref (a0 3)) (C := RX3) (T := TX3) (N := 5) hx hb ht wu_X3 hown hK hP 0 rfl rfl 3 (by decide) (ht _ wk_X3_21) (fun _ h9 => h9) rfl dX3_shutOn_26 ?_
          refine lv_iload hx hb dX3_shutOn_29 (lv_at hl 4 rfl) ?_
          refine lv_bipush (v := (-9)) hx hb dX3_shutOn_31 (by decide) ?_
          refine va_iast hx hb hK hP hD hS 4 0 rfl rfl h.1 dX3_shutOn_33 (fun H locs hP hD hS => ?_)
          have h := h.2
          have hP : gP E (gW [bScene E a0 (pa S0_9 3 (x4_9.toNatClampNeg) (-9))]) H := hP
          have hD : va_D A (gW [bScene E a0 (pa S0_9 3 (x4_9.toNatClampNeg) (-9))]) := hD
          refine lv_iinc (v := (x4_9 + 1)) (lv' := [(4, .int (x4_9 + 1)), (0, .ref (a0 99)), (1, .int x1), (2, .int x2), (3, .int r_1)]) hx hb dX3_shutOn_34 hl (k := 4) rfl rfl (by decide) rfl (fun ls hl => ?_)
          refine lv_goto (tgt := 9) hx hb dX3_shutOn_37 (by decide) ?_
          exact ih9 (x4_9 + 1) (pa S0_9 3 (x4_9.toNatClampNeg) (-9)) _ _ _ h hP hD hS (lv_sub hl [1, 2, 3, 4, 0] rfl)
  obtain ⟨n9, h⟩ := h
  exact L9 n9 0 S0 _ _ _ h hP hD hS (lv_sub hl [2, 3, 4, 1, 0] rfl)
theorem dX3_hangIn_0 : decode cX3_hangIn 0 = .ok (.aload_n 0, 1) := by decide +kernel
theorem dX3_hangIn_1 : decode cX3_hangIn 1 = .ok (.getfield 21, 3) := by decide +kernel
theorem dX3_hangIn_4 : decode cX3_hangIn 4 = .ok (.iload_n 1, 1) := by decide +kernel
theorem dX3_hangIn_5 : decode cX3_hangIn 5 = .ok (.aload_n 0, 1) := by decide +kernel
theorem dX3_hangIn_6 : decode cX3_hangIn 6 = .ok (.getfield 21, 3) := by decide +kernel
theorem dX3_hangIn_9 : decode cX3_hangIn 9 = .ok (.aload_n 0, 1) := by decide +kernel
theorem dX3_hangIn_10 : decode cX3_hangIn 10 = .ok (.getfield 24, 3) := by decide +kernel
theorem dX3_hangIn_13 : decode cX3_hangIn 13 = .ok (.iaload, 1) := by decide +kernel
theorem dX3_hangIn_14 : decode cX3_hangIn 14 = .ok (.iastore, 1) := by decide +kernel
theorem dX3_hangIn_15 : decode cX3_hangIn 15 = .ok (.aload_n 0, 1) := by decide +kernel
theorem dX3_hangIn_16 : decode cX3_hangIn 16 = .ok (.getfield 21, 3) := by decide +kernel
theorem dX3_hangIn_19 : decode cX3_hangIn 19 = .ok (.aload_n 0, 1) := by decide +kernel
theorem dX3_hangIn_20 : decode cX3_hangIn 20 = .ok (.getfield 24, 3) := by decide +kernel
theorem dX3_hangIn_23 : decode cX3_hangIn 23 = .ok (.iload_n 1, 1) := by decide +kernel
theorem dX3_hangIn_24 : decode cX3_hangIn 24 = .ok (.iastore, 1) := by decide +kernel
theorem dX3_hangIn_25 : decode cX3_hangIn 25 = .ok (.return_, 1) := by decide +kernel
set_option maxHeartbeats 4000000 in
set_option maxRecDepth 100000 in
theorem c_X3_hangIn (E : GE) (l : Launch) (a0 : Nat → Nat) (S0 : Ob) (x1 : Int32) (post : Ob → Prop) (h : wp_X3_hangIn S0 x1 post) : Met l yX3_hangIn (wz yX3_hangIn cX3_hangIn 2 none) { frames := 0, cells := 0, slots := 0, locals := 0 } (gPc E [.ref (a0 99), .int x1] (gW [bScene E a0 S0])) (gQv E (gW [bScene E a0 S0]) (fun (u : Ob) => post u) (fun (u : Ob) w => w = gW [bScene E a0 u])) 0 0 (gIn (gW [bScene E a0 S0])) := by
  unfold wp_X3_hangIn at h
  refine g_of_v (by decide) (Nat.le_of_ble_eq_true rfl) ?_
  intro p e s m below meth c A Q hx hb hml hown ht hE hP hD hret ls hl
  have hK := hE.1
  have hS : va_S A s.heap s.heap [] := va_S.rf
  have hl : lv_has ls 2 [(0, .ref (a0 99)), (1, .int x1)] := hl
  refine lv_aload_n hx hb dX3_hangIn_0 rfl (lv_at hl 0 rfl) ?_
  refine va_get (D := (E.1, E.2.1)) (ci := 3) (v := .ref (a0 3)) (C := RX3) (T := TX3) (N := 5) hx hb ht wu_X3 hown hK hP 0 rfl rfl 3 (by decide) (ht _ wk_X3_21) (fun _ h9 => h9) rfl dX3_hangIn_1 ?_
  refine lv_iload_n hx hb dX3_hangIn_4 rfl (lv_at hl 1 rfl) ?_
  refine lv_aload_n hx hb dX3_hangIn_5 rfl (lv_at hl 0 rfl) ?_
  refine va_get (D := (E.1, E.2.1)) (ci := 3) (v := .ref (a0 3)) (C := RX3) (T := TX3) (N := 5) hx hb ht wu_X3 hown hK hP 0 rfl rfl 3 (by decide) (ht _ wk_X3_21) (fun _ h9 => h9) rfl dX3_hangIn_6 ?_
  refine lv_aload_n hx hb dX3_hangIn_9 rfl (lv_at hl 0 rfl) ?_
  refine va_get (D := (E.1, E.2.1)) (ci := 3) (v := .int (S0.1 4)) (C := RX3) (T := TX3) (N := 5) hx hb ht wu_X3 hown hK hP 0 rfl rfl 4 (by decide) (ht _ wk_X3_24) (fun _ h9 => h9) rfl dX3_hangIn_10 ?_
  refine va_iald hx hb hK hP 4 0 rfl rfl h.1 dX3_hangIn_13 ?_
  have h := h.2
  refine va_iast hx hb hK hP hD hS 4 0 rfl rfl h.1 dX3_hangIn_14 (fun H locs hP hD hS => ?_)
  have h := h.2
  have hP : gP E (gW [bScene E a0 (pa S0 3 (x1.toNatClampNeg) (S0.2 3 (S0.1 4).toNatClampNeg))]) H := hP
  have hD : va_D A (gW [bScene E a0 (pa S0 3 (x1.toNatClampNeg) (S0.2 3 (S0.1 4).toNatClampNeg))]) := hD
  obtain ⟨S_1, eS_1⟩ : ∃ z : Ob, z = (pa S0 3 (x1.toNatClampNeg) (S0.2 3 (S0.1 4).toNatClampNeg)) := ⟨_, rfl⟩
  have h := h S_1 eS_1
  rw [← eS_1] at hP hD
  refine lv_aload_n hx hb dX3_hangIn_15 rfl (lv_at hl 0 rfl) ?_
  refine va_get (D := (E.1, E.2.1)) (ci := 3) (v := .ref (a0 3)) (C := RX3) (T := TX3) (N := 5) hx hb ht wu_X3 hown hK hP 0 rfl rfl 3 (by decide) (ht _ wk_X3_21) (fun _ h9 => h9) rfl dX3_hangIn_16 ?_
  refine lv_aload_n hx hb dX3_hangIn_19 rfl (lv_at hl 0 rfl) ?_
  refine va_get (D := (E.1, E.2.1)) (ci := 3) (v := .int (S_1.1 4)) (C := RX3) (T := TX3) (N := 5) hx hb ht wu_X3 hown hK hP 0 rfl rfl 4 (by decide) (ht _ wk_X3_24) (fun _ h9 => h9) rfl dX3_hangIn_20 ?_
  refine lv_iload_n hx hb dX3_hangIn_23 rfl (lv_at hl 1 rfl) ?_
  refine va_iast hx hb hK hP hD hS 4 0 rfl rfl h.1 dX3_hangIn_24 (fun H locs hP hD hS => ?_)
  have h := h.2
  have hP : gP E (gW [bScene E a0 (pa S_1 3 ((S_1.1 4).toNatClampNeg) x1)]) H := hP
  have hD : va_D A (gW [bScene E a0 (pa S_1 3 ((S_1.1 4).toNatClampNeg) x1)]) := hD
  obtain ⟨S_2, eS_2⟩ : ∃ z : Ob, z = (pa S_1 3 ((S_1.1 4).toNatClampNeg) x1) := ⟨_, rfl⟩
  have h := h S_2 eS_2
  rw [← eS_2] at hP hD
  exact hret S_2 _ _ _ _ _ h rfl hP hD hS dX3_hangIn_25
theorem dX3_giveCode_0 : decode cX3_giveCode 0 = .ok (.aload_n 0, 1) := by decide +kernel
theorem dX3_giveCode_1 : decode cX3_giveCode 1 = .ok (.getfield 18, 3) := by decide +kernel
theorem dX3_giveCode_4 : decode cX3_giveCode 4 = .ok (.aload_n 0, 1) := by decide +kernel
theorem dX3_giveCode_5 : decode cX3_giveCode 5 = .ok (.getfield 24, 3) := by decide +kernel
theorem dX3_giveCode_8 : decode cX3_giveCode 8 = .ok (.iaload, 1) := by decide +kernel
theorem dX3_giveCode_9 : decode cX3_giveCode 9 = .ok (.iconst 1, 1) := by decide +kernel
theorem dX3_giveCode_10 : decode cX3_giveCode 10 = .ok (.iload_n 1, 1) := by decide +kernel
theorem dX3_giveCode_11 : decode cX3_giveCode 11 = .ok (.ishl, 1) := by decide +kernel
theorem dX3_giveCode_12 : decode cX3_giveCode 12 = .ok (.iconst (-1), 1) := by decide +kernel
theorem dX3_giveCode_13 : decode cX3_giveCode 13 = .ok (.ixor, 1) := by decide +kernel
theorem dX3_giveCode_14 : decode cX3_giveCode 14 = .ok (.iand, 1) := by decide +kernel
theorem dX3_giveCode_15 : decode cX3_giveCode 15 = .ok (.invokestatic 59, 3) := by decide +kernel
theorem dX3_giveCode_18 : decode cX3_giveCode 18 = .ok (.istore_n 3, 1) := by decide +kernel
theorem dX3_giveCode_19 : decode cX3_giveCode 19 = .ok (.aload_n 0, 1) := by decide +kernel
theorem dX3_giveCode_20 : decode cX3_giveCode 20 = .ok (.getfield 9, 3) := by decide +kernel
theorem dX3_giveCode_23 : decode cX3_giveCode 23 = .ok (.aload_n 0, 1) := by decide +kernel
theorem dX3_giveCode_24 : decode cX3_giveCode 24 = .ok (.getfield 24, 3) := by decide +kernel
theorem dX3_giveCode_27 : decode cX3_giveCode 27 = .ok (.iload_n 2, 1) := by decide +kernel
theorem dX3_giveCode_28 : decode cX3_giveCode 28 = .ok (.iastore, 1) := by decide +kernel
theorem dX3_giveCode_29 : decode cX3_giveCode 29 = .ok (.aload_n 0, 1) := by decide +kernel
theorem dX3_giveCode_30 : decode cX3_giveCode 30 = .ok (.getfield 15, 3) := by decide +kernel
theorem dX3_giveCode_33 : decode cX3_giveCode 33 = .ok (.aload_n 0, 1) := by decide +kernel
theorem dX3_giveCode_34 : decode cX3_giveCode 34 = .ok (.getfield 24, 3) := by decide +kernel
theorem dX3_giveCode_37 : decode cX3_giveCode 37 = .ok (.iload_n 2, 1) := by decide +kernel
theorem dX3_giveCode_38 : decode cX3_giveCode 38 = .ok (.iastore, 1) := by decide +kernel
theorem dX3_giveCode_39 : decode cX3_giveCode 39 = .ok (.aload_n 0, 1) := by decide +kernel
theorem dX3_giveCode_40 : decode cX3_giveCode 40 = .ok (.getfield 18, 3) := by decide +kernel
theorem dX3_giveCode_43 : decode cX3_giveCode 43 = .ok (.aload_n 0, 1) := by decide +kernel
theorem dX3_giveCode_44 : decode cX3_giveCode 44 = .ok (.getfield 24, 3) := by decide +kernel
theorem dX3_giveCode_47 : decode cX3_giveCode 47 = .ok (.iconst 1, 1) := by decide +kernel
theorem dX3_giveCode_48 : decode cX3_giveCode 48 = .ok (.iload_n 1, 1) := by decide +kernel
theorem dX3_giveCode_49 : decode cX3_giveCode 49 = .ok (.ishl, 1) := by decide +kernel
theorem dX3_giveCode_50 : decode cX3_giveCode 50 = .ok (.iastore, 1) := by decide +kernel
theorem dX3_giveCode_51 : decode cX3_giveCode 51 = .ok (.iload_n 3, 1) := by decide +kernel
theorem dX3_giveCode_52 : decode cX3_giveCode 52 = .ok (.ireturn, 1) := by decide +kernel
set_option maxHeartbeats 4000000 in
set_option maxRecDepth 100000 in
theorem c_X3_giveCode (E : GE) (l : Launch) (a0 : Nat → Nat) (S0 : Ob) (x1 : Int32) (x2 : Int32) (post : Int32 → Ob → Prop) (h : wp_X3_giveCode S0 x1 x2 post) : Met l yX3_giveCode (wz yX3_giveCode cX3_giveCode 4 (some .int)) { frames := 1, cells := 0, slots := 0, locals := 20 } (gPc E [.ref (a0 99), .int x1, .int x2] (gW [bScene E a0 S0])) (gQi E (gW [bScene E a0 S0]) (fun r (u : Ob) => post r u) (fun (u : Ob) w => w = gW [bScene E a0 u])) 0 0 (gIn (gW [bScene E a0 S0])) := by
  unfold wp_X3_giveCode at h
  refine g_of_i (by decide) (Nat.le_of_ble_eq_true rfl) ?_
  intro p e s m below meth c A Q hx hb hml hown ht hE hP hD hret ls hl
  have hK := hE.1
  have hS : va_S A s.heap s.heap [] := va_S.rf
  have hl : lv_has ls 4 [(0, .ref (a0 99)), (1, .int x1), (2, .int x2)] := hl
  refine lv_aload_n hx hb dX3_giveCode_0 rfl (lv_at hl 0 rfl) ?_
  refine va_get (D := (E.1, E.2.1)) (ci := 3) (v := .ref (a0 2)) (C := RX3) (T := TX3) (N := 5) hx hb ht wu_X3 hown hK hP 0 rfl rfl 2 (by decide) (ht _ wk_X3_18) (fun _ h9 => h9) rfl dX3_giveCode_1 ?_
  refine lv_aload_n hx hb dX3_giveCode_4 rfl (lv_at hl 0 rfl) ?_
  refine va_get (D := (E.1, E.2.1)) (ci := 3) (v := .int (S0.1 4)) (C := RX3) (T := TX3) (N := 5) hx hb ht wu_X3 hown hK hP 0 rfl rfl 4 (by decide) (ht _ wk_X3_24) (fun _ h9 => h9) rfl dX3_giveCode_5 ?_
  refine va_iald hx hb hK hP 3 0 rfl rfl h.1 dX3_giveCode_8 ?_
  have h := h.2
  refine lv_iconst (v := 1) hx hb dX3_giveCode_9 (by decide) ?_
  refine lv_iload_n hx hb dX3_giveCode_10 rfl (lv_at hl 1 rfl) ?_
  refine lv_ishl hx hb dX3_giveCode_11 ?_
  refine lv_iconst (v := (-1)) hx hb dX3_giveCode_12 (by decide) ?_
  refine lv_ixor hx hb dX3_giveCode_13 ?_
  refine lv_iand hx hb dX3_giveCode_14 ?_
  have p1 := gB (n := 1) (bs := [bScene E a0 S0]) (bc := []) (br := [bScene E a0 S0]) [0] rfl rfl (by decide)
  refine g_i (g_runS (As := [.int ((S0.2 2 (S0.1 4).toNatClampNeg) &&& (((1 : Int32) <<< (x1 &&& 31)) ^^^ (-1)))]) (rest := []) ⟨hx, hb, hml, hown, ht⟩ hE (c_J6_bitCount_0f7a4 E l ((S0.2 2 (S0.1 4).toNatClampNeg) &&& (((1 : Int32) <<< (x1 &&& 31)) ^^^ (-1))) _ h) ⟨rfl, rfl⟩ wk_X3_59 wt_J6_bitCount_0f7a4 wn_J6 wc_J6_bitCount_0f7a4 yd_J6_bitCount_0f7a4 ⟨Nat.le_of_ble_eq_true rfl, Nat.le_of_ble_eq_true rfl⟩ hP hD p1 rfl rfl hl.1 rfl (lv_room (Nat.le_of_ble_eq_true rfl)) dX3_giveCode_15 ⟨Nat.zero_le _, Nat.zero_le _⟩) hP hD hS p1 (fun r_1 _ w H locs h hw hP hD hS => ?_)
  subst hw
  clear p1
  have p2 := gB (n := 1) (bs := [bScene E a0 S0]) (bc := []) (br := [bScene E a0 S0]) [0] rfl rfl (by decide)
  have hP := gP_perm p2.symm hP
  have hD := gD_perm p2.symm hD
  clear p2
  refine lv_istore_n (lv' := [(3, .int r_1), (0, .ref (a0 99)), (1, .int x1), (2, .int x2)]) hx hb dX3_giveCode_18 rfl hl (by decide) rfl (fun ls hl => ?_)
  refine lv_aload_n hx hb dX3_giveCode_19 rfl (lv_at hl 1 rfl) ?_
  refine va_get (D := (E.1, E.2.1)) (ci := 3) (v := .ref (a0 0)) (C := RX3) (T := TX3) (N := 5) hx hb ht wu_X3 hown hK hP 0 rfl rfl 0 (by decide) (ht _ wk_X3_9) (fun _ h9 => h9) rfl dX3_giveCode_20 ?_
  refine lv_aload_n hx hb dX3_giveCode_23 rfl (lv_at hl 1 rfl) ?_
  refine va_get (D := (E.1, E.2.1)) (ci := 3) (v := .int (S0.1 4)) (C := RX3) (T := TX3) (N := 5) hx hb ht wu_X3 hown hK hP 0 rfl rfl 4 (by decide) (ht _ wk_X3_24) (fun _ h9 => h9) rfl dX3_giveCode_24 ?_
  refine lv_iload_n hx hb dX3_giveCode_27 rfl (lv_at hl 3 rfl) ?_
  refine va_iast hx hb hK hP hD hS 1 0 rfl rfl h.1 dX3_giveCode_28 (fun H locs hP hD hS => ?_)
  have h := h.2
  have hP : gP E (gW [bScene E a0 (pa S0 0 ((S0.1 4).toNatClampNeg) x2)]) H := hP
  have hD : va_D A (gW [bScene E a0 (pa S0 0 ((S0.1 4).toNatClampNeg) x2)]) := hD
  obtain ⟨S_2, eS_2⟩ : ∃ z : Ob, z = (pa S0 0 ((S0.1 4).toNatClampNeg) x2) := ⟨_, rfl⟩
  have h := h S_2 eS_2
  rw [← eS_2] at hP hD
  refine lv_aload_n hx hb dX3_giveCode_29 rfl (lv_at hl 1 rfl) ?_
  refine va_get (D := (E.1, E.2.1)) (ci := 3) (v := .ref (a0 1)) (C := RX3) (T := TX3) (N := 5) hx hb ht wu_X3 hown hK hP 0 rfl rfl 1 (by decide) (ht _ wk_X3_15) (fun _ h9 => h9) rfl dX3_giveCode_30 ?_
  refine lv_aload_n hx hb dX3_giveCode_33 rfl (lv_at hl 1 rfl) ?_
  refine va_get (D := (E.1, E.2.1)) (ci := 3) (v := .int (S_2.1 4)) (C := RX3) (T := TX3) (N := 5) hx hb ht wu_X3 hown hK hP 0 rfl rfl 4 (by decide) (ht _ wk_X3_24) (fun _ h9 => h9) rfl dX3_giveCode_34 ?_
  refine lv_iload_n hx hb dX3_giveCode_37 rfl (lv_at hl 3 rfl) ?_
  refine va_iast hx hb hK hP hD hS 2 0 rfl rfl h.1 dX3_giveCode_38 (fun H locs hP hD hS => ?_)
  have h := h.2
  have hP : gP E (gW [bScene E a0 (pa S_2 1 ((S_2.1 4).toNatClampNeg) x2)]) H := hP
  have hD : va_D A (gW [bScene E a0 (pa S_2 1 ((S_2.1 4).toNatClampNeg) x2)]) := hD
  obtain ⟨S_3, eS_3⟩ : ∃ z : Ob, z = (pa S_2 1 ((S_2.1 4).toNatClampNeg) x2) := ⟨_, rfl⟩
  have h := h S_3 eS_3
  rw [← eS_3] at hP hD
  refine lv_aload_n hx hb dX3_giveCode_39 rfl (lv_at hl 1 rfl) ?_
  refine va_get (D := (E.1, E.2.1)) (ci := 3) (v := .ref (a0 2)) (C := RX3) (T := TX3) (N := 5) hx hb ht wu_X3 hown hK hP 0 rfl rfl 2 (by decide) (ht _ wk_X3_18) (fun _ h9 => h9) rfl dX3_giveCode_40 ?_
  refine lv_aload_n hx hb dX3_giveCode_43 rfl (lv_at hl 1 rfl) ?_
  refine va_get (D := (E.1, E.2.1)) (ci := 3) (v := .int (S_3.1 4)) (C := RX3) (T := TX3) (N := 5) hx hb ht wu_X3 hown hK hP 0 rfl rfl 4 (by decide) (ht _ wk_X3_24) (fun _ h9 => h9) rfl dX3_giveCode_44 ?_
  refine lv_iconst (v := 1) hx hb dX3_giveCode_47 (by decide) ?_
  refine lv_iload_n hx hb dX3_giveCode_48 rfl (lv_at hl 2 rfl) ?_
  refine lv_ishl hx hb dX3_giveCode_49 ?_
  refine va_iast hx hb hK hP hD hS 3 0 rfl rfl h.1 dX3_giveCode_50 (fun H locs hP hD hS => ?_)
  have h := h.2
  have hP : gP E (gW [bScene E a0 (pa S_3 2 ((S_3.1 4).toNatClampNeg) ((1 : Int32) <<< (x1 &&& 31)))]) H := hP
  have hD : va_D A (gW [bScene E a0 (pa S_3 2 ((S_3.1 4).toNatClampNeg) ((1 : Int32) <<< (x1 &&& 31)))]) := hD
  obtain ⟨S_4, eS_4⟩ : ∃ z : Ob, z = (pa S_3 2 ((S_3.1 4).toNatClampNeg) ((1 : Int32) <<< (x1 &&& 31))) := ⟨_, rfl⟩
  have h := h S_4 eS_4
  rw [← eS_4] at hP hD
  refine lv_iload_n hx hb dX3_giveCode_51 rfl (lv_at hl 0 rfl) ?_
  exact hret r_1 S_4 _ _ _ _ _ h rfl hP hD hS dX3_giveCode_52
theorem dX4_append_0 : decode cX4_append 0 = .ok (.aload_n 0, 1) := by decide +kernel
theorem dX4_append_1 : decode cX4_append 1 = .ok (.getfield 15, 3) := by decide +kernel
theorem dX4_append_4 : decode cX4_append 4 = .ok (.sipush 150, 3) := by decide +kernel
theorem dX4_append_7 : decode cX4_append 7 = .ok (.if_icmp .lt 6, 3) := by decide +kernel
theorem dX4_append_10 : decode cX4_append 10 = .ok (.bipush (-3), 2) := by decide +kernel
theorem dX4_append_12 : decode cX4_append 12 = .ok (.ireturn, 1) := by decide +kernel
theorem dX4_append_13 : decode cX4_append 13 = .ok (.aload_n 0, 1) := by decide +kernel
theorem dX4_append_14 : decode cX4_append 14 = .ok (.getfield 9, 3) := by decide +kernel
theorem dX4_append_17 : decode cX4_append 17 = .ok (.aload_n 0, 1) := by decide +kernel
theorem dX4_append_18 : decode cX4_append 18 = .ok (.getfield 15, 3) := by decide +kernel
theorem dX4_append_21 : decode cX4_append 21 = .ok (.iload_n 1, 1) := by decide +kernel
theorem dX4_append_22 : decode cX4_append 22 = .ok (.iastore, 1) := by decide +kernel
theorem dX4_append_23 : decode cX4_append 23 = .ok (.aload_n 0, 1) := by decide +kernel
theorem dX4_append_24 : decode cX4_append 24 = .ok (.dup, 1) := by decide +kernel
theorem dX4_append_25 : decode cX4_append 25 = .ok (.getfield 15, 3) := by decide +kernel
theorem dX4_append_28 : decode cX4_append 28 = .ok (.iconst 1, 1) := by decide +kernel
theorem dX4_append_29 : decode cX4_append 29 = .ok (.iadd, 1) := by decide +kernel
theorem dX4_append_30 : decode cX4_append 30 = .ok (.putfield 15, 3) := by decide +kernel
theorem dX4_append_33 : decode cX4_append 33 = .ok (.aload_n 0, 1) := by decide +kernel
theorem dX4_append_34 : decode cX4_append 34 = .ok (.getfield 15, 3) := by decide +kernel
theorem dX4_append_37 : decode cX4_append 37 = .ok (.ireturn, 1) := by decide +kernel
set_option maxHeartbeats 4000000 in
set_option maxRecDepth 100000 in
theorem c_X4_append (E : GE) (l : Launch) (a0 : Nat → Nat) (S0 : Ob) (x1 : Int32) (post : Int32 → Ob → Prop) (h : wp_X4_append S0 x1 post) : Met l yX4_append (wz yX4_append cX4_append 2 (some .int)) { frames := 0, cells := 0, slots := 0, locals := 0 } (gPc E [.ref (a0 99), .int x1] (gW [bText E a0 S0])) (gQi E (gW [bText E a0 S0]) (fun r (u : Ob) => post r u) (fun (u : Ob) w => w = gW [bText E a0 u])) 0 0 (gIn (gW [bText E a0 S0])) := by
  unfold wp_X4_append at h
  refine g_of_i (by decide) (Nat.le_of_ble_eq_true rfl) ?_
  intro p e s m below meth c A Q hx hb hml hown ht hE hP hD hret ls hl
  have hK := hE.1
  have hS : va_S A s.heap s.heap [] := va_S.rf
  have hl : lv_has ls 2 [(0, .ref (a0 99)), (1, .int x1)] := hl
  refine lv_aload_n hx hb dX4_append_0 rfl (lv_at hl 0 rfl) ?_
  refine va_get (D := (E.1, E.2.1)) (ci := 4) (v := .int (S0.1 1)) (C := RX4) (T := TX4) (N := 6) hx hb ht wu_X4 hown hK hP 0 rfl rfl 1 (by decide) (ht _ wk_X4_15) (fun _ h9 => h9) rfl dX4_append_1 ?_
  refine lv_sipush (v := 150) hx hb dX4_append_4 (by decide) ?_
  refine lv_icmp_lt (tgt := 13) hx hb dX4_append_7 (by decide) (fun c_1 => ?_) (fun c_1 => ?_)
  · have h := h.1 c_1
    refine lv_aload_n hx hb dX4_append_13 rfl (lv_at hl 0 rfl) ?_
    refine va_get (D := (E.1, E.2.1)) (ci := 4) (v := .ref (a0 0)) (C := RX4) (T := TX4) (N := 6) hx hb ht wu_X4 hown hK hP 0 rfl rfl 0 (by decide) (ht _ wk_X4_9) (fun _ h9 => h9) rfl dX4_append_14 ?_
    refine lv_aload_n hx hb dX4_append_17 rfl (lv_at hl 0 rfl) ?_
    refine va_get (D := (E.1, E.2.1)) (ci := 4) (v := .int (S0.1 1)) (C := RX4) (T := TX4) (N := 6) hx hb ht wu_X4 hown hK hP 0 rfl rfl 1 (by decide) (ht _ wk_X4_15) (fun _ h9 => h9) rfl dX4_append_18 ?_
    refine lv_iload_n hx hb dX4_append_21 rfl (lv_at hl 1 rfl) ?_
    refine va_iast hx hb hK hP hD hS 1 0 rfl rfl h.1 dX4_append_22 (fun H locs hP hD hS => ?_)
    have h := h.2
    have hP : gP E (gW [bText E a0 (pa S0 0 ((S0.1 1).toNatClampNeg) x1)]) H := hP
    have hD : va_D A (gW [bText E a0 (pa S0 0 ((S0.1 1).toNatClampNeg) x1)]) := hD
    obtain ⟨S_2, eS_2⟩ : ∃ z : Ob, z = (pa S0 0 ((S0.1 1).toNatClampNeg) x1) := ⟨_, rfl⟩
    have h := h S_2 eS_2
    rw [← eS_2] at hP hD
    refine lv_aload_n hx hb dX4_append_23 rfl (lv_at hl 0 rfl) ?_
    refine lv_dup hx hb dX4_append_24 rfl ?_
    refine va_get (D := (E.1, E.2.1)) (ci := 4) (v := .int (S_2.1 1)) (C := RX4) (T := TX4) (N := 6) hx hb ht wu_X4 hown hK hP 0 rfl rfl 1 (by decide) (ht _ wk_X4_15) (fun _ h9 => h9) rfl dX4_append_25 ?_
    refine lv_iconst (v := 1) hx hb dX4_append_28 (by decide) ?_
    refine lv_iadd hx hb dX4_append_29 ?_
    refine va_put (D := (E.1, E.2.1)) (ci := 4) (v := .int ((S_2.1 1) + 1)) (ty := .int) (C := RX4) (T := TX4) (N := 6) hx hb ht wu_X4 tyX4 tyX4_ok nmX4 hown hK hP hD hS 0 rfl rfl 1 (by decide) (ht _ wk_X4_15) (fun _ h9 => h9) rfl (by decide +kernel) rfl rfl (Nat.le_of_ble_eq_true rfl) dX4_append_30 (fun H locs hP hD hS => ?_)
    have hP : gP E (gW [bText E a0 (pf S_2 1 ((S_2.1 1) + 1))]) H := hP
    have hD : va_D A (gW [bText E a0 (pf S_2 1 ((S_2.1 1) + 1))]) := hD
    refine lv_aload_n hx hb dX4_append_33 rfl (lv_at hl 0 rfl) ?_
    refine va_get (D := (E.1, E.2.1)) (ci := 4) (v := .int ((pf S_2 1 ((S_2.1 1) + 1)).1 1)) (C := RX4) (T := TX4) (N := 6) hx hb ht wu_X4 hown hK hP 0 rfl rfl 1 (by decide) (ht _ wk_X4_15) (fun _ h9 => h9) rfl dX4_append_34 ?_
    exact hret ((pf S_2 1 ((S_2.1 1) + 1)).1 1) (pf S_2 1 ((S_2.1 1) + 1)) _ _ _ _ _ h rfl hP hD hS dX4_append_37
  · have h := h.2 c_1
    refine lv_bipush (v := (-3)) hx hb dX4_append_10 (by decide) ?_
    exact hret (-3) S0 _ _ _ _ _ h rfl hP hD hS dX4_append_12
theorem dX4_empty_0 : decode cX4_empty 0 = .ok (.aload_n 0, 1) := by decide +kernel
theorem dX4_empty_1 : decode cX4_empty 1 = .ok (.getfield 15, 3) := by decide +kernel
theorem dX4_empty_4 : decode cX4_empty 4 = .ok (.istore_n 1, 1) := by decide +kernel
theorem dX4_empty_5 : decode cX4_empty 5 = .ok (.aload_n 0, 1) := by decide +kernel
theorem dX4_empty_6 : decode cX4_empty 6 = .ok (.iconst 0, 1) := by decide +kernel
theorem dX4_empty_7 : decode cX4_empty 7 = .ok (.putfield 15, 3) := by decide +kernel
theorem dX4_empty_10 : decode cX4_empty 10 = .ok (.iload_n 1, 1) := by decide +kernel
theorem dX4_empty_11 : decode cX4_empty 11 = .ok (.ireturn, 1) := by decide +kernel
set_option maxHeartbeats 4000000 in
set_option maxRecDepth 100000 in
theorem c_X4_empty (E : GE) (l : Launch) (a0 : Nat → Nat) (S0 : Ob) (post : Int32 → Ob → Prop) (h : wp_X4_empty S0 post) : Met l yX4_empty (wz yX4_empty cX4_empty 2 (some .int)) { frames := 0, cells := 0, slots := 0, locals := 0 } (gPc E [.ref (a0 99)] (gW [bText E a0 S0])) (gQi E (gW [bText E a0 S0]) (fun r (u : Ob) => post r u) (fun (u : Ob) w => w = gW [bText E a0 u])) 0 0 (gIn (gW [bText E a0 S0])) := by
  unfold wp_X4_empty at h
  refine g_of_i (by decide) (Nat.le_of_ble_eq_true rfl) ?_
  intro p e s m below meth c A Q hx hb hml hown ht hE hP hD hret ls hl
  have hK := hE.1
  have hS : va_S A s.heap s.heap [] := va_S.rf
  have hl : lv_has ls 2 [(0, .ref (a0 99))] := hl
  refine lv_aload_n hx hb dX4_empty_0 rfl (lv_at hl 0 rfl) ?_
  refine va_get (D := (E.1, E.2.1)) (ci := 4) (v := .int (S0.1 1)) (C := RX4) (T := TX4) (N := 6) hx hb ht wu_X4 hown hK hP 0 rfl rfl 1 (by decide) (ht _ wk_X4_15) (fun _ h9 => h9) rfl dX4_empty_1 ?_
  refine lv_istore_n (lv' := [(1, .int (S0.1 1)), (0, .ref (a0 99))]) hx hb dX4_empty_4 rfl hl (by decide) rfl (fun ls hl => ?_)
  refine lv_aload_n hx hb dX4_empty_5 rfl (lv_at hl 1 rfl) ?_
  refine lv_iconst (v := 0) hx hb dX4_empty_6 (by decide) ?_
  refine va_put (D := (E.1, E.2.1)) (ci := 4) (v := .int 0) (ty := .int) (C := RX4) (T := TX4) (N := 6) hx hb ht wu_X4 tyX4 tyX4_ok nmX4 hown hK hP hD hS 0 rfl rfl 1 (by decide) (ht _ wk_X4_15) (fun _ h9 => h9) rfl (by decide +kernel) rfl rfl (Nat.le_of_ble_eq_true rfl) dX4_empty_7 (fun H locs hP hD hS => ?_)
  have hP : gP E (gW [bText E a0 (pf S0 1 0)]) H := hP
  have hD : va_D A (gW [bText E a0 (pf S0 1 0)]) := hD
  refine lv_iload_n hx hb dX4_empty_10 rfl (lv_at hl 0 rfl) ?_
  exact hret (S0.1 1) (pf S0 1 0) _ _ _ _ _ h rfl hP hD hS dX4_empty_11
theorem dX4_takeLetters_0 : decode cX4_takeLetters 0 = .ok (.aload_n 0, 1) := by decide +kernel
theorem dX4_takeLetters_1 : decode cX4_takeLetters 1 = .ok (.iconst 1, 1) := by decide +kernel
theorem dX4_takeLetters_2 : decode cX4_takeLetters 2 = .ok (.putfield 22, 3) := by decide +kernel
theorem dX4_takeLetters_5 : decode cX4_takeLetters 5 = .ok (.aload_n 0, 1) := by decide +kernel
theorem dX4_takeLetters_6 : decode cX4_takeLetters 6 = .ok (.getfield 9, 3) := by decide +kernel
theorem dX4_takeLetters_9 : decode cX4_takeLetters 9 = .ok (.aload_n 0, 1) := by decide +kernel
theorem dX4_takeLetters_10 : decode cX4_takeLetters 10 = .ok (.getfield 19, 3) := by decide +kernel
theorem dX4_takeLetters_13 : decode cX4_takeLetters 13 = .ok (.iaload, 1) := by decide +kernel
theorem dX4_takeLetters_14 : decode cX4_takeLetters 14 = .ok (.istore_n 1, 1) := by decide +kernel
theorem dX4_takeLetters_15 : decode cX4_takeLetters 15 = .ok (.aload_n 0, 1) := by decide +kernel
theorem dX4_takeLetters_16 : decode cX4_takeLetters 16 = .ok (.getfield 19, 3) := by decide +kernel
theorem dX4_takeLetters_19 : decode cX4_takeLetters 19 = .ok (.aload_n 0, 1) := by decide +kernel
theorem dX4_takeLetters_20 : decode cX4_takeLetters 20 = .ok (.getfield 15, 3) := by decide +kernel
theorem dX4_takeLetters_23 : decode cX4_takeLetters 23 = .ok (.if_icmp .ge 44, 3) := by decide +kernel
theorem dX4_takeLetters_26 : decode cX4_takeLetters 26 = .ok (.aload_n 0, 1) := by decide +kernel
theorem dX4_takeLetters_27 : decode cX4_takeLetters 27 = .ok (.getfield 9, 3) := by decide +kernel
theorem dX4_takeLetters_30 : decode cX4_takeLetters 30 = .ok (.aload_n 0, 1) := by decide +kernel
theorem dX4_takeLetters_31 : decode cX4_takeLetters 31 = .ok (.getfield 19, 3) := by decide +kernel
theorem dX4_takeLetters_34 : decode cX4_takeLetters 34 = .ok (.iaload, 1) := by decide +kernel
theorem dX4_takeLetters_35 : decode cX4_takeLetters 35 = .ok (.bipush 97, 2) := by decide +kernel
theorem dX4_takeLetters_37 : decode cX4_takeLetters 37 = .ok (.if_icmp .lt 30, 3) := by decide +kernel
theorem dX4_takeLetters_40 : decode cX4_takeLetters 40 = .ok (.aload_n 0, 1) := by decide +kernel
theorem dX4_takeLetters_41 : decode cX4_takeLetters 41 = .ok (.getfield 9, 3) := by decide +kernel
theorem dX4_takeLetters_44 : decode cX4_takeLetters 44 = .ok (.aload_n 0, 1) := by decide +kernel
theorem dX4_takeLetters_45 : decode cX4_takeLetters 45 = .ok (.getfield 19, 3) := by decide +kernel
theorem dX4_takeLetters_48 : decode cX4_takeLetters 48 = .ok (.iaload, 1) := by decide +kernel
theorem dX4_takeLetters_49 : decode cX4_takeLetters 49 = .ok (.bipush 122, 2) := by decide +kernel
theorem dX4_takeLetters_51 : decode cX4_takeLetters 51 = .ok (.if_icmp .gt 16, 3) := by decide +kernel
theorem dX4_takeLetters_54 : decode cX4_takeLetters 54 = .ok (.aload_n 0, 1) := by decide +kernel
theorem dX4_takeLetters_55 : decode cX4_takeLetters 55 = .ok (.dup, 1) := by decide +kernel
theorem dX4_takeLetters_56 : decode cX4_takeLetters 56 = .ok (.getfield 19, 3) := by decide +kernel
theorem dX4_takeLetters_59 : decode cX4_takeLetters 59 = .ok (.iconst 1, 1) := by decide +kernel
theorem dX4_takeLetters_60 : decode cX4_takeLetters 60 = .ok (.iadd, 1) := by decide +kernel
theorem dX4_takeLetters_61 : decode cX4_takeLetters 61 = .ok (.putfield 19, 3) := by decide +kernel
theorem dX4_takeLetters_64 : decode cX4_takeLetters 64 = .ok (.goto (-49), 3) := by decide +kernel
theorem dX4_takeLetters_67 : decode cX4_takeLetters 67 = .ok (.aload_n 0, 1) := by decide +kernel
theorem dX4_takeLetters_68 : decode cX4_takeLetters 68 = .ok (.aload_n 0, 1) := by decide +kernel
theorem dX4_takeLetters_69 : decode cX4_takeLetters 69 = .ok (.getfield 19, 3) := by decide +kernel
theorem dX4_takeLetters_72 : decode cX4_takeLetters 72 = .ok (.aload_n 0, 1) := by decide +kernel
theorem dX4_takeLetters_73 : decode cX4_takeLetters 73 = .ok (.getfield 25, 3) := by decide +kernel
theorem dX4_takeLetters_76 : decode cX4_takeLetters 76 = .ok (.isub, 1) := by decide +kernel
theorem dX4_takeLetters_77 : decode cX4_takeLetters 77 = .ok (.iconst 1, 1) := by decide +kernel
theorem dX4_takeLetters_78 : decode cX4_takeLetters 78 = .ok (.if_icmp .ne 7, 3) := by decide +kernel
theorem dX4_takeLetters_81 : decode cX4_takeLetters 81 = .ok (.iload_n 1, 1) := by decide +kernel
theorem dX4_takeLetters_82 : decode cX4_takeLetters 82 = .ok (.goto 4, 3) := by decide +kernel
theorem dX4_takeLetters_85 : decode cX4_takeLetters 85 = .ok (.iconst 0, 1) := by decide +kernel
theorem dX4_takeLetters_86 : decode cX4_takeLetters 86 = .ok (.putfield 28, 3) := by decide +kernel
theorem dX4_takeLetters_89 : decode cX4_takeLetters 89 = .ok (.return_, 1) := by decide +kernel
set_option maxHeartbeats 4000000 in
set_option maxRecDepth 100000 in
theorem c_X4_takeLetters (E : GE) (l : Launch) (a0 : Nat → Nat) (S0 : Ob) (post : Ob → Prop) (h : wp_X4_takeLetters S0 post) : Met l yX4_takeLetters (wz yX4_takeLetters cX4_takeLetters 2 none) { frames := 0, cells := 0, slots := 0, locals := 0 } (gPc E [.ref (a0 99)] (gW [bText E a0 S0])) (gQv E (gW [bText E a0 S0]) (fun (u : Ob) => post u) (fun (u : Ob) w => w = gW [bText E a0 u])) 0 0 (gIn (gW [bText E a0 S0])) := by
  unfold wp_X4_takeLetters at h
  refine g_of_v (by decide) (Nat.le_of_ble_eq_true rfl) ?_
  intro p e s m below meth c A Q hx hb hml hown ht hE hP hD hret ls hl
  have hK := hE.1
  have hS : va_S A s.heap s.heap [] := va_S.rf
  have hl : lv_has ls 2 [(0, .ref (a0 99))] := hl
  refine lv_aload_n hx hb dX4_takeLetters_0 rfl (lv_at hl 0 rfl) ?_
  refine lv_iconst (v := 1) hx hb dX4_takeLetters_1 (by decide) ?_
  refine va_put (D := (E.1, E.2.1)) (ci := 4) (v := .int 1) (ty := .int) (C := RX4) (T := TX4) (N := 6) hx hb ht wu_X4 tyX4 tyX4_ok nmX4 hown hK hP hD hS 0 rfl rfl 3 (by decide) (ht _ wk_X4_22) (fun _ h9 => h9) rfl (by decide +kernel) rfl rfl (Nat.le_of_ble_eq_true rfl) dX4_takeLetters_2 (fun H locs hP hD hS => ?_)
  have hP : gP E (gW [bText E a0 (pf S0 3 1)]) H := hP
  have hD : va_D A (gW [bText E a0 (pf S0 3 1)]) := hD
  refine lv_aload_n hx hb dX4_takeLetters_5 rfl (lv_at hl 0 rfl) ?_
  refine va_get (D := (E.1, E.2.1)) (ci := 4) (v := .ref (a0 0)) (C := RX4) (T := TX4) (N := 6) hx hb ht wu_X4 hown hK hP 0 rfl rfl 0 (by decide) (ht _ wk_X4_9) (fun _ h9 => h9) rfl dX4_takeLetters_6 ?_
  refine lv_aload_n hx hb dX4_takeLetters_9 rfl (lv_at hl 0 rfl) ?_
  refine va_get (D := (E.1, E.2.1)) (ci := 4) (v := .int ((pf S0 3 1).1 2)) (C := RX4) (T := TX4) (N := 6) hx hb ht wu_X4 hown hK hP 0 rfl rfl 2 (by decide) (ht _ wk_X4_19) (fun _ h9 => h9) rfl dX4_takeLetters_10 ?_
  refine va_iald hx hb hK hP 1 0 rfl rfl h.1 dX4_takeLetters_13 ?_
  have h := h.2
  refine lv_topi (fun y_1 ey_1 => ?_)
  have h := h y_1 ey_1
  refine lv_istore_n (lv' := [(1, .int y_1), (0, .ref (a0 99))]) hx hb dX4_takeLetters_14 rfl hl (by decide) rfl (fun ls hl => ?_)
  have L15 : ∀ (n15 : Nat) (S0_15 : Ob) (H : Heap) (locs : List Loc) (ls : Array Slot), wp_X4_takeLetters_L15 post y_1 n15 S0_15 → gP E (gW [bText E a0 S0_15]) H → va_D A (gW [bText E a0 S0_15]) → va_S A s.heap H locs → lv_has ls 2 [(0, .ref (a0 99)), (1, .int y_1)] → W p l e { frames := 0, cells := 0, slots := 0, locals := 0 } s m ([.ref (a0 99)] : List Value).toArray below meth c H locs 0 0 Q (F0 m 15 ls []) := by
    intro n15
    induction n15 with
    | zero => intro S0_15 H locs ls h; exact h.elim
    | succ n15 ih15 =>
      intro S0_15 H locs ls h hP hD hS hl
      rw [wp_X4_takeLetters_L15] at h
      refine lv_aload_n hx hb dX4_takeLetters_15 rfl (lv_at hl 0 rfl) ?_
      refine va_get (D := (E.1, E.2.1)) (ci := 4) (v := .int (S0_15.1 2)) (C := RX4) (T := TX4) (N := 6) hx hb ht wu_X4 hown hK hP 0 rfl rfl 2 (by decide) (ht _ wk_X4_19) (fun _ h9 => h9) rfl dX4_takeLetters_16 ?_
      refine lv_aload_n hx hb dX4_takeLetters_19 rfl (lv_at hl 0 rfl) ?_
      refine va_get (D := (E.1, E.2.1)) (ci := 4) (v := .int (S0_15.1 1)) (C := RX4) (T := TX4) (N := 6) hx hb ht wu_X4 hown hK hP 0 rfl rfl 1 (by decide) (ht _ wk_X4_15) (fun _ h9 => h9) rfl dX4_takeLetters_20 ?_
      refine lv_icmp_ge (tgt := 67) hx hb dX4_takeLetters_23 (by decide) (fun c_8 => ?_) (fun c_8 => ?_)
      · have h := h.1 c_8
        refine lv_aload_n hx hb dX4_takeLetters_67 rfl (lv_at hl 0 rfl) ?_
        refine lv_aload_n hx hb dX4_takeLetters_68 rfl (lv_at hl 0 rfl) ?_
        refine va_get (D := (E.1, E.2.1)) (ci := 4) (v := .int (S0_15.1 2)) (C := RX4) (T := TX4) (N := 6) hx hb ht wu_X4 hown hK hP 0 rfl rfl 2 (by decide) (ht _ wk_X4_19) (fun _ h9 => h9) rfl dX4_takeLetters_69 ?_
        refine lv_aload_n hx hb dX4_takeLetters_72 rfl (lv_at hl 0 rfl) ?_
        refine va_get (D := (E.1, E.2.1)) (ci := 4) (v := .int (S0_15.1 4)) (C := RX4) (T := TX4) (N := 6) hx hb ht wu_X4 hown hK hP 0 rfl rfl 4 (by decide) (ht _ wk_X4_25) (fun _ h9 => h9) rfl dX4_takeLetters_73 ?_
        refine lv_isub hx hb dX4_takeLetters_76 ?_
        refine lv_iconst (v := 1) hx hb dX4_takeLetters_77 (by decide) ?_
        refine lv_icmp_ne (tgt := 85) hx hb dX4_takeLetters_78 (by decide) (fun c_9 => ?_) (fun c_9 => ?_)
        · have h := h.1 c_9
          refine lv_iconst (v := 0) hx hb dX4_takeLetters_85 (by decide) ?_
          refine va_put (D := (E.1, E.2.1)) (ci := 4) (v := .int 0) (ty := .int) (C := RX4) (T := TX4) (N := 6) hx hb ht wu_X4 tyX4 tyX4_ok nmX4 hown hK hP hD hS 0 rfl rfl 5 (by decide) (ht _ wk_X4_28) (fun _ h9 => h9) rfl (by decide +kernel) rfl rfl (Nat.le_of_ble_eq_true rfl) dX4_takeLetters_86 (fun H locs hP hD hS => ?_)
          have hP : gP E (gW [bText E a0 (pf S0_15 5 0)]) H := hP
          have hD : va_D A (gW [bText E a0 (pf S0_15 5 0)]) := hD
          exact hret (pf S0_15 5 0) _ _ _ _ _ h rfl hP hD hS dX4_takeLetters_89
        · have h := h.2 c_9
          refine lv_iload_n hx hb dX4_takeLetters_81 rfl (lv_at hl 1 rfl) ?_
          refine lv_goto (tgt := 86) hx hb dX4_takeLetters_82 (by decide) ?_
          refine va_put (D := (E.1, E.2.1)) (ci := 4) (v := .int y_1) (ty := .int) (C := RX4) (T := TX4) (N := 6) hx hb ht wu_X4 tyX4 tyX4_ok nmX4 hown hK hP hD hS 0 rfl rfl 5 (by decide) (ht _ wk_X4_28) (fun _ h9 => h9) rfl (by decide +kernel) rfl rfl (Nat.le_of_ble_eq_true rfl) dX4_takeLetters_86 (fun H locs hP hD hS => ?_)
          have hP : gP E (gW [bText E a0 (pf S0_15 5 y_1)]) H := hP
          have hD : va_D A (gW [bText E a0 (pf S0_15 5 y_1)]) := hD
          exact hret (pf S0_15 5 y_1) _ _ _ _ _ h rfl hP hD hS dX4_takeLetters_89
      · have h := h.2 c_8
        refine lv_aload_n hx hb dX4_takeLetters_26 rfl (lv_at hl 0 rfl) ?_
        refine va_get (D := (E.1, E.2.1)) (ci := 4) (v := .ref (a0 0)) (C := RX4) (T := TX4) (N := 6) hx hb ht wu_X4 hown hK hP 0 rfl rfl 0 (by decide) (ht _ wk_X4_9) (fun _ h9 => h9) rfl dX4_takeLetters_27 ?_
        refine lv_aload_n hx hb dX4_takeLetters_30 rfl (lv_at hl 0 rfl) ?_
        refine va_get (D := (E.1, E.2.1)) (ci := 4) (v := .int (S0_15.1 2)) (C := RX4) (T := TX4) (N := 6) hx hb ht wu_X4 hown hK hP 0 rfl rfl 2 (by decide) (ht _ wk_X4_19) (fun _ h9 => h9) rfl dX4_takeLetters_31 ?_
        refine va_iald hx hb hK hP 1 0 rfl rfl h.1 dX4_takeLetters_34 ?_
        have h := h.2
        refine lv_bipush (v := 97) hx hb dX4_takeLetters_35 (by decide) ?_
        refine lv_icmp_lt (tgt := 67) hx hb dX4_takeLetters_37 (by decide) (fun c_10 => ?_) (fun c_10 => ?_)
        · have h := h.1 c_10
          refine lv_aload_n hx hb dX4_takeLetters_67 rfl (lv_at hl 0 rfl) ?_
          refine lv_aload_n hx hb dX4_takeLetters_68 rfl (lv_at hl 0 rfl) ?_
          refine va_get (D := (E.1, E.2.1)) (ci := 4) (v := .int (S0_15.1 2)) (C := RX4) (T := TX4) (N := 6) hx hb ht wu_X4 hown hK hP 0 rfl rfl 2 (by decide) (ht _ wk_X4_19) (fun _ h9 => h9) rfl dX4_takeLetters_69 ?_
          refine lv_aload_n hx hb dX4_takeLetters_72 rfl (lv_at hl 0 rfl) ?_
          refine va_get (D := (E.1, E.2.1)) (ci := 4) (v := .int (S0_15.1 4)) (C := RX4) (T := TX4) (N := 6) hx hb ht wu_X4 hown hK hP 0 rfl rfl 4 (by decide) (ht _ wk_X4_25) (fun _ h9 => h9) rfl dX4_takeLetters_73 ?_
          refine lv_isub hx hb dX4_takeLetters_76 ?_
          refine lv_iconst (v := 1) hx hb dX4_takeLetters_77 (by decide) ?_
          refine lv_icmp_ne (tgt := 85) hx hb dX4_takeLetters_78 (by decide) (fun c_11 => ?_) (fun c_11 => ?_)
          · have h := h.1 c_11
            refine lv_iconst (v := 0) hx hb dX4_takeLetters_85 (by decide) ?_
            refine va_put (D := (E.1, E.2.1)) (ci := 4) (v := .int 0) (ty := .int) (C := RX4) (T := TX4) (N := 6) hx hb ht wu_X4 tyX4 tyX4_ok nmX4 hown hK hP hD hS 0 rfl rfl 5 (by decide) (ht _ wk_X4_28) (fun _ h9 => h9) rfl (by decide +kernel) rfl rfl (Nat.le_of_ble_eq_true rfl) dX4_takeLetters_86 (fun H locs hP hD hS => ?_)
            have hP : gP E (gW [bText E a0 (pf S0_15 5 0)]) H := hP
            have hD : va_D A (gW [bText E a0 (pf S0_15 5 0)]) := hD
            exact hret (pf S0_15 5 0) _ _ _ _ _ h rfl hP hD hS dX4_takeLetters_89
          · have h := h.2 c_11
            refine lv_iload_n hx hb dX4_takeLetters_81 rfl (lv_at hl 1 rfl) ?_
            refine lv_goto (tgt := 86) hx hb dX4_takeLetters_82 (by decide) ?_
            refine va_put (D := (E.1, E.2.1)) (ci := 4) (v := .int y_1) (ty := .int) (C := RX4) (T := TX4) (N := 6) hx hb ht wu_X4 tyX4 tyX4_ok nmX4 hown hK hP hD hS 0 rfl rfl 5 (by decide) (ht _ wk_X4_28) (fun _ h9 => h9) rfl (by decide +kernel) rfl rfl (Nat.le_of_ble_eq_true rfl) dX4_takeLetters_86 (fun H locs hP hD hS => ?_)
            have hP : gP E (gW [bText E a0 (pf S0_15 5 y_1)]) H := hP
            have hD : va_D A (gW [bText E a0 (pf S0_15 5 y_1)]) := hD
            exact hret (pf S0_15 5 y_1) _ _ _ _ _ h rfl hP hD hS dX4_takeLetters_89
        · have h := h.2 c_10
          refine lv_aload_n hx hb dX4_takeLetters_40 rfl (lv_at hl 0 rfl) ?_
          refine va_get (D := (E.1, E.2.1)) (ci := 4) (v := .ref (a0 0)) (C := RX4) (T := TX4) (N := 6) hx hb ht wu_X4 hown hK hP 0 rfl rfl 0 (by decide) (ht _ wk_X4_9) (fun _ h9 => h9) rfl dX4_takeLetters_41 ?_
          refine lv_aload_n hx hb dX4_takeLetters_44 rfl (lv_at hl 0 rfl) ?_
          refine va_get (D := (E.1, E.2.1)) (ci := 4) (v := .int (S0_15.1 2)) (C := RX4) (T := TX4) (N := 6) hx hb ht wu_X4 hown hK hP 0 rfl rfl 2 (by decide) (ht _ wk_X4_19) (fun _ h9 => h9) rfl dX4_takeLetters_45 ?_
          refine va_iald hx hb hK hP 1 0 rfl rfl h.1 dX4_takeLetters_48 ?_
          have h := h.2
          refine lv_bipush (v := 122) hx hb dX4_takeLetters_49 (by decide) ?_
          refine lv_icmp_gt (tgt := 67) hx hb dX4_takeLetters_51 (by decide) (fun c_12 => ?_) (fun c_12 => ?_)
          · have h := h.1 c_12
            refine lv_aload_n hx hb dX4_takeLetters_67 rfl (lv_at hl 0 rfl) ?_
            refine lv_aload_n hx hb dX4_takeLetters_68 rfl (lv_at hl 0 rfl) ?_
            refine va_get (D := (E.1, E.2.1)) (ci := 4) (v := .int (S0_15.1 2)) (C := RX4) (T := TX4) (N := 6) hx hb ht wu_X4 hown hK hP 0 rfl rfl 2 (by decide) (ht _ wk_X4_19) (fun _ h9 => h9) rfl dX4_takeLetters_69 ?_
            refine lv_aload_n hx hb dX4_takeLetters_72 rfl (lv_at hl 0 rfl) ?_
            refine va_get (D := (E.1, E.2.1)) (ci := 4) (v := .int (S0_15.1 4)) (C := RX4) (T := TX4) (N := 6) hx hb ht wu_X4 hown hK hP 0 rfl rfl 4 (by decide) (ht _ wk_X4_25) (fun _ h9 => h9) rfl dX4_takeLetters_73 ?_
            refine lv_isub hx hb dX4_takeLetters_76 ?_
            refine lv_iconst (v := 1) hx hb dX4_takeLetters_77 (by decide) ?_
            refine lv_icmp_ne (tgt := 85) hx hb dX4_takeLetters_78 (by decide) (fun c_13 => ?_) (fun c_13 => ?_)
            · have h := h.1 c_13
              refine lv_iconst (v := 0) hx hb dX4_takeLetters_85 (by decide) ?_
              refine va_put (D := (E.1, E.2.1)) (ci := 4) (v := .int 0) (ty := .int) (C := RX4) (T := TX4) (N := 6) hx hb ht wu_X4 tyX4 tyX4_ok nmX4 hown hK hP hD hS 0 rfl rfl 5 (by decide) (ht _ wk_X4_28) (fun _ h9 => h9) rfl (by decide +kernel) rfl rfl (Nat.le_of_ble_eq_true rfl) dX4_takeLetters_86 (fun H locs hP hD hS => ?_)
              have hP : gP E (gW [bText E a0 (pf S0_15 5 0)]) H := hP
              have hD : va_D A (gW [bText E a0 (pf S0_15 5 0)]) := hD
              exact hret (pf S0_15 5 0) _ _ _ _ _ h rfl hP hD hS dX4_takeLetters_89
            · have h := h.2 c_13
              refine lv_iload_n hx hb dX4_takeLetters_81 rfl (lv_at hl 1 rfl) ?_
              refine lv_goto (tgt := 86) hx hb dX4_takeLetters_82 (by decide) ?_
              refine va_put (D := (E.1, E.2.1)) (ci := 4) (v := .int y_1) (ty := .int) (C := RX4) (T := TX4) (N := 6) hx hb ht wu_X4 tyX4 tyX4_ok nmX4 hown hK hP hD hS 0 rfl rfl 5 (by decide) (ht _ wk_X4_28) (fun _ h9 => h9) rfl (by decide +kernel) rfl rfl (Nat.le_of_ble_eq_true rfl) dX4_takeLetters_86 (fun H locs hP hD hS => ?_)
              have hP : gP E (gW [bText E a0 (pf S0_15 5 y_1)]) H := hP
              have hD : va_D A (gW [bText E a0 (pf S0_15 5 y_1)]) := hD
              exact hret (pf S0_15 5 y_1) _ _ _ _ _ h rfl hP hD hS dX4_takeLetters_89
          · have h := h.2 c_12
            refine lv_aload_n hx hb dX4_takeLetters_54 rfl (lv_at hl 0 rfl) ?_
            refine lv_dup hx hb dX4_takeLetters_55 rfl ?_
            refine va_get (D := (E.1, E.2.1)) (ci := 4) (v := .int (S0_15.1 2)) (C := RX4) (T := TX4) (N := 6) hx hb ht wu_X4 hown hK hP 0 rfl rfl 2 (by decide) (ht _ wk_X4_19) (fun _ h9 => h9) rfl dX4_takeLetters_56 ?_
            refine lv_iconst (v := 1) hx hb dX4_takeLetters_59 (by decide) ?_
            refine lv_iadd hx hb dX4_takeLetters_60 ?_
            refine va_put (D := (E.1, E.2.1)) (ci := 4) (v := .int ((S0_15.1 2) + 1)) (ty := .int) (C := RX4) (T := TX4) (N := 6) hx hb ht wu_X4 tyX4 tyX4_ok nmX4 hown hK hP hD hS 0 rfl rfl 2 (by decide) (ht _ wk_X4_19) (fun _ h9 => h9) rfl (by decide +kernel) rfl rfl (Nat.le_of_ble_eq_true rfl) dX4_takeLetters_61 (fun H locs hP hD hS => ?_)
            have hP : gP E (gW [bText E a0 (pf S0_15 2 ((S0_15.1 2) + 1))]) H := hP
            have hD : va_D A (gW [bText E a0 (pf S0_15 2 ((S0_15.1 2) + 1))]) := hD
            refine lv_goto (tgt := 15) hx hb dX4_takeLetters_64 (by decide) ?_
            exact ih15 (pf S0_15 2 ((S0_15.1 2) + 1)) _ _ _ h hP hD hS (lv_sub hl [0, 1] rfl)
  obtain ⟨n15, h⟩ := h
  exact L15 n15 (pf S0 3 1) _ _ _ h hP hD hS (lv_sub hl [1, 0] rfl)
theorem dX4_takeNumber_0 : decode cX4_takeNumber 0 = .ok (.aload_n 0, 1) := by decide +kernel
theorem dX4_takeNumber_1 : decode cX4_takeNumber 1 = .ok (.getfield 9, 3) := by decide +kernel
theorem dX4_takeNumber_4 : decode cX4_takeNumber 4 = .ok (.aload_n 0, 1) := by decide +kernel
theorem dX4_takeNumber_5 : decode cX4_takeNumber 5 = .ok (.getfield 19, 3) := by decide +kernel
theorem dX4_takeNumber_8 : decode cX4_takeNumber 8 = .ok (.iaload, 1) := by decide +kernel
theorem dX4_takeNumber_9 : decode cX4_takeNumber 9 = .ok (.bipush 48, 2) := by decide +kernel
theorem dX4_takeNumber_11 : decode cX4_takeNumber 11 = .ok (.if_icmp .ne 7, 3) := by decide +kernel
theorem dX4_takeNumber_14 : decode cX4_takeNumber 14 = .ok (.iconst 1, 1) := by decide +kernel
theorem dX4_takeNumber_15 : decode cX4_takeNumber 15 = .ok (.goto 4, 3) := by decide +kernel
theorem dX4_takeNumber_18 : decode cX4_takeNumber 18 = .ok (.iconst 0, 1) := by decide +kernel
theorem dX4_takeNumber_19 : decode cX4_takeNumber 19 = .ok (.istore_n 1, 1) := by decide +kernel
theorem dX4_takeNumber_20 : decode cX4_takeNumber 20 = .ok (.aload_n 0, 1) := by decide +kernel
theorem dX4_takeNumber_21 : decode cX4_takeNumber 21 = .ok (.getfield 19, 3) := by decide +kernel
theorem dX4_takeNumber_24 : decode cX4_takeNumber 24 = .ok (.aload_n 0, 1) := by decide +kernel
theorem dX4_takeNumber_25 : decode cX4_takeNumber 25 = .ok (.getfield 15, 3) := by decide +kernel
theorem dX4_takeNumber_28 : decode cX4_takeNumber 28 = .ok (.if_icmp .ge 74, 3) := by decide +kernel
theorem dX4_takeNumber_31 : decode cX4_takeNumber 31 = .ok (.aload_n 0, 1) := by decide +kernel
theorem dX4_takeNumber_32 : decode cX4_takeNumber 32 = .ok (.getfield 9, 3) := by decide +kernel
theorem dX4_takeNumber_35 : decode cX4_takeNumber 35 = .ok (.aload_n 0, 1) := by decide +kernel
theorem dX4_takeNumber_36 : decode cX4_takeNumber 36 = .ok (.getfield 19, 3) := by decide +kernel
theorem dX4_takeNumber_39 : decode cX4_takeNumber 39 = .ok (.iaload, 1) := by decide +kernel
theorem dX4_takeNumber_40 : decode cX4_takeNumber 40 = .ok (.bipush 48, 2) := by decide +kernel
theorem dX4_takeNumber_42 : decode cX4_takeNumber 42 = .ok (.if_icmp .lt 60, 3) := by decide +kernel
theorem dX4_takeNumber_45 : decode cX4_takeNumber 45 = .ok (.aload_n 0, 1) := by decide +kernel
theorem dX4_takeNumber_46 : decode cX4_takeNumber 46 = .ok (.getfield 9, 3) := by decide +kernel
theorem dX4_takeNumber_49 : decode cX4_takeNumber 49 = .ok (.aload_n 0, 1) := by decide +kernel
theorem dX4_takeNumber_50 : decode cX4_takeNumber 50 = .ok (.getfield 19, 3) := by decide +kernel
theorem dX4_takeNumber_53 : decode cX4_takeNumber 53 = .ok (.iaload, 1) := by decide +kernel
theorem dX4_takeNumber_54 : decode cX4_takeNumber 54 = .ok (.bipush 57, 2) := by decide +kernel
theorem dX4_takeNumber_56 : decode cX4_takeNumber 56 = .ok (.if_icmp .gt 46, 3) := by decide +kernel
theorem dX4_takeNumber_59 : decode cX4_takeNumber 59 = .ok (.aload_n 0, 1) := by decide +kernel
theorem dX4_takeNumber_60 : decode cX4_takeNumber 60 = .ok (.aload_n 0, 1) := by decide +kernel
theorem dX4_takeNumber_61 : decode cX4_takeNumber 61 = .ok (.getfield 28, 3) := by decide +kernel
theorem dX4_takeNumber_64 : decode cX4_takeNumber 64 = .ok (.bipush 10, 2) := by decide +kernel
theorem dX4_takeNumber_66 : decode cX4_takeNumber 66 = .ok (.imul, 1) := by decide +kernel
theorem dX4_takeNumber_67 : decode cX4_takeNumber 67 = .ok (.aload_n 0, 1) := by decide +kernel
theorem dX4_takeNumber_68 : decode cX4_takeNumber 68 = .ok (.getfield 9, 3) := by decide +kernel
theorem dX4_takeNumber_71 : decode cX4_takeNumber 71 = .ok (.aload_n 0, 1) := by decide +kernel
theorem dX4_takeNumber_72 : decode cX4_takeNumber 72 = .ok (.getfield 19, 3) := by decide +kernel
theorem dX4_takeNumber_75 : decode cX4_takeNumber 75 = .ok (.iaload, 1) := by decide +kernel
theorem dX4_takeNumber_76 : decode cX4_takeNumber 76 = .ok (.iadd, 1) := by decide +kernel
theorem dX4_takeNumber_77 : decode cX4_takeNumber 77 = .ok (.bipush 48, 2) := by decide +kernel
theorem dX4_takeNumber_79 : decode cX4_takeNumber 79 = .ok (.isub, 1) := by decide +kernel
theorem dX4_takeNumber_80 : decode cX4_takeNumber 80 = .ok (.sipush 1000, 3) := by decide +kernel
theorem dX4_takeNumber_83 : decode cX4_takeNumber 83 = .ok (.invokestatic 87, 3) := by decide +kernel
theorem dX4_takeNumber_86 : decode cX4_takeNumber 86 = .ok (.putfield 28, 3) := by decide +kernel
theorem dX4_takeNumber_89 : decode cX4_takeNumber 89 = .ok (.aload_n 0, 1) := by decide +kernel
theorem dX4_takeNumber_90 : decode cX4_takeNumber 90 = .ok (.dup, 1) := by decide +kernel
theorem dX4_takeNumber_91 : decode cX4_takeNumber 91 = .ok (.getfield 19, 3) := by decide +kernel
theorem dX4_takeNumber_94 : decode cX4_takeNumber 94 = .ok (.iconst 1, 1) := by decide +kernel
theorem dX4_takeNumber_95 : decode cX4_takeNumber 95 = .ok (.iadd, 1) := by decide +kernel
theorem dX4_takeNumber_96 : decode cX4_takeNumber 96 = .ok (.putfield 19, 3) := by decide +kernel
theorem dX4_takeNumber_99 : decode cX4_takeNumber 99 = .ok (.goto (-79), 3) := by decide +kernel
theorem dX4_takeNumber_102 : decode cX4_takeNumber 102 = .ok (.aload_n 0, 1) := by decide +kernel
theorem dX4_takeNumber_103 : decode cX4_takeNumber 103 = .ok (.getfield 28, 3) := by decide +kernel
theorem dX4_takeNumber_106 : decode cX4_takeNumber 106 = .ok (.sipush 1000, 3) := by decide +kernel
theorem dX4_takeNumber_109 : decode cX4_takeNumber 109 = .ok (.if_icmp .ge 24, 3) := by decide +kernel
theorem dX4_takeNumber_112 : decode cX4_takeNumber 112 = .ok (.iload_n 1, 1) := by decide +kernel
theorem dX4_takeNumber_113 : decode cX4_takeNumber 113 = .ok (.ifCond .eq 16, 3) := by decide +kernel
theorem dX4_takeNumber_116 : decode cX4_takeNumber 116 = .ok (.aload_n 0, 1) := by decide +kernel
theorem dX4_takeNumber_117 : decode cX4_takeNumber 117 = .ok (.getfield 19, 3) := by decide +kernel
theorem dX4_takeNumber_120 : decode cX4_takeNumber 120 = .ok (.aload_n 0, 1) := by decide +kernel
theorem dX4_takeNumber_121 : decode cX4_takeNumber 121 = .ok (.getfield 25, 3) := by decide +kernel
theorem dX4_takeNumber_124 : decode cX4_takeNumber 124 = .ok (.isub, 1) := by decide +kernel
theorem dX4_takeNumber_125 : decode cX4_takeNumber 125 = .ok (.iconst 1, 1) := by decide +kernel
theorem dX4_takeNumber_126 : decode cX4_takeNumber 126 = .ok (.if_icmp .gt 7, 3) := by decide +kernel
theorem dX4_takeNumber_129 : decode cX4_takeNumber 129 = .ok (.iconst 1, 1) := by decide +kernel
theorem dX4_takeNumber_130 : decode cX4_takeNumber 130 = .ok (.goto 4, 3) := by decide +kernel
theorem dX4_takeNumber_133 : decode cX4_takeNumber 133 = .ok (.iconst 0, 1) := by decide +kernel
theorem dX4_takeNumber_134 : decode cX4_takeNumber 134 = .ok (.istore_n 2, 1) := by decide +kernel
theorem dX4_takeNumber_135 : decode cX4_takeNumber 135 = .ok (.aload_n 0, 1) := by decide +kernel
theorem dX4_takeNumber_136 : decode cX4_takeNumber 136 = .ok (.iload_n 2, 1) := by decide +kernel
theorem dX4_takeNumber_137 : decode cX4_takeNumber 137 = .ok (.ifCond .eq 7, 3) := by decide +kernel
theorem dX4_takeNumber_140 : decode cX4_takeNumber 140 = .ok (.iconst 2, 1) := by decide +kernel
theorem dX4_takeNumber_141 : decode cX4_takeNumber 141 = .ok (.goto 4, 3) := by decide +kernel
theorem dX4_takeNumber_144 : decode cX4_takeNumber 144 = .ok (.iconst 4, 1) := by decide +kernel
theorem dX4_takeNumber_145 : decode cX4_takeNumber 145 = .ok (.putfield 22, 3) := by decide +kernel
theorem dX4_takeNumber_148 : decode cX4_takeNumber 148 = .ok (.return_, 1) := by decide +kernel
set_option maxHeartbeats 4000000 in
set_option maxRecDepth 100000 in
theorem c_X4_takeNumber (E : GE) (l : Launch) (a0 : Nat → Nat) (S0 : Ob) (post : Ob → Prop) (h : wp_X4_takeNumber S0 post) : Met l yX4_takeNumber (wz yX4_takeNumber cX4_takeNumber 3 none) { frames := 1, cells := 0, slots := 0, locals := 21 } (gPc E [.ref (a0 99)] (gW [bText E a0 S0])) (gQv E (gW [bText E a0 S0]) (fun (u : Ob) => post u) (fun (u : Ob) w => w = gW [bText E a0 u])) 0 0 (gIn (gW [bText E a0 S0])) := by
  unfold wp_X4_takeNumber at h
  refine g_of_v (by decide) (Nat.le_of_ble_eq_true rfl) ?_
  intro p e s m below meth c A Q hx hb hml hown ht hE hP hD hret ls hl
  have hK := hE.1
  have hS : va_S A s.heap s.heap [] := va_S.rf
  have hl : lv_has ls 3 [(0, .ref (a0 99))] := hl
  have J102 : ∀ (x1_j102 : Int32) (S0_j102 : Ob) (H : Heap) (locs : List Loc) (ls : Array Slot), wp_X4_takeNumber_J102 post x1_j102 S0_j102 → gP E (gW [bText E a0 S0_j102]) H → va_D A (gW [bText E a0 S0_j102]) → va_S A s.heap H locs → lv_has ls 3 [(0, .ref (a0 99)), (1, .int x1_j102)] → W p l e { frames := 1, cells := 0, slots := 0, locals := 21 } s m ([.ref (a0 99)] : List Value).toArray below meth c H locs 0 0 Q (F0 m 102 ls []) := by
    intro x1_j102 S0_j102 H locs ls h hP hD hS hl
    unfold wp_X4_takeNumber_J102 at h
    refine lv_aload_n hx hb dX4_takeNumber_102 rfl (lv_at hl 0 rfl) ?_
    refine va_get (D := (E.1, E.2.1)) (ci := 4) (v := .int (S0_j102.1 5)) (C := RX4) (T := TX4) (N := 6) hx hb ht wu_X4 hown hK hP 0 rfl rfl 5 (by decide) (ht _ wk_X4_28) (fun _ h9 => h9) rfl dX4_takeNumber_103 ?_
    refine lv_sipush (v := 1000) hx hb dX4_takeNumber_106 (by decide) ?_
    refine lv_icmp_ge (tgt := 133) hx hb dX4_takeNumber_109 (by decide) (fun c_8 => ?_) (fun c_8 => ?_)
    · have h := h.1 c_8
      refine lv_iconst (v := 0) hx hb dX4_takeNumber_133 (by decide) ?_
      refine lv_istore_n (lv' := [(2, .int 0), (0, .ref (a0 99)), (1, .int x1_j102)]) hx hb dX4_takeNumber_134 rfl hl (by decide) rfl (fun ls hl => ?_)
      refine lv_aload_n hx hb dX4_takeNumber_135 rfl (lv_at hl 1 rfl) ?_
      refine lv_iload_n hx hb dX4_takeNumber_136 rfl (lv_at hl 0 rfl) ?_
      refine lv_if_eq (tgt := 144) hx hb dX4_takeNumber_137 (by decide) (fun c_9 => ?_) (fun c_9 => ?_)
      · have h := h.1 c_9
        refine lv_iconst (v := 4) hx hb dX4_takeNumber_144 (by decide) ?_
        refine va_put (D := (E.1, E.2.1)) (ci := 4) (v := .int 4) (ty := .int) (C := RX4) (T := TX4) (N := 6) hx hb ht wu_X4 tyX4 tyX4_ok nmX4 hown hK hP hD hS 0 rfl rfl 3 (by decide) (ht _ wk_X4_22) (fun _ h9 => h9) rfl (by decide +kernel) rfl rfl (Nat.le_of_ble_eq_true rfl) dX4_takeNumber_145 (fun H locs hP hD hS => ?_)
        have hP : gP E (gW [bText E a0 (pf S0_j102 3 4)]) H := hP
        have hD : va_D A (gW [bText E a0 (pf S0_j102 3 4)]) := hD
        exact hret (pf S0_j102 3 4) _ _ _ _ _ h rfl hP hD hS dX4_takeNumber_148
      · have h := h.2 c_9
        refine lv_iconst (v := 2) hx hb dX4_takeNumber_140 (by decide) ?_
        refine lv_goto (tgt := 145) hx hb dX4_takeNumber_141 (by decide) ?_
        refine va_put (D := (E.1, E.2.1)) (ci := 4) (v := .int 2) (ty := .int) (C := RX4) (T := TX4) (N := 6) hx hb ht wu_X4 tyX4 tyX4_ok nmX4 hown hK hP hD hS 0 rfl rfl 3 (by decide) (ht _ wk_X4_22) (fun _ h9 => h9) rfl (by decide +kernel) rfl rfl (Nat.le_of_ble_eq_true rfl) dX4_takeNumber_145 (fun H locs hP hD hS => ?_)
        have hP : gP E (gW [bText E a0 (pf S0_j102 3 2)]) H := hP
        have hD : va_D A (gW [bText E a0 (pf S0_j102 3 2)]) := hD
        exact hret (pf S0_j102 3 2) _ _ _ _ _ h rfl hP hD hS dX4_takeNumber_148
    · have h := h.2 c_8
      refine lv_iload_n hx hb dX4_takeNumber_112 rfl (lv_at hl 1 rfl) ?_
      refine lv_if_eq (tgt := 129) hx hb dX4_takeNumber_113 (by decide) (fun c_10 => ?_) (fun c_10 => ?_)
      · have h := h.1 c_10
        refine lv_iconst (v := 1) hx hb dX4_takeNumber_129 (by decide) ?_
        refine lv_goto (tgt := 134) hx hb dX4_takeNumber_130 (by decide) ?_
        refine lv_istore_n (lv' := [(2, .int 1), (0, .ref (a0 99)), (1, .int x1_j102)]) hx hb dX4_takeNumber_134 rfl hl (by decide) rfl (fun ls hl => ?_)
        refine lv_aload_n hx hb dX4_takeNumber_135 rfl (lv_at hl 1 rfl) ?_
        refine lv_iload_n hx hb dX4_takeNumber_136 rfl (lv_at hl 0 rfl) ?_
        refine lv_if_eq (tgt := 144) hx hb dX4_takeNumber_137 (by decide) (fun c_11 => ?_) (fun c_11 => ?_)
        · have h := h.1 c_11
          refine lv_iconst (v := 4) hx hb dX4_takeNumber_144 (by decide) ?_
          refine va_put (D := (E.1, E.2.1)) (ci := 4) (v := .int 4) (ty := .int) (C := RX4) (T := TX4) (N := 6) hx hb ht wu_X4 tyX4 tyX4_ok nmX4 hown hK hP hD hS 0 rfl rfl 3 (by decide) (ht _ wk_X4_22) (fun _ h9 => h9) rfl (by decide +kernel) rfl rfl (Nat.le_of_ble_eq_true rfl) dX4_takeNumber_145 (fun H locs hP hD hS => ?_)
          have hP : gP E (gW [bText E a0 (pf S0_j102 3 4)]) H := hP
          have hD : va_D A (gW [bText E a0 (pf S0_j102 3 4)]) := hD
          exact hret (pf S0_j102 3 4) _ _ _ _ _ h rfl hP hD hS dX4_takeNumber_148
        · have h := h.2 c_11
          refine lv_iconst (v := 2) hx hb dX4_takeNumber_140 (by decide) ?_
          refine lv_goto (tgt := 145) hx hb dX4_takeNumber_141 (by decide) ?_
          refine va_put (D := (E.1, E.2.1)) (ci := 4) (v := .int 2) (ty := .int) (C := RX4) (T := TX4) (N := 6) hx hb ht wu_X4 tyX4 tyX4_ok nmX4 hown hK hP hD hS 0 rfl rfl 3 (by decide) (ht _ wk_X4_22) (fun _ h9 => h9) rfl (by decide +kernel) rfl rfl (Nat.le_of_ble_eq_true rfl) dX4_takeNumber_145 (fun H locs hP hD hS => ?_)
          have hP : gP E (gW [bText E a0 (pf S0_j102 3 2)]) H := hP
          have hD : va_D A (gW [bText E a0 (pf S0_j102 3 2)]) := hD
          exact hret (pf S0_j102 3 2) _ _ _ _ _ h rfl hP hD hS dX4_takeNumber_148
      · have h := h.2 c_10
        refine lv_aload_n hx hb dX4_takeNumber_116 rfl (lv_at hl 0 rfl) ?_
        refine va_get (D := (E.1, E.2.1)) (ci := 4) (v := .int (S0_j102.1 2)) (C := RX4) (T := TX4) (N := 6) hx hb ht wu_X4 hown hK hP 0 rfl rfl 2 (by decide) (ht _ wk_X4_19) (fun _ h9 => h9) rfl dX4_takeNumber_117 ?_
        refine lv_aload_n hx hb dX4_takeNumber_120 rfl (lv_at hl 0 rfl) ?_
        refine va_get (D := (E.1, E.2.1)) (ci := 4) (v := .int (S0_j102.1 4)) (C := RX4) (T := TX4) (N := 6) hx hb ht wu_X4 hown hK hP 0 rfl rfl 4 (by decide) (ht _ wk_X4_25) (fun _ h9 => h9) rfl dX4_takeNumber_121 ?_
        refine lv_isub hx hb dX4_takeNumber_124 ?_
        refine lv_iconst (v := 1) hx hb dX4_takeNumber_125 (by decide) ?_
        refine lv_icmp_gt (tgt := 133) hx hb dX4_takeNumber_126 (by decide) (fun c_12 => ?_) (fun c_12 => ?_)
        · have h := h.1 c_12
          refine lv_iconst (v := 0) hx hb dX4_takeNumber_133 (by decide) ?_
          refine lv_istore_n (lv' := [(2, .int 0), (0, .ref (a0 99)), (1, .int x1_j102)]) hx hb dX4_takeNumber_134 rfl hl (by decide) rfl (fun ls hl => ?_)
          refine lv_aload_n hx hb dX4_takeNumber_135 rfl (lv_at hl 1 rfl) ?_
          refine lv_iload_n hx hb dX4_takeNumber_136 rfl (lv_at hl 0 rfl) ?_
          refine lv_if_eq (tgt := 144) hx hb dX4_takeNumber_137 (by decide) (fun c_13 => ?_) (fun c_13 => ?_)
          · have h := h.1 c_13
            refine lv_iconst (v := 4) hx hb dX4_takeNumber_144 (by decide) ?_
            refine va_put (D := (E.1, E.2.1)) (ci := 4) (v := .int 4) (ty := .int) (C := RX4) (T := TX4) (N := 6) hx hb ht wu_X4 tyX4 tyX4_ok nmX4 hown hK hP hD hS 0 rfl rfl 3 (by decide) (ht _ wk_X4_22) (fun _ h9 => h9) rfl (by decide +kernel) rfl rfl (Nat.le_of_ble_eq_true rfl) dX4_takeNumber_145 (fun H locs hP hD hS => ?_)
            have hP : gP E (gW [bText E a0 (pf S0_j102 3 4)]) H := hP
            have hD : va_D A (gW [bText E a0 (pf S0_j102 3 4)]) := hD
            exact hret (pf S0_j102 3 4) _ _ _ _ _ h rfl hP hD hS dX4_takeNumber_148
          · have h := h.2 c_13
            refine lv_iconst (v := 2) hx hb dX4_takeNumber_140 (by decide) ?_
            refine lv_goto (tgt := 145) hx hb dX4_takeNumber_141 (by decide) ?_
            refine va_put (D := (E.1, E.2.1)) (ci := 4) (v := .int 2) (ty := .int) (C := RX4) (T := TX4) (N := 6) hx hb ht wu_X4 tyX4 tyX4_ok nmX4 hown hK hP hD hS 0 rfl rfl 3 (by decide) (ht _ wk_X4_22) (fun _ h9 => h9) rfl (by decide +kernel) rfl rfl (Nat.le_of_ble_eq_true rfl) dX4_takeNumber_145 (fun H locs hP hD hS => ?_)
            have hP : gP E (gW [bText E a0 (pf S0_j102 3 2)]) H := hP
            have hD : va_D A (gW [bText E a0 (pf S0_j102 3 2)]) := hD
            exact hret (pf S0_j102 3 2) _ _ _ _ _ h rfl hP hD hS dX4_takeNumber_148
        · have h := h.2 c_12
          refine lv_iconst (v := 1) hx hb dX4_takeNumber_129 (by decide) ?_
          refine lv_goto (tgt := 134) hx hb dX4_takeNumber_130 (by decide) ?_
          refine lv_istore_n (lv' := [(2, .int 1), (0, .ref (a0 99)), (1, .int x1_j102)]) hx hb dX4_takeNumber_134 rfl hl (by decide) rfl (fun ls hl => ?_)
          refine lv_aload_n hx hb dX4_takeNumber_135 rfl (lv_at hl 1 rfl) ?_
          refine lv_iload_n hx hb dX4_takeNumber_136 rfl (lv_at hl 0 rfl) ?_
          refine lv_if_eq (tgt := 144) hx hb dX4_takeNumber_137 (by decide) (fun c_14 => ?_) (fun c_14 => ?_)
          · have h := h.1 c_14
            refine lv_iconst (v := 4) hx hb dX4_takeNumber_144 (by decide) ?_
            refine va_put (D := (E.1, E.2.1)) (ci := 4) (v := .int 4) (ty := .int) (C := RX4) (T := TX4) (N := 6) hx hb ht wu_X4 tyX4 tyX4_ok nmX4 hown hK hP hD hS 0 rfl rfl 3 (by decide) (ht _ wk_X4_22) (fun _ h9 => h9) rfl (by decide +kernel) rfl rfl (Nat.le_of_ble_eq_true rfl) dX4_takeNumber_145 (fun H locs hP hD hS => ?_)
            have hP : gP E (gW [bText E a0 (pf S0_j102 3 4)]) H := hP
            have hD : va_D A (gW [bText E a0 (pf S0_j102 3 4)]) := hD
            exact hret (pf S0_j102 3 4) _ _ _ _ _ h rfl hP hD hS dX4_takeNumber_148
          · have h := h.2 c_14
            refine lv_iconst (v := 2) hx hb dX4_takeNumber_140 (by decide) ?_
            refine lv_goto (tgt := 145) hx hb dX4_takeNumber_141 (by decide) ?_
            refine va_put (D := (E.1, E.2.1)) (ci := 4) (v := .int 2) (ty := .int) (C := RX4) (T := TX4) (N := 6) hx hb ht wu_X4 tyX4 tyX4_ok nmX4 hown hK hP hD hS 0 rfl rfl 3 (by decide) (ht _ wk_X4_22) (fun _ h9 => h9) rfl (by decide +kernel) rfl rfl (Nat.le_of_ble_eq_true rfl) dX4_takeNumber_145 (fun H locs hP hD hS => ?_)
            have hP : gP E (gW [bText E a0 (pf S0_j102 3 2)]) H := hP
            have hD : va_D A (gW [bText E a0 (pf S0_j102 3 2)]) := hD
            exact hret (pf S0_j102 3 2) _ _ _ _ _ h rfl hP hD hS dX4_takeNumber_148
  refine lv_aload_n hx hb dX4_takeNumber_0 rfl (lv_at hl 0 rfl) ?_
  refine va_get (D := (E.1, E.2.1)) (ci := 4) (v := .ref (a0 0)) (C := RX4) (T := TX4) (N := 6) hx hb ht wu_X4 hown hK hP 0 rfl rfl 0 (by decide) (ht _ wk_X4_9) (fun _ h9 => h9) rfl dX4_takeNumber_1 ?_
  refine lv_aload_n hx hb dX4_takeNumber_4 rfl (lv_at hl 0 rfl) ?_
  refine va_get (D := (E.1, E.2.1)) (ci := 4) (v := .int (S0.1 2)) (C := RX4) (T := TX4) (N := 6) hx hb ht wu_X4 hown hK hP 0 rfl rfl 2 (by decide) (ht _ wk_X4_19) (fun _ h9 => h9) rfl dX4_takeNumber_5 ?_
  refine va_iald hx hb hK hP 1 0 rfl rfl h.1 dX4_takeNumber_8 ?_
  have h := h.2
  refine lv_bipush (v := 48) hx hb dX4_takeNumber_9 (by decide) ?_
  refine lv_icmp_ne (tgt := 18) hx hb dX4_takeNumber_11 (by decide) (fun c_15 => ?_) (fun c_15 => ?_)
  · have h := h.1 c_15
    refine lv_iconst (v := 0) hx hb dX4_takeNumber_18 (by decide) ?_
    refine lv_istore_n (lv' := [(1, .int 0), (0, .ref (a0 99))]) hx hb dX4_takeNumber_19 rfl hl (by decide) rfl (fun ls hl => ?_)
    have L20 : ∀ (n20 : Nat) (S0_20 : Ob) (H : Heap) (locs : List Loc) (ls : Array Slot), wp_X4_takeNumber_L20 post 0 n20 S0_20 → gP E (gW [bText E a0 S0_20]) H → va_D A (gW [bText E a0 S0_20]) → va_S A s.heap H locs → lv_has ls 3 [(0, .ref (a0 99)), (1, .int 0)] → W p l e { frames := 1, cells := 0, slots := 0, locals := 21 } s m ([.ref (a0 99)] : List Value).toArray below meth c H locs 0 0 Q (F0 m 20 ls []) := by
      intro n20
      induction n20 with
      | zero => intro S0_20 H locs ls h; exact h.elim
      | succ n20 ih20 =>
        intro S0_20 H locs ls h hP hD hS hl
        rw [wp_X4_takeNumber_L20] at h
        refine lv_aload_n hx hb dX4_takeNumber_20 rfl (lv_at hl 0 rfl) ?_
        refine va_get (D := (E.1, E.2.1)) (ci := 4) (v := .int (S0_20.1 2)) (C := RX4) (T := TX4) (N := 6) hx hb ht wu_X4 hown hK hP 0 rfl rfl 2 (by decide) (ht _ wk_X4_19) (fun _ h9 => h9) rfl dX4_takeNumber_21 ?_
        refine lv_aload_n hx hb dX4_takeNumber_24 rfl (lv_at hl 0 rfl) ?_
        refine va_get (D := (E.1, E.2.1)) (ci := 4) (v := .int (S0_20.1 1)) (C := RX4) (T := TX4) (N := 6) hx hb ht wu_X4 hown hK hP 0 rfl rfl 1 (by decide) (ht _ wk_X4_15) (fun _ h9 => h9) rfl dX4_takeNumber_25 ?_
        refine lv_icmp_ge (tgt := 102) hx hb dX4_takeNumber_28 (by decide) (fun c_20 => ?_) (fun c_20 => ?_)
        · have h := h.1 c_20
          exact J102 0 S0_20 _ _ _ h hP hD hS (lv_sub hl [0, 1] rfl)
        · have h := h.2 c_20
          refine lv_aload_n hx hb dX4_takeNumber_31 rfl (lv_at hl 0 rfl) ?_
          refine va_get (D := (E.1, E.2.1)) (ci := 4) (v := .ref (a0 0)) (C := RX4) (T := TX4) (N := 6) hx hb ht wu_X4 hown hK hP 0 rfl rfl 0 (by decide) (ht _ wk_X4_9) (fun _ h9 => h9) rfl dX4_takeNumber_32 ?_
          refine lv_aload_n hx hb dX4_takeNumber_35 rfl (lv_at hl 0 rfl) ?_
          refine va_get (D := (E.1, E.2.1)) (ci := 4) (v := .int (S0_20.1 2)) (C := RX4) (T := TX4) (N := 6) hx hb ht wu_X4 hown hK hP 0 rfl rfl 2 (by decide) (ht _ wk_X4_19) (fun _ h9 => h9) rfl dX4_takeNumber_36 ?_
          refine va_iald hx hb hK hP 1 0 rfl rfl h.1 dX4_takeNumber_39 ?_
          have h := h.2
          refine lv_bipush (v := 48) hx hb dX4_takeNumber_40 (by decide) ?_
          refine lv_icmp_lt (tgt := 102) hx hb dX4_takeNumber_42 (by decide) (fun c_21 => ?_) (fun c_21 => ?_)
          · have h := h.1 c_21
            exact J102 0 S0_20 _ _ _ h hP hD hS (lv_sub hl [0, 1] rfl)
          · have h := h.2 c_21
            refine lv_aload_n hx hb dX4_takeNumber_45 rfl (lv_at hl 0 rfl) ?_
            refine va_get (D := (E.1, E.2.1)) (ci := 4) (v := .ref (a0 0)) (C := RX4) (T := TX4) (N := 6) hx hb ht wu_X4 hown hK hP 0 rfl rfl 0 (by decide) (ht _ wk_X4_9) (fun _ h9 => h9) rfl dX4_takeNumber_46 ?_
            refine lv_aload_n hx hb dX4_takeNumber_49 rfl (lv_at hl 0 rfl) ?_
            refine va_get (D := (E.1, E.2.1)) (ci := 4) (v := .int (S0_20.1 2)) (C := RX4) (T := TX4) (N := 6) hx hb ht wu_X4 hown hK hP 0 rfl rfl 2 (by decide) (ht _ wk_X4_19) (fun _ h9 => h9) rfl dX4_takeNumber_50 ?_
            refine va_iald hx hb hK hP 1 0 rfl rfl h.1 dX4_takeNumber_53 ?_
            have h := h.2
            refine lv_bipush (v := 57) hx hb dX4_takeNumber_54 (by decide) ?_
            refine lv_icmp_gt (tgt := 102) hx hb dX4_takeNumber_56 (by decide) (fun c_22 => ?_) (fun c_22 => ?_)
            · have h := h.1 c_22
              exact J102 0 S0_20 _ _ _ h hP hD hS (lv_sub hl [0, 1] rfl)
            · have h := h.2 c_22
              refine lv_aload_n hx hb dX4_takeNumber_59 rfl (lv_at hl 0 rfl) ?_
              refine lv_aload_n hx hb dX4_takeNumber_60 rfl (lv_at hl 0 rfl) ?_
              refine va_get (D := (E.1, E.2.1)) (ci := 4) (v := .int (S0_20.1 5)) (C := RX4) (T := TX4) (N := 6) hx hb ht wu_X4 hown hK hP 0 rfl rfl 5 (by decide) (ht _ wk_X4_28) (fun _ h9 => h9) rfl dX4_takeNumber_61 ?_
              refine lv_bipush (v := 10) hx hb dX4_takeNumber_64 (by decide) ?_
              refine lv_imul hx hb dX4_takeNumber_66 ?_
              refine lv_aload_n hx hb dX4_takeNumber_67 rfl (lv_at hl 0 rfl) ?_
              refine va_get (D := (E.1, E.2.1)) (ci := 4) (v := .ref (a0 0)) (C := RX4) (T := TX4) (N := 6) hx hb ht wu_X4 hown hK hP 0 rfl rfl 0 (by decide) (ht _ wk_X4_9) (fun _ h9 => h9) rfl dX4_takeNumber_68 ?_
              refine lv_aload_n hx hb dX4_takeNumber_71 rfl (lv_at hl 0 rfl) ?_
              refine va_get (D := (E.1, E.2.1)) (ci := 4) (v := .int (S0_20.1 2)) (C := RX4) (T := TX4) (N := 6) hx hb ht wu_X4 hown hK hP 0 rfl rfl 2 (by decide) (ht _ wk_X4_19) (fun _ h9 => h9) rfl dX4_takeNumber_72 ?_
              refine va_iald hx hb hK hP 1 0 rfl rfl h.1 dX4_takeNumber_75 ?_
              have h := h.2
              refine lv_iadd hx hb dX4_takeNumber_76 ?_
              refine lv_bipush (v := 48) hx hb dX4_takeNumber_77 (by decide) ?_
              refine lv_isub hx hb dX4_takeNumber_79 ?_
              refine lv_sipush (v := 1000) hx hb dX4_takeNumber_80 (by decide) ?_
              refine va_mmin hx hb (hml.trans hl.1.symm) hown (ht _ wk_X4_87) (ht _ wt_J9_min_7cf53) (ht _ wn_J9) (ht _ wc_J9_min_7cf53) (Nat.le_of_ble_eq_true rfl) (Nat.le_of_ble_eq_true rfl) (Nat.zero_le _) (Nat.zero_le _) dX4_takeNumber_83 ?_
              refine va_put (D := (E.1, E.2.1)) (ci := 4) (v := .int (if 1000 < ((((S0_20.1 5) * 10) + (S0_20.2 0 (S0_20.1 2).toNatClampNeg)) - 48) then 1000 else ((((S0_20.1 5) * 10) + (S0_20.2 0 (S0_20.1 2).toNatClampNeg)) - 48))) (ty := .int) (C := RX4) (T := TX4) (N := 6) hx hb ht wu_X4 tyX4 tyX4_ok nmX4 hown hK hP hD hS 0 rfl rfl 5 (by decide) (ht _ wk_X4_28) (fun _ h9 => h9) rfl (by decide +kernel) rfl rfl (Nat.le_of_ble_eq_true rfl) dX4_takeNumber_86 (fun H locs hP hD hS => ?_)
              have hP : gP E (gW [bText E a0 (pf S0_20 5 (if 1000 < ((((S0_20.1 5) * 10) + (S0_20.2 0 (S0_20.1 2).toNatClampNeg)) - 48) then 1000 else ((((S0_20.1 5) * 10) + (S0_20.2 0 (S0_20.1 2).toNatClampNeg)) - 48)))]) H := hP
              have hD : va_D A (gW [bText E a0 (pf S0_20 5 (if 1000 < ((((S0_20.1 5) * 10) + (S0_20.2 0 (S0_20.1 2).toNatClampNeg)) - 48) then 1000 else ((((S0_20.1 5) * 10) + (S0_20.2 0 (S0_20.1 2).toNatClampNeg)) - 48)))]) := hD
              obtain ⟨S_23, eS_23⟩ : ∃ z : Ob, z = (pf S0_20 5 (if 1000 < ((((S0_20.1 5) * 10) + (S0_20.2 0 (S0_20.1 2).toNatClampNeg)) - 48) then 1000 else ((((S0_20.1 5) * 10) + (S0_20.2 0 (S0_20.1 2).toNatClampNeg)) - 48))) := ⟨_, rfl⟩
              have h := h S_23 eS_23
              rw [← eS_23] at hP hD
              refine lv_aload_n hx hb dX4_takeNumber_89 rfl (lv_at hl 0 rfl) ?_
              refine lv_dup hx hb dX4_takeNumber_90 rfl ?_
              refine va_get (D := (E.1, E.2.1)) (ci := 4) (v := .int (S_23.1 2)) (C := RX4) (T := TX4) (N := 6) hx hb ht wu_X4 hown hK hP 0 rfl rfl 2 (by decide) (ht _ wk_X4_19) (fun _ h9 => h9) rfl dX4_takeNumber_91 ?_
              refine lv_iconst (v := 1) hx hb dX4_takeNumber_94 (by decide) ?_
              refine lv_iadd hx hb dX4_takeNumber_95 ?_
              refine va_put (D := (E.1, E.2.1)) (ci := 4) (v := .int ((S_23.1 2) + 1)) (ty := .int) (C := RX4) (T := TX4) (N := 6) hx hb ht wu_X4 tyX4 tyX4_ok nmX4 hown hK hP hD hS 0 rfl rfl 2 (by decide) (ht _ wk_X4_19) (fun _ h9 => h9) rfl (by decide +kernel) rfl rfl (Nat.le_of_ble_eq_true rfl) dX4_takeNumber_96 (fun H locs hP hD hS => ?_)
              have hP : gP E (gW [bText E a0 (pf S_23 2 ((S_23.1 2) + 1))]) H := hP
              have hD : va_D A (gW [bText E a0 (pf S_23 2 ((S_23.1 2) + 1))]) := hD
              refine lv_goto (tgt := 20) hx hb dX4_takeNumber_99 (by decide) ?_
              exact ih20 (pf S_23 2 ((S_23.1 2) + 1)) _ _ _ h hP hD hS (lv_sub hl [0, 1] rfl)
    obtain ⟨n20, h⟩ := h
    exact L20 n20 S0 _ _ _ h hP hD hS (lv_sub hl [1, 0] rfl)
  · have h := h.2 c_15
    refine lv_iconst (v := 1) hx hb dX4_takeNumber_14 (by decide) ?_
    refine lv_goto (tgt := 19) hx hb dX4_takeNumber_15 (by decide) ?_
    refine lv_istore_n (lv' := [(1, .int 1), (0, .ref (a0 99))]) hx hb dX4_takeNumber_19 rfl hl (by decide) rfl (fun ls hl => ?_)
    have L20 : ∀ (n20 : Nat) (S0_20 : Ob) (H : Heap) (locs : List Loc) (ls : Array Slot), wp_X4_takeNumber_L20 post 1 n20 S0_20 → gP E (gW [bText E a0 S0_20]) H → va_D A (gW [bText E a0 S0_20]) → va_S A s.heap H locs → lv_has ls 3 [(0, .ref (a0 99)), (1, .int 1)] → W p l e { frames := 1, cells := 0, slots := 0, locals := 21 } s m ([.ref (a0 99)] : List Value).toArray below meth c H locs 0 0 Q (F0 m 20 ls []) := by
      intro n20
      induction n20 with
      | zero => intro S0_20 H locs ls h; exact h.elim
      | succ n20 ih20 =>
        intro S0_20 H locs ls h hP hD hS hl
        rw [wp_X4_takeNumber_L20] at h
        refine lv_aload_n hx hb dX4_takeNumber_20 rfl (lv_at hl 0 rfl) ?_
        refine va_get (D := (E.1, E.2.1)) (ci := 4) (v := .int (S0_20.1 2)) (C := RX4) (T := TX4) (N := 6) hx hb ht wu_X4 hown hK hP 0 rfl rfl 2 (by decide) (ht _ wk_X4_19) (fun _ h9 => h9) rfl dX4_takeNumber_21 ?_
        refine lv_aload_n hx hb dX4_takeNumber_24 rfl (lv_at hl 0 rfl) ?_
        refine va_get (D := (E.1, E.2.1)) (ci := 4) (v := .int (S0_20.1 1)) (C := RX4) (T := TX4) (N := 6) hx hb ht wu_X4 hown hK hP 0 rfl rfl 1 (by decide) (ht _ wk_X4_15) (fun _ h9 => h9) rfl dX4_takeNumber_25 ?_
        refine lv_icmp_ge (tgt := 102) hx hb dX4_takeNumber_28 (by decide) (fun c_24 => ?_) (fun c_24 => ?_)
        · have h := h.1 c_24
          exact J102 1 S0_20 _ _ _ h hP hD hS (lv_sub hl [0, 1] rfl)
        · have h := h.2 c_24
          refine lv_aload_n hx hb dX4_takeNumber_31 rfl (lv_at hl 0 rfl) ?_
          refine va_get (D := (E.1, E.2.1)) (ci := 4) (v := .ref (a0 0)) (C := RX4) (T := TX4) (N := 6) hx hb ht wu_X4 hown hK hP 0 rfl rfl 0 (by decide) (ht _ wk_X4_9) (fun _ h9 => h9) rfl dX4_takeNumber_32 ?_
          refine lv_aload_n hx hb dX4_takeNumber_35 rfl (lv_at hl 0 rfl) ?_
          refine va_get (D := (E.1, E.2.1)) (ci := 4) (v := .int (S0_20.1 2)) (C := RX4) (T := TX4) (N := 6) hx hb ht wu_X4 hown hK hP 0 rfl rfl 2 (by decide) (ht _ wk_X4_19) (fun _ h9 => h9) rfl dX4_takeNumber_36 ?_
          refine va_iald hx hb hK hP 1 0 rfl rfl h.1 dX4_takeNumber_39 ?_
          have h := h.2
          refine lv_bipush (v := 48) hx hb dX4_takeNumber_40 (by decide) ?_
          refine lv_icmp_lt (tgt := 102) hx hb dX4_takeNumber_42 (by decide) (fun c_25 => ?_) (fun c_25 => ?_)
          · have h := h.1 c_25
            exact J102 1 S0_20 _ _ _ h hP hD hS (lv_sub hl [0, 1] rfl)
          · have h := h.2 c_25
            refine lv_aload_n hx hb dX4_takeNumber_45 rfl (lv_at hl 0 rfl) ?_
            refine va_get (D := (E.1, E.2.1)) (ci := 4) (v := .ref (a0 0)) (C := RX4) (T := TX4) (N := 6) hx hb ht wu_X4 hown hK hP 0 rfl rfl 0 (by decide) (ht _ wk_X4_9) (fun _ h9 => h9) rfl dX4_takeNumber_46 ?_
            refine lv_aload_n hx hb dX4_takeNumber_49 rfl (lv_at hl 0 rfl) ?_
            refine va_get (D := (E.1, E.2.1)) (ci := 4) (v := .int (S0_20.1 2)) (C := RX4) (T := TX4) (N := 6) hx hb ht wu_X4 hown hK hP 0 rfl rfl 2 (by decide) (ht _ wk_X4_19) (fun _ h9 => h9) rfl dX4_takeNumber_50 ?_
            refine va_iald hx hb hK hP 1 0 rfl rfl h.1 dX4_takeNumber_53 ?_
            have h := h.2
            refine lv_bipush (v := 57) hx hb dX4_takeNumber_54 (by decide) ?_
            refine lv_icmp_gt (tgt := 102) hx hb dX4_takeNumber_56 (by decide) (fun c_26 => ?_) (fun c_26 => ?_)
            · have h := h.1 c_26
              exact J102 1 S0_20 _ _ _ h hP hD hS (lv_sub hl [0, 1] rfl)
            · have h := h.2 c_26
              refine lv_aload_n hx hb dX4_takeNumber_59 rfl (lv_at hl 0 rfl) ?_
              refine lv_aload_n hx hb dX4_takeNumber_60 rfl (lv_at hl 0 rfl) ?_
              refine va_get (D := (E.1, E.2.1)) (ci := 4) (v := .int (S0_20.1 5)) (C := RX4) (T := TX4) (N := 6) hx hb ht wu_X4 hown hK hP 0 rfl rfl 5 (by decide) (ht _ wk_X4_28) (fun _ h9 => h9) rfl dX4_takeNumber_61 ?_
              refine lv_bipush (v := 10) hx hb dX4_takeNumber_64 (by decide) ?_
              refine lv_imul hx hb dX4_takeNumber_66 ?_
              refine lv_aload_n hx hb dX4_takeNumber_67 rfl (lv_at hl 0 rfl) ?_
              refine va_get (D := (E.1, E.2.1)) (ci := 4) (v := .ref (a0 0)) (C := RX4) (T := TX4) (N := 6) hx hb ht wu_X4 hown hK hP 0 rfl rfl 0 (by decide) (ht _ wk_X4_9) (fun _ h9 => h9) rfl dX4_takeNumber_68 ?_
              refine lv_aload_n hx hb dX4_takeNumber_71 rfl (lv_at hl 0 rfl) ?_
              refine va_get (D := (E.1, E.2.1)) (ci := 4) (v := .int (S0_20.1 2)) (C := RX4) (T := TX4) (N := 6) hx hb ht wu_X4 hown hK hP 0 rfl rfl 2 (by decide) (ht _ wk_X4_19) (fun _ h9 => h9) rfl dX4_takeNumber_72 ?_
              refine va_iald hx hb hK hP 1 0 rfl rfl h.1 dX4_takeNumber_75 ?_
              have h := h.2
              refine lv_iadd hx hb dX4_takeNumber_76 ?_
              refine lv_bipush (v := 48) hx hb dX4_takeNumber_77 (by decide) ?_
              refine lv_isub hx hb dX4_takeNumber_79 ?_
              refine lv_sipush (v := 1000) hx hb dX4_takeNumber_80 (by decide) ?_
              refine va_mmin hx hb (hml.trans hl.1.symm) hown (ht _ wk_X4_87) (ht _ wt_J9_min_7cf53) (ht _ wn_J9) (ht _ wc_J9_min_7cf53) (Nat.le_of_ble_eq_true rfl) (Nat.le_of_ble_eq_true rfl) (Nat.zero_le _) (Nat.zero_le _) dX4_takeNumber_83 ?_
              refine va_put (D := (E.1, E.2.1)) (ci := 4) (v := .int (if 1000 < ((((S0_20.1 5) * 10) + (S0_20.2 0 (S0_20.1 2).toNatClampNeg)) - 48) then 1000 else ((((S0_20.1 5) * 10) + (S0_20.2 0 (S0_20.1 2).toNatClampNeg)) - 48))) (ty := .int) (C := RX4) (T := TX4) (N := 6) hx hb ht wu_X4 tyX4 tyX4_ok nmX4 hown hK hP hD hS 0 rfl rfl 5 (by decide) (ht _ wk_X4_28) (fun _ h9 => h9) rfl (by decide +kernel) rfl rfl (Nat.le_of_ble_eq_true rfl) dX4_takeNumber_86 (fun H locs hP hD hS => ?_)
              have hP : gP E (gW [bText E a0 (pf S0_20 5 (if 1000 < ((((S0_20.1 5) * 10) + (S0_20.2 0 (S0_20.1 2).toNatClampNeg)) - 48) then 1000 else ((((S0_20.1 5) * 10) + (S0_20.2 0 (S0_20.1 2).toNatClampNeg)) - 48)))]) H := hP
              have hD : va_D A (gW [bText E a0 (pf S0_20 5 (if 1000 < ((((S0_20.1 5) * 10) + (S0_20.2 0 (S0_20.1 2).toNatClampNeg)) - 48) then 1000 else ((((S0_20.1 5) * 10) + (S0_20.2 0 (S0_20.1 2).toNatClampNeg)) - 48)))]) := hD
              obtain ⟨S_27, eS_27⟩ : ∃ z : Ob, z = (pf S0_20 5 (if 1000 < ((((S0_20.1 5) * 10) + (S0_20.2 0 (S0_20.1 2).toNatClampNeg)) - 48) then 1000 else ((((S0_20.1 5) * 10) + (S0_20.2 0 (S0_20.1 2).toNatClampNeg)) - 48))) := ⟨_, rfl⟩
              have h := h S_27 eS_27
              rw [← eS_27] at hP hD
              refine lv_aload_n hx hb dX4_takeNumber_89 rfl (lv_at hl 0 rfl) ?_
              refine lv_dup hx hb dX4_takeNumber_90 rfl ?_
              refine va_get (D := (E.1, E.2.1)) (ci := 4) (v := .int (S_27.1 2)) (C := RX4) (T := TX4) (N := 6) hx hb ht wu_X4 hown hK hP 0 rfl rfl 2 (by decide) (ht _ wk_X4_19) (fun _ h9 => h9) rfl dX4_takeNumber_91 ?_
              refine lv_iconst (v := 1) hx hb dX4_takeNumber_94 (by decide) ?_
              refine lv_iadd hx hb dX4_takeNumber_95 ?_
              refine va_put (D := (E.1, E.2.1)) (ci := 4) (v := .int ((S_27.1 2) + 1)) (ty := .int) (C := RX4) (T := TX4) (N := 6) hx hb ht wu_X4 tyX4 tyX4_ok nmX4 hown hK hP hD hS 0 rfl rfl 2 (by decide) (ht _ wk_X4_19) (fun _ h9 => h9) rfl (by decide +kernel) rfl rfl (Nat.le_of_ble_eq_true rfl) dX4_takeNumber_96 (fun H locs hP hD hS => ?_)
              have hP : gP E (gW [bText E a0 (pf S_27 2 ((S_27.1 2) + 1))]) H := hP
              have hD : va_D A (gW [bText E a0 (pf S_27 2 ((S_27.1 2) + 1))]) := hD
              refine lv_goto (tgt := 20) hx hb dX4_takeNumber_99 (by decide) ?_
              exact ih20 (pf S_27 2 ((S_27.1 2) + 1)) _ _ _ h hP hD hS (lv_sub hl [0, 1] rfl)
    obtain ⟨n20, h⟩ := h
    exact L20 n20 S0 _ _ _ h hP hD hS (lv_sub hl [1, 0] rfl)
theorem dX4_advance_0 : decode cX4_advance 0 = .ok (.aload_n 0, 1) := by decide +kernel
theorem dX4_advance_1 : decode cX4_advance 1 = .ok (.getfield 19, 3) := by decide +kernel
theorem dX4_advance_4 : decode cX4_advance 4 = .ok (.aload_n 0, 1) := by decide +kernel
theorem dX4_advance_5 : decode cX4_advance 5 = .ok (.getfield 15, 3) := by decide +kernel
theorem dX4_advance_8 : decode cX4_advance 8 = .ok (.if_icmp .ge 30, 3) := by decide +kernel
theorem dX4_advance_11 : decode cX4_advance 11 = .ok (.aload_n 0, 1) := by decide +kernel
theorem dX4_advance_12 : decode cX4_advance 12 = .ok (.getfield 9, 3) := by decide +kernel
theorem dX4_advance_15 : decode cX4_advance 15 = .ok (.aload_n 0, 1) := by decide +kernel
theorem dX4_advance_16 : decode cX4_advance 16 = .ok (.getfield 19, 3) := by decide +kernel
theorem dX4_advance_19 : decode cX4_advance 19 = .ok (.iaload, 1) := by decide +kernel
theorem dX4_advance_20 : decode cX4_advance 20 = .ok (.bipush 32, 2) := by decide +kernel
theorem dX4_advance_22 : decode cX4_advance 22 = .ok (.if_icmp .ne 16, 3) := by decide +kernel
theorem dX4_advance_25 : decode cX4_advance 25 = .ok (.aload_n 0, 1) := by decide +kernel
theorem dX4_advance_26 : decode cX4_advance 26 = .ok (.dup, 1) := by decide +kernel
theorem dX4_advance_27 : decode cX4_advance 27 = .ok (.getfield 19, 3) := by decide +kernel
theorem dX4_advance_30 : decode cX4_advance 30 = .ok (.iconst 1, 1) := by decide +kernel
theorem dX4_advance_31 : decode cX4_advance 31 = .ok (.iadd, 1) := by decide +kernel
theorem dX4_advance_32 : decode cX4_advance 32 = .ok (.putfield 19, 3) := by decide +kernel
theorem dX4_advance_35 : decode cX4_advance 35 = .ok (.goto (-35), 3) := by decide +kernel
theorem dX4_advance_38 : decode cX4_advance 38 = .ok (.aload_n 0, 1) := by decide +kernel
theorem dX4_advance_39 : decode cX4_advance 39 = .ok (.aload_n 0, 1) := by decide +kernel
theorem dX4_advance_40 : decode cX4_advance 40 = .ok (.getfield 19, 3) := by decide +kernel
theorem dX4_advance_43 : decode cX4_advance 43 = .ok (.putfield 25, 3) := by decide +kernel
theorem dX4_advance_46 : decode cX4_advance 46 = .ok (.aload_n 0, 1) := by decide +kernel
theorem dX4_advance_47 : decode cX4_advance 47 = .ok (.iconst 0, 1) := by decide +kernel
theorem dX4_advance_48 : decode cX4_advance 48 = .ok (.putfield 28, 3) := by decide +kernel
theorem dX4_advance_51 : decode cX4_advance 51 = .ok (.aload_n 0, 1) := by decide +kernel
theorem dX4_advance_52 : decode cX4_advance 52 = .ok (.getfield 19, 3) := by decide +kernel
theorem dX4_advance_55 : decode cX4_advance 55 = .ok (.aload_n 0, 1) := by decide +kernel
theorem dX4_advance_56 : decode cX4_advance 56 = .ok (.getfield 15, 3) := by decide +kernel
theorem dX4_advance_59 : decode cX4_advance 59 = .ok (.if_icmp .lt 11, 3) := by decide +kernel
theorem dX4_advance_62 : decode cX4_advance 62 = .ok (.aload_n 0, 1) := by decide +kernel
theorem dX4_advance_63 : decode cX4_advance 63 = .ok (.iconst 0, 1) := by decide +kernel
theorem dX4_advance_64 : decode cX4_advance 64 = .ok (.putfield 22, 3) := by decide +kernel
theorem dX4_advance_67 : decode cX4_advance 67 = .ok (.goto 110, 3) := by decide +kernel
theorem dX4_advance_70 : decode cX4_advance 70 = .ok (.aload_n 0, 1) := by decide +kernel
theorem dX4_advance_71 : decode cX4_advance 71 = .ok (.getfield 9, 3) := by decide +kernel
theorem dX4_advance_74 : decode cX4_advance 74 = .ok (.aload_n 0, 1) := by decide +kernel
theorem dX4_advance_75 : decode cX4_advance 75 = .ok (.getfield 19, 3) := by decide +kernel
theorem dX4_advance_78 : decode cX4_advance 78 = .ok (.iaload, 1) := by decide +kernel
theorem dX4_advance_79 : decode cX4_advance 79 = .ok (.bipush 97, 2) := by decide +kernel
theorem dX4_advance_81 : decode cX4_advance 81 = .ok (.if_icmp .lt 24, 3) := by decide +kernel
theorem dX4_advance_84 : decode cX4_advance 84 = .ok (.aload_n 0, 1) := by decide +kernel
theorem dX4_advance_85 : decode cX4_advance 85 = .ok (.getfield 9, 3) := by decide +kernel
theorem dX4_advance_88 : decode cX4_advance 88 = .ok (.aload_n 0, 1) := by decide +kernel
theorem dX4_advance_89 : decode cX4_advance 89 = .ok (.getfield 19, 3) := by decide +kernel
theorem dX4_advance_92 : decode cX4_advance 92 = .ok (.iaload, 1) := by decide +kernel
theorem dX4_advance_93 : decode cX4_advance 93 = .ok (.bipush 122, 2) := by decide +kernel
theorem dX4_advance_95 : decode cX4_advance 95 = .ok (.if_icmp .gt 10, 3) := by decide +kernel
theorem dX4_advance_98 : decode cX4_advance 98 = .ok (.aload_n 0, 1) := by decide +kernel
theorem dX4_advance_99 : decode cX4_advance 99 = .ok (.invokevirtual 81, 3) := by decide +kernel
theorem dX4_advance_102 : decode cX4_advance 102 = .ok (.goto 75, 3) := by decide +kernel
theorem dX4_advance_105 : decode cX4_advance 105 = .ok (.aload_n 0, 1) := by decide +kernel
theorem dX4_advance_106 : decode cX4_advance 106 = .ok (.getfield 9, 3) := by decide +kernel
theorem dX4_advance_109 : decode cX4_advance 109 = .ok (.aload_n 0, 1) := by decide +kernel
theorem dX4_advance_110 : decode cX4_advance 110 = .ok (.getfield 19, 3) := by decide +kernel
theorem dX4_advance_113 : decode cX4_advance 113 = .ok (.iaload, 1) := by decide +kernel
theorem dX4_advance_114 : decode cX4_advance 114 = .ok (.bipush 48, 2) := by decide +kernel
theorem dX4_advance_116 : decode cX4_advance 116 = .ok (.if_icmp .lt 24, 3) := by decide +kernel
theorem dX4_advance_119 : decode cX4_advance 119 = .ok (.aload_n 0, 1) := by decide +kernel
theorem dX4_advance_120 : decode cX4_advance 120 = .ok (.getfield 9, 3) := by decide +kernel
theorem dX4_advance_123 : decode cX4_advance 123 = .ok (.aload_n 0, 1) := by decide +kernel
theorem dX4_advance_124 : decode cX4_advance 124 = .ok (.getfield 19, 3) := by decide +kernel
theorem dX4_advance_127 : decode cX4_advance 127 = .ok (.iaload, 1) := by decide +kernel
theorem dX4_advance_128 : decode cX4_advance 128 = .ok (.bipush 57, 2) := by decide +kernel
theorem dX4_advance_130 : decode cX4_advance 130 = .ok (.if_icmp .gt 10, 3) := by decide +kernel
theorem dX4_advance_133 : decode cX4_advance 133 = .ok (.aload_n 0, 1) := by decide +kernel
theorem dX4_advance_134 : decode cX4_advance 134 = .ok (.invokevirtual 84, 3) := by decide +kernel
theorem dX4_advance_137 : decode cX4_advance 137 = .ok (.goto 40, 3) := by decide +kernel
theorem dX4_advance_140 : decode cX4_advance 140 = .ok (.aload_n 0, 1) := by decide +kernel
theorem dX4_advance_141 : decode cX4_advance 141 = .ok (.getfield 9, 3) := by decide +kernel
theorem dX4_advance_144 : decode cX4_advance 144 = .ok (.aload_n 0, 1) := by decide +kernel
theorem dX4_advance_145 : decode cX4_advance 145 = .ok (.getfield 19, 3) := by decide +kernel
theorem dX4_advance_148 : decode cX4_advance 148 = .ok (.iaload, 1) := by decide +kernel
theorem dX4_advance_149 : decode cX4_advance 149 = .ok (.bipush 59, 2) := by decide +kernel
theorem dX4_advance_151 : decode cX4_advance 151 = .ok (.if_icmp .ne 21, 3) := by decide +kernel
theorem dX4_advance_154 : decode cX4_advance 154 = .ok (.aload_n 0, 1) := by decide +kernel
theorem dX4_advance_155 : decode cX4_advance 155 = .ok (.iconst 3, 1) := by decide +kernel
theorem dX4_advance_156 : decode cX4_advance 156 = .ok (.putfield 22, 3) := by decide +kernel
theorem dX4_advance_159 : decode cX4_advance 159 = .ok (.aload_n 0, 1) := by decide +kernel
theorem dX4_advance_160 : decode cX4_advance 160 = .ok (.dup, 1) := by decide +kernel
theorem dX4_advance_161 : decode cX4_advance 161 = .ok (.getfield 19, 3) := by decide +kernel
theorem dX4_advance_164 : decode cX4_advance 164 = .ok (.iconst 1, 1) := by decide +kernel
theorem dX4_advance_165 : decode cX4_advance 165 = .ok (.iadd, 1) := by decide +kernel
theorem dX4_advance_166 : decode cX4_advance 166 = .ok (.putfield 19, 3) := by decide +kernel
theorem dX4_advance_169 : decode cX4_advance 169 = .ok (.goto 8, 3) := by decide +kernel
theorem dX4_advance_172 : decode cX4_advance 172 = .ok (.aload_n 0, 1) := by decide +kernel
theorem dX4_advance_173 : decode cX4_advance 173 = .ok (.iconst 4, 1) := by decide +kernel
theorem dX4_advance_174 : decode cX4_advance 174 = .ok (.putfield 22, 3) := by decide +kernel
theorem dX4_advance_177 : decode cX4_advance 177 = .ok (.return_, 1) := by decide +kernel
set_option maxHeartbeats 4000000 in
set_option maxRecDepth 100000 in
theorem c_X4_advance (E : GE) (l : Launch) (a0 : Nat → Nat) (S0 : Ob) (post : Ob → Prop) (h : wp_X4_advance S0 post) : Met l yX4_advance (wz yX4_advance cX4_advance 1 none) { frames := 2, cells := 0, slots := 0, locals := 43 } (gPc E [.ref (a0 99)] (gW [bText E a0 S0])) (gQv E (gW [bText E a0 S0]) (fun (u : Ob) => post u) (fun (u : Ob) w => w = gW [bText E a0 u])) 0 0 (gIn (gW [bText E a0 S0])) := by
  unfold wp_X4_advance at h
  refine g_of_v (by decide) (Nat.le_of_ble_eq_true rfl) ?_
  intro p e s m below meth c A Q hx hb hml hown ht hE hP hD hret ls hl
  have hK := hE.1
  have hS : va_S A s.heap s.heap [] := va_S.rf
  have hl : lv_has ls 1 [(0, .ref (a0 99))] := hl
  have J105 : ∀ (S0_j105 : Ob) (H : Heap) (locs : List Loc) (ls : Array Slot), wp_X4_advance_J105 post S0_j105 → gP E (gW [bText E a0 S0_j105]) H → va_D A (gW [bText E a0 S0_j105]) → va_S A s.heap H locs → lv_has ls 1 [(0, .ref (a0 99))] → W p l e { frames := 2, cells := 0, slots := 0, locals := 43 } s m ([.ref (a0 99)] : List Value).toArray below meth c H locs 0 0 Q (F0 m 105 ls []) := by
    intro S0_j105 H locs ls h hP hD hS hl
    unfold wp_X4_advance_J105 at h
    refine lv_aload_n hx hb dX4_advance_105 rfl (lv_at hl 0 rfl) ?_
    refine va_get (D := (E.1, E.2.1)) (ci := 4) (v := .ref (a0 0)) (C := RX4) (T := TX4) (N := 6) hx hb ht wu_X4 hown hK hP 0 rfl rfl 0 (by decide) (ht _ wk_X4_9) (fun _ h9 => h9) rfl dX4_advance_106 ?_
    refine lv_aload_n hx hb dX4_advance_109 rfl (lv_at hl 0 rfl) ?_
    refine va_get (D := (E.1, E.2.1)) (ci := 4) (v := .int (S0_j105.1 2)) (C := RX4) (T := TX4) (N := 6) hx hb ht wu_X4 hown hK hP 0 rfl rfl 2 (by decide) (ht _ wk_X4_19) (fun _ h9 => h9) rfl dX4_advance_110 ?_
    refine va_iald hx hb hK hP 1 0 rfl rfl h.1 dX4_advance_113 ?_
    have h := h.2
    refine lv_bipush (v := 48) hx hb dX4_advance_114 (by decide) ?_
    refine lv_icmp_lt (tgt := 140) hx hb dX4_advance_116 (by decide) (fun c_8 => ?_) (fun c_8 => ?_)
    · have h := h.1 c_8
      refine lv_aload_n hx hb dX4_advance_140 rfl (lv_at hl 0 rfl) ?_
      refine va_get (D := (E.1, E.2.1)) (ci := 4) (v := .ref (a0 0)) (C := RX4) (T := TX4) (N := 6) hx hb ht wu_X4 hown hK hP 0 rfl rfl 0 (by decide) (ht _ wk_X4_9) (fun _ h9 => h9) rfl dX4_advance_141 ?_
      refine lv_aload_n hx hb dX4_advance_144 rfl (lv_at hl 0 rfl) ?_
      refine va_get (D := (E.1, E.2.1)) (ci := 4) (v := .int (S0_j105.1 2)) (C := RX4) (T := TX4) (N := 6) hx hb ht wu_X4 hown hK hP 0 rfl rfl 2 (by decide) (ht _ wk_X4_19) (fun _ h9 => h9) rfl dX4_advance_145 ?_
      refine va_iald hx hb hK hP 1 0 rfl rfl h.1 dX4_advance_148 ?_
      have h := h.2
      refine lv_bipush (v := 59) hx hb dX4_advance_149 (by decide) ?_
      refine lv_icmp_ne (tgt := 172) hx hb dX4_advance_151 (by decide) (fun c_9 => ?_) (fun c_9 => ?_)
      · have h := h.1 c_9
        refine lv_aload_n hx hb dX4_advance_172 rfl (lv_at hl 0 rfl) ?_
        refine lv_iconst (v := 4) hx hb dX4_advance_173 (by decide) ?_
        refine va_put (D := (E.1, E.2.1)) (ci := 4) (v := .int 4) (ty := .int) (C := RX4) (T := TX4) (N := 6) hx hb ht wu_X4 tyX4 tyX4_ok nmX4 hown hK hP hD hS 0 rfl rfl 3 (by decide) (ht _ wk_X4_22) (fun _ h9 => h9) rfl (by decide +kernel) rfl rfl (Nat.le_of_ble_eq_true rfl) dX4_advance_174 (fun H locs hP hD hS => ?_)
        have hP : gP E (gW [bText E a0 (pf S0_j105 3 4)]) H := hP
        have hD : va_D A (gW [bText E a0 (pf S0_j105 3 4)]) := hD
        exact hret (pf S0_j105 3 4) _ _ _ _ _ h rfl hP hD hS dX4_advance_177
      · have h := h.2 c_9
        refine lv_aload_n hx hb dX4_advance_154 rfl (lv_at hl 0 rfl) ?_
        refine lv_iconst (v := 3) hx hb dX4_advance_155 (by decide) ?_
        refine va_put (D := (E.1, E.2.1)) (ci := 4) (v := .int 3) (ty := .int) (C := RX4) (T := TX4) (N := 6) hx hb ht wu_X4 tyX4 tyX4_ok nmX4 hown hK hP hD hS 0 rfl rfl 3 (by decide) (ht _ wk_X4_22) (fun _ h9 => h9) rfl (by decide +kernel) rfl rfl (Nat.le_of_ble_eq_true rfl) dX4_advance_156 (fun H locs hP hD hS => ?_)
        have hP : gP E (gW [bText E a0 (pf S0_j105 3 3)]) H := hP
        have hD : va_D A (gW [bText E a0 (pf S0_j105 3 3)]) := hD
        refine lv_aload_n hx hb dX4_advance_159 rfl (lv_at hl 0 rfl) ?_
        refine lv_dup hx hb dX4_advance_160 rfl ?_
        refine va_get (D := (E.1, E.2.1)) (ci := 4) (v := .int ((pf S0_j105 3 3).1 2)) (C := RX4) (T := TX4) (N := 6) hx hb ht wu_X4 hown hK hP 0 rfl rfl 2 (by decide) (ht _ wk_X4_19) (fun _ h9 => h9) rfl dX4_advance_161 ?_
        refine lv_iconst (v := 1) hx hb dX4_advance_164 (by decide) ?_
        refine lv_iadd hx hb dX4_advance_165 ?_
        refine va_put (D := (E.1, E.2.1)) (ci := 4) (v := .int (((pf S0_j105 3 3).1 2) + 1)) (ty := .int) (C := RX4) (T := TX4) (N := 6) hx hb ht wu_X4 tyX4 tyX4_ok nmX4 hown hK hP hD hS 0 rfl rfl 2 (by decide) (ht _ wk_X4_19) (fun _ h9 => h9) rfl (by decide +kernel) rfl rfl (Nat.le_of_ble_eq_true rfl) dX4_advance_166 (fun H locs hP hD hS => ?_)
        have hP : gP E (gW [bText E a0 (pf (pf S0_j105 3 3) 2 (((pf S0_j105 3 3).1 2) + 1))]) H := hP
        have hD : va_D A (gW [bText E a0 (pf (pf S0_j105 3 3) 2 (((pf S0_j105 3 3).1 2) + 1))]) := hD
        obtain ⟨S_10, eS_10⟩ : ∃ z : Ob, z = (pf (pf S0_j105 3 3) 2 (((pf S0_j105 3 3).1 2) + 1)) := ⟨_, rfl⟩
        have h := h S_10 eS_10
        rw [← eS_10] at hP hD
        refine lv_goto (tgt := 177) hx hb dX4_advance_169 (by decide) ?_
        exact hret S_10 _ _ _ _ _ h rfl hP hD hS dX4_advance_177
    · have h := h.2 c_8
      refine lv_aload_n hx hb dX4_advance_119 rfl (lv_at hl 0 rfl) ?_
      refine va_get (D := (E.1, E.2.1)) (ci := 4) (v := .ref (a0 0)) (C := RX4) (T := TX4) (N := 6) hx hb ht wu_X4 hown hK hP 0 rfl rfl 0 (by decide) (ht _ wk_X4_9) (fun _ h9 => h9) rfl dX4_advance_120 ?_
      refine lv_aload_n hx hb dX4_advance_123 rfl (lv_at hl 0 rfl) ?_
      refine va_get (D := (E.1, E.2.1)) (ci := 4) (v := .int (S0_j105.1 2)) (C := RX4) (T := TX4) (N := 6) hx hb ht wu_X4 hown hK hP 0 rfl rfl 2 (by decide) (ht _ wk_X4_19) (fun _ h9 => h9) rfl dX4_advance_124 ?_
      refine va_iald hx hb hK hP 1 0 rfl rfl h.1 dX4_advance_127 ?_
      have h := h.2
      refine lv_bipush (v := 57) hx hb dX4_advance_128 (by decide) ?_
      refine lv_icmp_gt (tgt := 140) hx hb dX4_advance_130 (by decide) (fun c_11 => ?_) (fun c_11 => ?_)
      · have h := h.1 c_11
        refine lv_aload_n hx hb dX4_advance_140 rfl (lv_at hl 0 rfl) ?_
        refine va_get (D := (E.1, E.2.1)) (ci := 4) (v := .ref (a0 0)) (C := RX4) (T := TX4) (N := 6) hx hb ht wu_X4 hown hK hP 0 rfl rfl 0 (by decide) (ht _ wk_X4_9) (fun _ h9 => h9) rfl dX4_advance_141 ?_
        refine lv_aload_n hx hb dX4_advance_144 rfl (lv_at hl 0 rfl) ?_
        refine va_get (D := (E.1, E.2.1)) (ci := 4) (v := .int (S0_j105.1 2)) (C := RX4) (T := TX4) (N := 6) hx hb ht wu_X4 hown hK hP 0 rfl rfl 2 (by decide) (ht _ wk_X4_19) (fun _ h9 => h9) rfl dX4_advance_145 ?_
        refine va_iald hx hb hK hP 1 0 rfl rfl h.1 dX4_advance_148 ?_
        have h := h.2
        refine lv_bipush (v := 59) hx hb dX4_advance_149 (by decide) ?_
        refine lv_icmp_ne (tgt := 172) hx hb dX4_advance_151 (by decide) (fun c_12 => ?_) (fun c_12 => ?_)
        · have h := h.1 c_12
          refine lv_aload_n hx hb dX4_advance_172 rfl (lv_at hl 0 rfl) ?_
          refine lv_iconst (v := 4) hx hb dX4_advance_173 (by decide) ?_
          refine va_put (D := (E.1, E.2.1)) (ci := 4) (v := .int 4) (ty := .int) (C := RX4) (T := TX4) (N := 6) hx hb ht wu_X4 tyX4 tyX4_ok nmX4 hown hK hP hD hS 0 rfl rfl 3 (by decide) (ht _ wk_X4_22) (fun _ h9 => h9) rfl (by decide +kernel) rfl rfl (Nat.le_of_ble_eq_true rfl) dX4_advance_174 (fun H locs hP hD hS => ?_)
          have hP : gP E (gW [bText E a0 (pf S0_j105 3 4)]) H := hP
          have hD : va_D A (gW [bText E a0 (pf S0_j105 3 4)]) := hD
          exact hret (pf S0_j105 3 4) _ _ _ _ _ h rfl hP hD hS dX4_advance_177
        · have h := h.2 c_12
          refine lv_aload_n hx hb dX4_advance_154 rfl (lv_at hl 0 rfl) ?_
          refine lv_iconst (v := 3) hx hb dX4_advance_155 (by decide) ?_
          refine va_put (D := (E.1, E.2.1)) (ci := 4) (v := .int 3) (ty := .int) (C := RX4) (T := TX4) (N := 6) hx hb ht wu_X4 tyX4 tyX4_ok nmX4 hown hK hP hD hS 0 rfl rfl 3 (by decide) (ht _ wk_X4_22) (fun _ h9 => h9) rfl (by decide +kernel) rfl rfl (Nat.le_of_ble_eq_true rfl) dX4_advance_156 (fun H locs hP hD hS => ?_)
          have hP : gP E (gW [bText E a0 (pf S0_j105 3 3)]) H := hP
          have hD : va_D A (gW [bText E a0 (pf S0_j105 3 3)]) := hD
          refine lv_aload_n hx hb dX4_advance_159 rfl (lv_at hl 0 rfl) ?_
          refine lv_dup hx hb dX4_advance_160 rfl ?_
          refine va_get (D := (E.1, E.2.1)) (ci := 4) (v := .int ((pf S0_j105 3 3).1 2)) (C := RX4) (T := TX4) (N := 6) hx hb ht wu_X4 hown hK hP 0 rfl rfl 2 (by decide) (ht _ wk_X4_19) (fun _ h9 => h9) rfl dX4_advance_161 ?_
          refine lv_iconst (v := 1) hx hb dX4_advance_164 (by decide) ?_
          refine lv_iadd hx hb dX4_advance_165 ?_
          refine va_put (D := (E.1, E.2.1)) (ci := 4) (v := .int (((pf S0_j105 3 3).1 2) + 1)) (ty := .int) (C := RX4) (T := TX4) (N := 6) hx hb ht wu_X4 tyX4 tyX4_ok nmX4 hown hK hP hD hS 0 rfl rfl 2 (by decide) (ht _ wk_X4_19) (fun _ h9 => h9) rfl (by decide +kernel) rfl rfl (Nat.le_of_ble_eq_true rfl) dX4_advance_166 (fun H locs hP hD hS => ?_)
          have hP : gP E (gW [bText E a0 (pf (pf S0_j105 3 3) 2 (((pf S0_j105 3 3).1 2) + 1))]) H := hP
          have hD : va_D A (gW [bText E a0 (pf (pf S0_j105 3 3) 2 (((pf S0_j105 3 3).1 2) + 1))]) := hD
          obtain ⟨S_13, eS_13⟩ : ∃ z : Ob, z = (pf (pf S0_j105 3 3) 2 (((pf S0_j105 3 3).1 2) + 1)) := ⟨_, rfl⟩
          have h := h S_13 eS_13
          rw [← eS_13] at hP hD
          refine lv_goto (tgt := 177) hx hb dX4_advance_169 (by decide) ?_
          exact hret S_13 _ _ _ _ _ h rfl hP hD hS dX4_advance_177
      · have h := h.2 c_11
        refine lv_aload_n hx hb dX4_advance_133 rfl (lv_at hl 0 rfl) ?_
        have p1 := gB (n := 1) (bs := [bText E a0 S0_j105]) (bc := [bText E a0 S0_j105]) (br := []) [0] rfl rfl (by decide)
        refine g_v (g_runV (As := []) (rest := []) ⟨hx, hb, hml, hown, ht⟩ hE (c_X4_takeNumber E l a0 S0_j105 _ h) ⟨rfl, rfl⟩ wk_X4_84 wi_X4_takeNumber ws_X4_takeNumber wn_X4 wc_X4_takeNumber yd_X4_takeNumber ⟨Nat.le_of_ble_eq_true rfl, Nat.le_of_ble_eq_true rfl⟩ hP hD p1 (ci := 4) rfl rfl rfl rfl rfl hl.1 rfl (lv_room (Nat.le_of_ble_eq_true rfl)) dX4_advance_134 ⟨Nat.zero_le _, Nat.zero_le _⟩) hP hD hS p1 (fun S_14 w H locs h hw hP hD hS => ?_)
        subst hw
        clear p1
        have p2 := gB (n := 1) (bs := [bText E a0 S_14]) (bc := [bText E a0 S_14]) (br := []) [0] rfl rfl (by decide)
        have hP := gP_perm p2.symm hP
        have hD := gD_perm p2.symm hD
        clear p2
        refine lv_goto (tgt := 177) hx hb dX4_advance_137 (by decide) ?_
        exact hret S_14 _ _ _ _ _ h rfl hP hD hS dX4_advance_177
  have J38 : ∀ (S0_j38 : Ob) (H : Heap) (locs : List Loc) (ls : Array Slot), wp_X4_advance_J38 post S0_j38 → gP E (gW [bText E a0 S0_j38]) H → va_D A (gW [bText E a0 S0_j38]) → va_S A s.heap H locs → lv_has ls 1 [(0, .ref (a0 99))] → W p l e { frames := 2, cells := 0, slots := 0, locals := 43 } s m ([.ref (a0 99)] : List Value).toArray below meth c H locs 0 0 Q (F0 m 38 ls []) := by
    intro S0_j38 H locs ls h hP hD hS hl
    unfold wp_X4_advance_J38 at h
    refine lv_aload_n hx hb dX4_advance_38 rfl (lv_at hl 0 rfl) ?_
    refine lv_aload_n hx hb dX4_advance_39 rfl (lv_at hl 0 rfl) ?_
    refine va_get (D := (E.1, E.2.1)) (ci := 4) (v := .int (S0_j38.1 2)) (C := RX4) (T := TX4) (N := 6) hx hb ht wu_X4 hown hK hP 0 rfl rfl 2 (by decide) (ht _ wk_X4_19) (fun _ h9 => h9) rfl dX4_advance_40 ?_
    refine va_put (D := (E.1, E.2.1)) (ci := 4) (v := .int (S0_j38.1 2)) (ty := .int) (C := RX4) (T := TX4) (N := 6) hx hb ht wu_X4 tyX4 tyX4_ok nmX4 hown hK hP hD hS 0 rfl rfl 4 (by decide) (ht _ wk_X4_25) (fun _ h9 => h9) rfl (by decide +kernel) rfl rfl (Nat.le_of_ble_eq_true rfl) dX4_advance_43 (fun H locs hP hD hS => ?_)
    have hP : gP E (gW [bText E a0 (pf S0_j38 4 (S0_j38.1 2))]) H := hP
    have hD : va_D A (gW [bText E a0 (pf S0_j38 4 (S0_j38.1 2))]) := hD
    refine lv_aload_n hx hb dX4_advance_46 rfl (lv_at hl 0 rfl) ?_
    refine lv_iconst (v := 0) hx hb dX4_advance_47 (by decide) ?_
    refine va_put (D := (E.1, E.2.1)) (ci := 4) (v := .int 0) (ty := .int) (C := RX4) (T := TX4) (N := 6) hx hb ht wu_X4 tyX4 tyX4_ok nmX4 hown hK hP hD hS 0 rfl rfl 5 (by decide) (ht _ wk_X4_28) (fun _ h9 => h9) rfl (by decide +kernel) rfl rfl (Nat.le_of_ble_eq_true rfl) dX4_advance_48 (fun H locs hP hD hS => ?_)
    have hP : gP E (gW [bText E a0 (pf (pf S0_j38 4 (S0_j38.1 2)) 5 0)]) H := hP
    have hD : va_D A (gW [bText E a0 (pf (pf S0_j38 4 (S0_j38.1 2)) 5 0)]) := hD
    obtain ⟨S_20, eS_20⟩ : ∃ z : Ob, z = (pf (pf S0_j38 4 (S0_j38.1 2)) 5 0) := ⟨_, rfl⟩
    have h := h S_20 eS_20
    rw [← eS_20] at hP hD
    refine lv_aload_n hx hb dX4_advance_51 rfl (lv_at hl 0 rfl) ?_
    refine va_get (D := (E.1, E.2.1)) (ci := 4) (v := .int (S_20.1 2)) (C := RX4) (T := TX4) (N := 6) hx hb ht wu_X4 hown hK hP 0 rfl rfl 2 (by decide) (ht _ wk_X4_19) (fun _ h9 => h9) rfl dX4_advance_52 ?_
    refine lv_aload_n hx hb dX4_advance_55 rfl (lv_at hl 0 rfl) ?_
    refine va_get (D := (E.1, E.2.1)) (ci := 4) (v := .int (S_20.1 1)) (C := RX4) (T := TX4) (N := 6) hx hb ht wu_X4 hown hK hP 0 rfl rfl 1 (by decide) (ht _ wk_X4_15) (fun _ h9 => h9) rfl dX4_advance_56 ?_
    refine lv_icmp_lt (tgt := 70) hx hb dX4_advance_59 (by decide) (fun c_21 => ?_) (fun c_21 => ?_)
    · have h := h.1 c_21
      refine lv_aload_n hx hb dX4_advance_70 rfl (lv_at hl 0 rfl) ?_
      refine va_get (D := (E.1, E.2.1)) (ci := 4) (v := .ref (a0 0)) (C := RX4) (T := TX4) (N := 6) hx hb ht wu_X4 hown hK hP 0 rfl rfl 0 (by decide) (ht _ wk_X4_9) (fun _ h9 => h9) rfl dX4_advance_71 ?_
      refine lv_aload_n hx hb dX4_advance_74 rfl (lv_at hl 0 rfl) ?_
      refine va_get (D := (E.1, E.2.1)) (ci := 4) (v := .int (S_20.1 2)) (C := RX4) (T := TX4) (N := 6) hx hb ht wu_X4 hown hK hP 0 rfl rfl 2 (by decide) (ht _ wk_X4_19) (fun _ h9 => h9) rfl dX4_advance_75 ?_
      refine va_iald hx hb hK hP 1 0 rfl rfl h.1 dX4_advance_78 ?_
      have h := h.2
      refine lv_bipush (v := 97) hx hb dX4_advance_79 (by decide) ?_
      refine lv_icmp_lt (tgt := 105) hx hb dX4_advance_81 (by decide) (fun c_22 => ?_) (fun c_22 => ?_)
      · have h := h.1 c_22
        exact J105 S_20 _ _ _ h hP hD hS (lv_sub hl [0] rfl)
      · have h := h.2 c_22
        refine lv_aload_n hx hb dX4_advance_84 rfl (lv_at hl 0 rfl) ?_
        refine va_get (D := (E.1, E.2.1)) (ci := 4) (v := .ref (a0 0)) (C := RX4) (T := TX4) (N := 6) hx hb ht wu_X4 hown hK hP 0 rfl rfl 0 (by decide) (ht _ wk_X4_9) (fun _ h9 => h9) rfl dX4_advance_85 ?_
        refine lv_aload_n hx hb dX4_advance_88 rfl (lv_at hl 0 rfl) ?_
        refine va_get (D := (E.1, E.2.1)) (ci := 4) (v := .int (S_20.1 2)) (C := RX4) (T := TX4) (N := 6) hx hb ht wu_X4 hown hK hP 0 rfl rfl 2 (by decide) (ht _ wk_X4_19) (fun _ h9 => h9) rfl dX4_advance_89 ?_
        refine va_iald hx hb hK hP 1 0 rfl rfl h.1 dX4_advance_92 ?_
        have h := h.2
        refine lv_bipush (v := 122) hx hb dX4_advance_93 (by decide) ?_
        refine lv_icmp_gt (tgt := 105) hx hb dX4_advance_95 (by decide) (fun c_23 => ?_) (fun c_23 => ?_)
        · have h := h.1 c_23
          exact J105 S_20 _ _ _ h hP hD hS (lv_sub hl [0] rfl)
        · have h := h.2 c_23
          refine lv_aload_n hx hb dX4_advance_98 rfl (lv_at hl 0 rfl) ?_
          have p1 := gB (n := 1) (bs := [bText E a0 S_20]) (bc := [bText E a0 S_20]) (br := []) [0] rfl rfl (by decide)
          refine g_v (g_runV (As := []) (rest := []) ⟨hx, hb, hml, hown, ht⟩ hE (c_X4_takeLetters E l a0 S_20 _ h) ⟨rfl, rfl⟩ wk_X4_81 wi_X4_takeLetters ws_X4_takeLetters wn_X4 wc_X4_takeLetters yd_X4_takeLetters ⟨Nat.le_of_ble_eq_true rfl, Nat.le_of_ble_eq_true rfl⟩ hP hD p1 (ci := 4) rfl rfl rfl rfl rfl hl.1 rfl (lv_room (Nat.le_of_ble_eq_true rfl)) dX4_advance_99 ⟨Nat.zero_le _, Nat.zero_le _⟩) hP hD hS p1 (fun S_24 w H locs h hw hP hD hS => ?_)
          subst hw
          clear p1
          have p2 := gB (n := 1) (bs := [bText E a0 S_24]) (bc := [bText E a0 S_24]) (br := []) [0] rfl rfl (by decide)
          have hP := gP_perm p2.symm hP
          have hD := gD_perm p2.symm hD
          clear p2
          refine lv_goto (tgt := 177) hx hb dX4_advance_102 (by decide) ?_
          exact hret S_24 _ _ _ _ _ h rfl hP hD hS dX4_advance_177
    · have h := h.2 c_21
      refine lv_aload_n hx hb dX4_advance_62 rfl (lv_at hl 0 rfl) ?_
      refine lv_iconst (v := 0) hx hb dX4_advance_63 (by decide) ?_
      refine va_put (D := (E.1, E.2.1)) (ci := 4) (v := .int 0) (ty := .int) (C := RX4) (T := TX4) (N := 6) hx hb ht wu_X4 tyX4 tyX4_ok nmX4 hown hK hP hD hS 0 rfl rfl 3 (by decide) (ht _ wk_X4_22) (fun _ h9 => h9) rfl (by decide +kernel) rfl rfl (Nat.le_of_ble_eq_true rfl) dX4_advance_64 (fun H locs hP hD hS => ?_)
      have hP : gP E (gW [bText E a0 (pf S_20 3 0)]) H := hP
      have hD : va_D A (gW [bText E a0 (pf S_20 3 0)]) := hD
      refine lv_goto (tgt := 177) hx hb dX4_advance_67 (by decide) ?_
      exact hret (pf S_20 3 0) _ _ _ _ _ h rfl hP hD hS dX4_advance_177
  have L0 : ∀ (n0 : Nat) (S0_0 : Ob) (H : Heap) (locs : List Loc) (ls : Array Slot), wp_X4_advance_L0 post n0 S0_0 → gP E (gW [bText E a0 S0_0]) H → va_D A (gW [bText E a0 S0_0]) → va_S A s.heap H locs → lv_has ls 1 [(0, .ref (a0 99))] → W p l e { frames := 2, cells := 0, slots := 0, locals := 43 } s m ([.ref (a0 99)] : List Value).toArray below meth c H locs 0 0 Q (F0 m 0 ls []) := by
    intro n0
    induction n0 with
    | zero => intro S0_0 H locs ls h; exact h.elim
    | succ n0 ih0 =>
      intro S0_0 H locs ls h hP hD hS hl
      rw [wp_X4_advance_L0] at h
      refine lv_aload_n hx hb dX4_advance_0 rfl (lv_at hl 0 rfl) ?_
      refine va_get (D := (E.1, E.2.1)) (ci := 4) (v := .int (S0_0.1 2)) (C := RX4) (T := TX4) (N := 6) hx hb ht wu_X4 hown hK hP 0 rfl rfl 2 (by decide) (ht _ wk_X4_19) (fun _ h9 => h9) rfl dX4_advance_1 ?_
      refine lv_aload_n hx hb dX4_advance_4 rfl (lv_at hl 0 rfl) ?_
      refine va_get (D := (E.1, E.2.1)) (ci := 4) (v := .int (S0_0.1 1)) (C := RX4) (T := TX4) (N := 6) hx hb ht wu_X4 hown hK hP 0 rfl rfl 1 (by decide) (ht _ wk_X4_15) (fun _ h9 => h9) rfl dX4_advance_5 ?_
      refine lv_icmp_ge (tgt := 38) hx hb dX4_advance_8 (by decide) (fun c_27 => ?_) (fun c_27 => ?_)
      · have h := h.1 c_27
        exact J38 S0_0 _ _ _ h hP hD hS (lv_sub hl [0] rfl)
      · have h := h.2 c_27
        refine lv_aload_n hx hb dX4_advance_11 rfl (lv_at hl 0 rfl) ?_
        refine va_get (D := (E.1, E.2.1)) (ci := 4) (v := .ref (a0 0)) (C := RX4) (T := TX4) (N := 6) hx hb ht wu_X4 hown hK hP 0 rfl rfl 0 (by decide) (ht _ wk_X4_9) (fun _ h9 => h9) rfl dX4_advance_12 ?_
        refine lv_aload_n hx hb dX4_advance_15 rfl (lv_at hl 0 rfl) ?_
        refine va_get (D := (E.1, E.2.1)) (ci := 4) (v := .int (S0_0.1 2)) (C := RX4) (T := TX4) (N := 6) hx hb ht wu_X4 hown hK hP 0 rfl rfl 2 (by decide) (ht _ wk_X4_19) (fun _ h9 => h9) rfl dX4_advance_16 ?_
        refine va_iald hx hb hK hP 1 0 rfl rfl h.1 dX4_advance_19 ?_
        have h := h.2
        refine lv_bipush (v := 32) hx hb dX4_advance_20 (by decide) ?_
        refine lv_icmp_ne (tgt := 38) hx hb dX4_advance_22 (by decide) (fun c_28 => ?_) (fun c_28 => ?_)
        · have h := h.1 c_28
          exact J38 S0_0 _ _ _ h hP hD hS (lv_sub hl [0] rfl)
        · have h := h.2 c_28
          refine lv_aload_n hx hb dX4_advance_25 rfl (lv_at hl 0 rfl) ?_
          refine lv_dup hx hb dX4_advance_26 rfl ?_
          refine va_get (D := (E.1, E.2.1)) (ci := 4) (v := .int (S0_0.1 2)) (C := RX4) (T := TX4) (N := 6) hx hb ht wu_X4 hown hK hP 0 rfl rfl 2 (by decide) (ht _ wk_X4_19) (fun _ h9 => h9) rfl dX4_advance_27 ?_
          refine lv_iconst (v := 1) hx hb dX4_advance_30 (by decide) ?_
          refine lv_iadd hx hb dX4_advance_31 ?_
          refine va_put (D := (E.1, E.2.1)) (ci := 4) (v := .int ((S0_0.1 2) + 1)) (ty := .int) (C := RX4) (T := TX4) (N := 6) hx hb ht wu_X4 tyX4 tyX4_ok nmX4 hown hK hP hD hS 0 rfl rfl 2 (by decide) (ht _ wk_X4_19) (fun _ h9 => h9) rfl (by decide +kernel) rfl rfl (Nat.le_of_ble_eq_true rfl) dX4_advance_32 (fun H locs hP hD hS => ?_)
          have hP : gP E (gW [bText E a0 (pf S0_0 2 ((S0_0.1 2) + 1))]) H := hP
          have hD : va_D A (gW [bText E a0 (pf S0_0 2 ((S0_0.1 2) + 1))]) := hD
          refine lv_goto (tgt := 0) hx hb dX4_advance_35 (by decide) ?_
          exact ih0 (pf S0_0 2 ((S0_0.1 2) + 1)) _ _ _ h hP hD hS (lv_sub hl [0] rfl)
  obtain ⟨n0, h⟩ := h
  exact L0 n0 S0 _ _ _ h hP hD hS (lv_sub hl [0] rfl)
theorem dX4_readNumber_0 : decode cX4_readNumber 0 = .ok (.aload_n 0, 1) := by decide +kernel
theorem dX4_readNumber_1 : decode cX4_readNumber 1 = .ok (.invokevirtual 36, 3) := by decide +kernel
theorem dX4_readNumber_4 : decode cX4_readNumber 4 = .ok (.aload_n 0, 1) := by decide +kernel
theorem dX4_readNumber_5 : decode cX4_readNumber 5 = .ok (.getfield 22, 3) := by decide +kernel
theorem dX4_readNumber_8 : decode cX4_readNumber 8 = .ok (.iconst 2, 1) := by decide +kernel
theorem dX4_readNumber_9 : decode cX4_readNumber 9 = .ok (.if_icmp .ne 23, 3) := by decide +kernel
theorem dX4_readNumber_12 : decode cX4_readNumber 12 = .ok (.aload_n 0, 1) := by decide +kernel
theorem dX4_readNumber_13 : decode cX4_readNumber 13 = .ok (.getfield 28, 3) := by decide +kernel
theorem dX4_readNumber_16 : decode cX4_readNumber 16 = .ok (.iload_n 1, 1) := by decide +kernel
theorem dX4_readNumber_17 : decode cX4_readNumber 17 = .ok (.if_icmp .lt 15, 3) := by decide +kernel
theorem dX4_readNumber_20 : decode cX4_readNumber 20 = .ok (.aload_n 0, 1) := by decide +kernel
theorem dX4_readNumber_21 : decode cX4_readNumber 21 = .ok (.getfield 28, 3) := by decide +kernel
theorem dX4_readNumber_24 : decode cX4_readNumber 24 = .ok (.iload_n 2, 1) := by decide +kernel
theorem dX4_readNumber_25 : decode cX4_readNumber 25 = .ok (.if_icmp .gt 7, 3) := by decide +kernel
theorem dX4_readNumber_28 : decode cX4_readNumber 28 = .ok (.iconst 1, 1) := by decide +kernel
theorem dX4_readNumber_29 : decode cX4_readNumber 29 = .ok (.goto 4, 3) := by decide +kernel
theorem dX4_readNumber_32 : decode cX4_readNumber 32 = .ok (.iconst 0, 1) := by decide +kernel
theorem dX4_readNumber_33 : decode cX4_readNumber 33 = .ok (.ireturn, 1) := by decide +kernel
set_option maxHeartbeats 4000000 in
set_option maxRecDepth 100000 in
theorem c_X4_readNumber (E : GE) (l : Launch) (a0 : Nat → Nat) (S0 : Ob) (x1 : Int32) (x2 : Int32) (post : Int32 → Ob → Prop) (h : wp_X4_readNumber S0 x1 x2 post) : Met l yX4_readNumber (wz yX4_readNumber cX4_readNumber 3 (some .boolean)) { frames := 3, cells := 0, slots := 0, locals := 63 } (gPc E [.ref (a0 99), .int x1, .int x2] (gW [bText E a0 S0])) (gQi E (gW [bText E a0 S0]) (fun r (u : Ob) => post r u) (fun (u : Ob) w => w = gW [bText E a0 u])) 0 0 (gIn (gW [bText E a0 S0])) := by
  unfold wp_X4_readNumber at h
  refine g_of_z (by decide) (Nat.le_of_ble_eq_true rfl) ?_
  intro p e s m below meth c A Q hx hb hml hown ht hE hP hD hret ls hl
  have hK := hE.1
  have hS : va_S A s.heap s.heap [] := va_S.rf
  have hl : lv_has ls 3 [(0, .ref (a0 99)), (1, .int x1), (2, .int x2)] := hl
  refine lv_aload_n hx hb dX4_readNumber_0 rfl (lv_at hl 0 rfl) ?_
  have p1 := gB (n := 1) (bs := [bText E a0 S0]) (bc := [bText E a0 S0]) (br := []) [0] rfl rfl (by decide)
  refine g_v (g_runV (As := []) (rest := []) ⟨hx, hb, hml, hown, ht⟩ hE (c_X4_advance E l a0 S0 _ h) ⟨rfl, rfl⟩ wk_X4_36 wi_X4_advance ws_X4_advance wn_X4 wc_X4_advance yd_X4_advance ⟨Nat.le_of_ble_eq_true rfl, Nat.le_of_ble_eq_true rfl⟩ hP hD p1 (ci := 4) rfl rfl rfl rfl rfl hl.1 rfl (lv_room (Nat.le_of_ble_eq_true rfl)) dX4_readNumber_1 ⟨Nat.zero_le _, Nat.zero_le _⟩) hP hD hS p1 (fun S_1 w H locs h hw hP hD hS => ?_)
  subst hw
  clear p1
  have p2 := gB (n := 1) (bs := [bText E a0 S_1]) (bc := [bText E a0 S_1]) (br := []) [0] rfl rfl (by decide)
  have hP := gP_perm p2.symm hP
  have hD := gD_perm p2.symm hD
  clear p2
  refine lv_aload_n hx hb dX4_readNumber_4 rfl (lv_at hl 0 rfl) ?_
  refine va_get (D := (E.1, E.2.1)) (ci := 4) (v := .int (S_1.1 3)) (C := RX4) (T := TX4) (N := 6) hx hb ht wu_X4 hown hK hP 0 rfl rfl 3 (by decide) (ht _ wk_X4_22) (fun _ h9 => h9) rfl dX4_readNumber_5 ?_
  refine lv_iconst (v := 2) hx hb dX4_readNumber_8 (by decide) ?_
  refine lv_icmp_ne (tgt := 32) hx hb dX4_readNumber_9 (by decide) (fun c_2 => ?_) (fun c_2 => ?_)
  · have h := h.1 c_2
    refine lv_iconst (v := 0) hx hb dX4_readNumber_32 (by decide) ?_
    exact hret 0 S_1 _ _ _ _ _ rfl h rfl hP hD hS dX4_readNumber_33
  · have h := h.2 c_2
    refine lv_aload_n hx hb dX4_readNumber_12 rfl (lv_at hl 0 rfl) ?_
    refine va_get (D := (E.1, E.2.1)) (ci := 4) (v := .int (S_1.1 5)) (C := RX4) (T := TX4) (N := 6) hx hb ht wu_X4 hown hK hP 0 rfl rfl 5 (by decide) (ht _ wk_X4_28) (fun _ h9 => h9) rfl dX4_readNumber_13 ?_
    refine lv_iload_n hx hb dX4_readNumber_16 rfl (lv_at hl 1 rfl) ?_
    refine lv_icmp_lt (tgt := 32) hx hb dX4_readNumber_17 (by decide) (fun c_3 => ?_) (fun c_3 => ?_)
    · have h := h.1 c_3
      refine lv_iconst (v := 0) hx hb dX4_readNumber_32 (by decide) ?_
      exact hret 0 S_1 _ _ _ _ _ rfl h rfl hP hD hS dX4_readNumber_33
    · have h := h.2 c_3
      refine lv_aload_n hx hb dX4_readNumber_20 rfl (lv_at hl 0 rfl) ?_
      refine va_get (D := (E.1, E.2.1)) (ci := 4) (v := .int (S_1.1 5)) (C := RX4) (T := TX4) (N := 6) hx hb ht wu_X4 hown hK hP 0 rfl rfl 5 (by decide) (ht _ wk_X4_28) (fun _ h9 => h9) rfl dX4_readNumber_21 ?_
      refine lv_iload_n hx hb dX4_readNumber_24 rfl (lv_at hl 2 rfl) ?_
      refine lv_icmp_gt (tgt := 32) hx hb dX4_readNumber_25 (by decide) (fun c_4 => ?_) (fun c_4 => ?_)
      · have h := h.1 c_4
        refine lv_iconst (v := 0) hx hb dX4_readNumber_32 (by decide) ?_
        exact hret 0 S_1 _ _ _ _ _ rfl h rfl hP hD hS dX4_readNumber_33
      · have h := h.2 c_4
        refine lv_iconst (v := 1) hx hb dX4_readNumber_28 (by decide) ?_
        refine lv_goto (tgt := 33) hx hb dX4_readNumber_29 (by decide) ?_
        exact hret 1 S_1 _ _ _ _ _ rfl h rfl hP hD hS dX4_readNumber_33
theorem dX4_readEnd_0 : decode cX4_readEnd 0 = .ok (.aload_n 0, 1) := by decide +kernel
theorem dX4_readEnd_1 : decode cX4_readEnd 1 = .ok (.invokevirtual 36, 3) := by decide +kernel
theorem dX4_readEnd_4 : decode cX4_readEnd 4 = .ok (.aload_n 0, 1) := by decide +kernel
theorem dX4_readEnd_5 : decode cX4_readEnd 5 = .ok (.getfield 22, 3) := by decide +kernel
theorem dX4_readEnd_8 : decode cX4_readEnd 8 = .ok (.iconst 3, 1) := by decide +kernel
theorem dX4_readEnd_9 : decode cX4_readEnd 9 = .ok (.if_icmp .ne 7, 3) := by decide +kernel
theorem dX4_readEnd_12 : decode cX4_readEnd 12 = .ok (.iconst 1, 1) := by decide +kernel
theorem dX4_readEnd_13 : decode cX4_readEnd 13 = .ok (.goto 4, 3) := by decide +kernel
theorem dX4_readEnd_16 : decode cX4_readEnd 16 = .ok (.iconst 0, 1) := by decide +kernel
theorem dX4_readEnd_17 : decode cX4_readEnd 17 = .ok (.ireturn, 1) := by decide +kernel
set_option maxHeartbeats 4000000 in
set_option maxRecDepth 100000 in
theorem c_X4_readEnd (E : GE) (l : Launch) (a0 : Nat → Nat) (S0 : Ob) (post : Int32 → Ob → Prop) (h : wp_X4_readEnd S0 post) : Met l yX4_readEnd (wz yX4_readEnd cX4_readEnd 1 (some .boolean)) { frames := 3, cells := 0, slots := 0, locals := 63 } (gPc E [.ref (a0 99)] (gW [bText E a0 S0])) (gQi E (gW [bText E a0 S0]) (fun r (u : Ob) => post r u) (fun (u : Ob) w => w = gW [bText E a0 u])) 0 0 (gIn (gW [bText E a0 S0])) := by
  unfold wp_X4_readEnd at h
  refine g_of_z (by decide) (Nat.le_of_ble_eq_true rfl) ?_
  intro p e s m below meth c A Q hx hb hml hown ht hE hP hD hret ls hl
  have hK := hE.1
  have hS : va_S A s.heap s.heap [] := va_S.rf
  have hl : lv_has ls 1 [(0, .ref (a0 99))] := hl
  refine lv_aload_n hx hb dX4_readEnd_0 rfl (lv_at hl 0 rfl) ?_
  have p1 := gB (n := 1) (bs := [bText E a0 S0]) (bc := [bText E a0 S0]) (br := []) [0] rfl rfl (by decide)
  refine g_v (g_runV (As := []) (rest := []) ⟨hx, hb, hml, hown, ht⟩ hE (c_X4_advance E l a0 S0 _ h) ⟨rfl, rfl⟩ wk_X4_36 wi_X4_advance ws_X4_advance wn_X4 wc_X4_advance yd_X4_advance ⟨Nat.le_of_ble_eq_true rfl, Nat.le_of_ble_eq_true rfl⟩ hP hD p1 (ci := 4) rfl rfl rfl rfl rfl hl.1 rfl (lv_room (Nat.le_of_ble_eq_true rfl)) dX4_readEnd_1 ⟨Nat.zero_le _, Nat.zero_le _⟩) hP hD hS p1 (fun S_1 w H locs h hw hP hD hS => ?_)
  subst hw
  clear p1
  have p2 := gB (n := 1) (bs := [bText E a0 S_1]) (bc := [bText E a0 S_1]) (br := []) [0] rfl rfl (by decide)
  have hP := gP_perm p2.symm hP
  have hD := gD_perm p2.symm hD
  clear p2
  refine lv_aload_n hx hb dX4_readEnd_4 rfl (lv_at hl 0 rfl) ?_
  refine va_get (D := (E.1, E.2.1)) (ci := 4) (v := .int (S_1.1 3)) (C := RX4) (T := TX4) (N := 6) hx hb ht wu_X4 hown hK hP 0 rfl rfl 3 (by decide) (ht _ wk_X4_22) (fun _ h9 => h9) rfl dX4_readEnd_5 ?_
  refine lv_iconst (v := 3) hx hb dX4_readEnd_8 (by decide) ?_
  refine lv_icmp_ne (tgt := 16) hx hb dX4_readEnd_9 (by decide) (fun c_2 => ?_) (fun c_2 => ?_)
  · have h := h.1 c_2
    refine lv_iconst (v := 0) hx hb dX4_readEnd_16 (by decide) ?_
    exact hret 0 S_1 _ _ _ _ _ rfl h rfl hP hD hS dX4_readEnd_17
  · have h := h.2 c_2
    refine lv_iconst (v := 1) hx hb dX4_readEnd_12 (by decide) ?_
    refine lv_goto (tgt := 17) hx hb dX4_readEnd_13 (by decide) ?_
    exact hret 1 S_1 _ _ _ _ _ rfl h rfl hP hD hS dX4_readEnd_17
theorem dX4_readPersons_0 : decode cX4_readPersons 0 = .ok (.aload_n 0, 1) := by decide +kernel
theorem dX4_readPersons_1 : decode cX4_readPersons 1 = .ok (.iconst 1, 1) := by decide +kernel
theorem dX4_readPersons_2 : decode cX4_readPersons 2 = .ok (.bipush 6, 2) := by decide +kernel
theorem dX4_readPersons_4 : decode cX4_readPersons 4 = .ok (.invokevirtual 59, 3) := by decide +kernel
theorem dX4_readPersons_7 : decode cX4_readPersons 7 = .ok (.ifCond .ne 5, 3) := by decide +kernel
theorem dX4_readPersons_10 : decode cX4_readPersons 10 = .ok (.iconst 0, 1) := by decide +kernel
theorem dX4_readPersons_11 : decode cX4_readPersons 11 = .ok (.ireturn, 1) := by decide +kernel
theorem dX4_readPersons_12 : decode cX4_readPersons 12 = .ok (.aload_n 1, 1) := by decide +kernel
theorem dX4_readPersons_13 : decode cX4_readPersons 13 = .ok (.aload_n 0, 1) := by decide +kernel
theorem dX4_readPersons_14 : decode cX4_readPersons 14 = .ok (.getfield 28, 3) := by decide +kernel
theorem dX4_readPersons_17 : decode cX4_readPersons 17 = .ok (.putfield 63, 3) := by decide +kernel
theorem dX4_readPersons_20 : decode cX4_readPersons 20 = .ok (.aload_n 0, 1) := by decide +kernel
theorem dX4_readPersons_21 : decode cX4_readPersons 21 = .ok (.invokevirtual 66, 3) := by decide +kernel
theorem dX4_readPersons_24 : decode cX4_readPersons 24 = .ok (.ireturn, 1) := by decide +kernel
set_option maxHeartbeats 4000000 in
set_option maxRecDepth 100000 in
theorem c_X4_readPersons (E : GE) (l : Launch) (a0 : Nat → Nat) (a1 : Nat → Nat) (S0 : Ob) (S1 : Ob) (post : Int32 → Ob → Ob → Prop) (h : wp_X4_readPersons S0 S1 post) : Met l yX4_readPersons (wz yX4_readPersons cX4_readPersons 2 (some .boolean)) { frames := 4, cells := 0, slots := 0, locals := 85 } (gPc E [.ref (a0 99), .ref (a1 99)] (gW [bText E a0 S0, bPlan E a1 S1])) (gQi E (gW [bText E a0 S0, bPlan E a1 S1]) (fun r (u : Ob × Ob) => post r u.1 u.2) (fun (u : Ob × Ob) w => w = gW [bText E a0 u.1, bPlan E a1 u.2])) 0 0 (gIn (gW [bText E a0 S0, bPlan E a1 S1])) := by
  unfold wp_X4_readPersons at h
  refine g_of_z (by decide) (Nat.le_of_ble_eq_true rfl) ?_
  intro p e s m below meth c A Q hx hb hml hown ht hE hP hD hret ls hl
  have hK := hE.1
  have hS : va_S A s.heap s.heap [] := va_S.rf
  have hl : lv_has ls 2 [(0, .ref (a0 99)), (1, .ref (a1 99))] := hl
  refine lv_aload_n hx hb dX4_readPersons_0 rfl (lv_at hl 0 rfl) ?_
  refine lv_iconst (v := 1) hx hb dX4_readPersons_1 (by decide) ?_
  refine lv_bipush (v := 6) hx hb dX4_readPersons_2 (by decide) ?_
  have p1 := gB (n := 2) (bs := [bText E a0 S0, bPlan E a1 S1]) (bc := [bText E a0 S0]) (br := [bPlan E a1 S1]) [0, 1] rfl rfl (by decide)
  refine g_i (g_runV (As := [.int 1, .int 6]) (rest := []) ⟨hx, hb, hml, hown, ht⟩ hE (c_X4_readNumber E l a0 S0 1 6 _ h) ⟨rfl, rfl⟩ wk_X4_59 wi_X4_readNumber ws_X4_readNumber wn_X4 wc_X4_readNumber yd_X4_readNumber ⟨Nat.le_of_ble_eq_true rfl, Nat.le_of_ble_eq_true rfl⟩ hP hD p1 (ci := 4) rfl rfl rfl rfl rfl hl.1 rfl (lv_room (Nat.le_of_ble_eq_true rfl)) dX4_readPersons_4 ⟨Nat.zero_le _, Nat.zero_le _⟩) hP hD hS p1 (fun r_1 S_2 w H locs h hw hP hD hS => ?_)
  subst hw
  clear p1
  have p2 := gB (n := 2) (bs := [bText E a0 S_2, bPlan E a1 S1]) (bc := [bText E a0 S_2]) (br := [bPlan E a1 S1]) [0, 1] rfl rfl (by decide)
  have hP := gP_perm p2.symm hP
  have hD := gD_perm p2.symm hD
  clear p2
  refine lv_if_ne (tgt := 12) hx hb dX4_readPersons_7 (by decide) (fun c_3 => ?_) (fun c_3 => ?_)
  · have h := h.1 c_3
    refine lv_aload_n hx hb dX4_readPersons_12 rfl (lv_at hl 1 rfl) ?_
    refine lv_aload_n hx hb dX4_readPersons_13 rfl (lv_at hl 0 rfl) ?_
    refine va_get (D := (E.1, E.2.1)) (ci := 4) (v := .int (S_2.1 5)) (C := RX4) (T := TX4) (N := 6) hx hb ht wu_X4 hown hK hP 0 rfl rfl 5 (by decide) (ht _ wk_X4_28) (fun _ h9 => h9) rfl dX4_readPersons_14 ?_
    refine va_put (D := (E.1, E.2.1)) (ci := 1) (v := .int (S_2.1 5)) (ty := .int) (C := RX1) (T := TX1) (N := 5) hx hb ht wu_X1 tyX1 tyX1_ok nmX1 hown hK hP hD hS 2 rfl rfl 3 (by decide) (ht _ wk_X4_63) (fun _ h9 => h9) rfl (by decide +kernel) rfl rfl (Nat.le_of_ble_eq_true rfl) dX4_readPersons_17 (fun H locs hP hD hS => ?_)
    have hP : gP E (gW [bText E a0 S_2, bPlan E a1 (pf S1 3 (S_2.1 5))]) H := hP
    have hD : va_D A (gW [bText E a0 S_2, bPlan E a1 (pf S1 3 (S_2.1 5))]) := hD
    refine lv_aload_n hx hb dX4_readPersons_20 rfl (lv_at hl 0 rfl) ?_
    have p1 := gB (n := 2) (bs := [bText E a0 S_2, bPlan E a1 (pf S1 3 (S_2.1 5))]) (bc := [bText E a0 S_2]) (br := [bPlan E a1 (pf S1 3 (S_2.1 5))]) [0, 1] rfl rfl (by decide)
    refine g_i (g_runV (As := []) (rest := []) ⟨hx, hb, hml, hown, ht⟩ hE (c_X4_readEnd E l a0 S_2 _ h) ⟨rfl, rfl⟩ wk_X4_66 wi_X4_readEnd ws_X4_readEnd wn_X4 wc_X4_readEnd yd_X4_readEnd ⟨Nat.le_of_ble_eq_true rfl, Nat.le_of_ble_eq_true rfl⟩ hP hD p1 (ci := 4) rfl rfl rfl rfl rfl hl.1 rfl (lv_room (Nat.le_of_ble_eq_true rfl)) dX4_readPersons_21 ⟨Nat.zero_le _, Nat.zero_le _⟩) hP hD hS p1 (fun r_4 S_5 w H locs h hw hP hD hS => ?_)
    subst hw
    clear p1
    have p2 := gB (n := 2) (bs := [bText E a0 S_5, bPlan E a1 (pf S1 3 (S_2.1 5))]) (bc := [bText E a0 S_5]) (br := [bPlan E a1 (pf S1 3 (S_2.1 5))]) [0, 1] rfl rfl (by decide)
    have hP := gP_perm p2.symm hP
    have hD := gD_perm p2.symm hD
    clear p2
    exact hret r_4 ⟨S_5, (pf S1 3 (S_2.1 5))⟩ _ _ _ _ _ h.1 h.2 rfl hP hD hS dX4_readPersons_24
  · have h := h.2 c_3
    refine lv_iconst (v := 0) hx hb dX4_readPersons_10 (by decide) ?_
    exact hret 0 ⟨S_2, S1⟩ _ _ _ _ _ rfl h rfl hP hD hS dX4_readPersons_11
theorem dX4_readLock_0 : decode cX4_readLock 0 = .ok (.aload_n 0, 1) := by decide +kernel
theorem dX4_readLock_1 : decode cX4_readLock 1 = .ok (.iconst 0, 1) := by decide +kernel
theorem dX4_readLock_2 : decode cX4_readLock 2 = .ok (.sipush 999, 3) := by decide +kernel
theorem dX4_readLock_5 : decode cX4_readLock 5 = .ok (.invokevirtual 59, 3) := by decide +kernel
theorem dX4_readLock_8 : decode cX4_readLock 8 = .ok (.ifCond .ne 5, 3) := by decide +kernel
theorem dX4_readLock_11 : decode cX4_readLock 11 = .ok (.iconst 0, 1) := by decide +kernel
theorem dX4_readLock_12 : decode cX4_readLock 12 = .ok (.ireturn, 1) := by decide +kernel
theorem dX4_readLock_13 : decode cX4_readLock 13 = .ok (.aload_n 1, 1) := by decide +kernel
theorem dX4_readLock_14 : decode cX4_readLock 14 = .ok (.aload_n 0, 1) := by decide +kernel
theorem dX4_readLock_15 : decode cX4_readLock 15 = .ok (.getfield 28, 3) := by decide +kernel
theorem dX4_readLock_18 : decode cX4_readLock 18 = .ok (.invokevirtual 70, 3) := by decide +kernel
theorem dX4_readLock_21 : decode cX4_readLock 21 = .ok (.aload_n 0, 1) := by decide +kernel
theorem dX4_readLock_22 : decode cX4_readLock 22 = .ok (.invokevirtual 66, 3) := by decide +kernel
theorem dX4_readLock_25 : decode cX4_readLock 25 = .ok (.ireturn, 1) := by decide +kernel
set_option maxHeartbeats 4000000 in
set_option maxRecDepth 100000 in
theorem c_X4_readLock (E : GE) (l : Launch) (a0 : Nat → Nat) (a1 : Nat → Nat) (S0 : Ob) (S1 : Ob) (post : Int32 → Ob → Ob → Prop) (h : wp_X4_readLock S0 S1 post) : Met l yX4_readLock (wz yX4_readLock cX4_readLock 2 (some .boolean)) { frames := 4, cells := 0, slots := 0, locals := 85 } (gPc E [.ref (a0 99), .ref (a1 99)] (gW [bText E a0 S0, bPlan E a1 S1])) (gQi E (gW [bText E a0 S0, bPlan E a1 S1]) (fun r (u : Ob × Ob) => post r u.1 u.2) (fun (u : Ob × Ob) w => w = gW [bText E a0 u.1, bPlan E a1 u.2])) 0 0 (gIn (gW [bText E a0 S0, bPlan E a1 S1])) := by
  unfold wp_X4_readLock at h
  refine g_of_z (by decide) (Nat.le_of_ble_eq_true rfl) ?_
  intro p e s m below meth c A Q hx hb hml hown ht hE hP hD hret ls hl
  have hK := hE.1
  have hS : va_S A s.heap s.heap [] := va_S.rf
  have hl : lv_has ls 2 [(0, .ref (a0 99)), (1, .ref (a1 99))] := hl
  refine lv_aload_n hx hb dX4_readLock_0 rfl (lv_at hl 0 rfl) ?_
  refine lv_iconst (v := 0) hx hb dX4_readLock_1 (by decide) ?_
  refine lv_sipush (v := 999) hx hb dX4_readLock_2 (by decide) ?_
  have p1 := gB (n := 2) (bs := [bText E a0 S0, bPlan E a1 S1]) (bc := [bText E a0 S0]) (br := [bPlan E a1 S1]) [0, 1] rfl rfl (by decide)
  refine g_i (g_runV (As := [.int 0, .int 999]) (rest := []) ⟨hx, hb, hml, hown, ht⟩ hE (c_X4_readNumber E l a0 S0 0 999 _ h) ⟨rfl, rfl⟩ wk_X4_59 wi_X4_readNumber ws_X4_readNumber wn_X4 wc_X4_readNumber yd_X4_readNumber ⟨Nat.le_of_ble_eq_true rfl, Nat.le_of_ble_eq_true rfl⟩ hP hD p1 (ci := 4) rfl rfl rfl rfl rfl hl.1 rfl (lv_room (Nat.le_of_ble_eq_true rfl)) dX4_readLock_5 ⟨Nat.zero_le _, Nat.zero_le _⟩) hP hD hS p1 (fun r_1 S_2 w H locs h hw hP hD hS => ?_)
  subst hw
  clear p1
  have p2 := gB (n := 2) (bs := [bText E a0 S_2, bPlan E a1 S1]) (bc := [bText E a0 S_2]) (br := [bPlan E a1 S1]) [0, 1] rfl rfl (by decide)
  have hP := gP_perm p2.symm hP
  have hD := gD_perm p2.symm hD
  clear p2
  refine lv_if_ne (tgt := 13) hx hb dX4_readLock_8 (by decide) (fun c_3 => ?_) (fun c_3 => ?_)
  · have h := h.1 c_3
    refine lv_aload_n hx hb dX4_readLock_13 rfl (lv_at hl 1 rfl) ?_
    refine lv_aload_n hx hb dX4_readLock_14 rfl (lv_at hl 0 rfl) ?_
    refine va_get (D := (E.1, E.2.1)) (ci := 4) (v := .int (S_2.1 5)) (C := RX4) (T := TX4) (N := 6) hx hb ht wu_X4 hown hK hP 0 rfl rfl 5 (by decide) (ht _ wk_X4_28) (fun _ h9 => h9) rfl dX4_readLock_15 ?_
    have p1 := gB (n := 2) (bs := [bText E a0 S_2, bPlan E a1 S1]) (bc := [bPlan E a1 S1]) (br := [bText E a0 S_2]) [1, 0] rfl rfl (by decide)
    refine g_v (g_runV (As := [.int (S_2.1 5)]) (rest := []) ⟨hx, hb, hml, hown, ht⟩ hE (c_X1_addLock E l a1 S1 (S_2.1 5) _ h) ⟨rfl, rfl⟩ wk_X4_70 wi_X1_addLock ws_X1_addLock wn_X1 wc_X1_addLock yd_X1_addLock ⟨Nat.le_of_ble_eq_true rfl, Nat.le_of_ble_eq_true rfl⟩ hP hD p1 (ci := 1) rfl rfl rfl rfl rfl hl.1 rfl (lv_room (Nat.le_of_ble_eq_true rfl)) dX4_readLock_18 ⟨Nat.zero_le _, Nat.zero_le _⟩) hP hD hS p1 (fun S_4 w H locs h hw hP hD hS => ?_)
    subst hw
    clear p1
    have p2 := gB (n := 2) (bs := [bText E a0 S_2, bPlan E a1 S_4]) (bc := [bPlan E a1 S_4]) (br := [bText E a0 S_2]) [1, 0] rfl rfl (by decide)
    have hP := gP_perm p2.symm hP
    have hD := gD_perm p2.symm hD
    clear p2
    refine lv_aload_n hx hb dX4_readLock_21 rfl (lv_at hl 0 rfl) ?_
    have p1 := gB (n := 2) (bs := [bText E a0 S_2, bPlan E a1 S_4]) (bc := [bText E a0 S_2]) (br := [bPlan E a1 S_4]) [0, 1] rfl rfl (by decide)
    refine g_i (g_runV (As := []) (rest := []) ⟨hx, hb, hml, hown, ht⟩ hE (c_X4_readEnd E l a0 S_2 _ h) ⟨rfl, rfl⟩ wk_X4_66 wi_X4_readEnd ws_X4_readEnd wn_X4 wc_X4_readEnd yd_X4_readEnd ⟨Nat.le_of_ble_eq_true rfl, Nat.le_of_ble_eq_true rfl⟩ hP hD p1 (ci := 4) rfl rfl rfl rfl rfl hl.1 rfl (lv_room (Nat.le_of_ble_eq_true rfl)) dX4_readLock_22 ⟨Nat.zero_le _, Nat.zero_le _⟩) hP hD hS p1 (fun r_5 S_6 w H locs h hw hP hD hS => ?_)
    subst hw
    clear p1
    have p2 := gB (n := 2) (bs := [bText E a0 S_6, bPlan E a1 S_4]) (bc := [bText E a0 S_6]) (br := [bPlan E a1 S_4]) [0, 1] rfl rfl (by decide)
    have hP := gP_perm p2.symm hP
    have hD := gD_perm p2.symm hD
    clear p2
    exact hret r_5 ⟨S_6, S_4⟩ _ _ _ _ _ h.1 h.2 rfl hP hD hS dX4_readLock_25
  · have h := h.2 c_3
    refine lv_iconst (v := 0) hx hb dX4_readLock_11 (by decide) ?_
    exact hret 0 ⟨S_2, S1⟩ _ _ _ _ _ rfl h rfl hP hD hS dX4_readLock_12
theorem dX4_readKnows_0 : decode cX4_readKnows 0 = .ok (.aload_n 0, 1) := by decide +kernel
theorem dX4_readKnows_1 : decode cX4_readKnows 1 = .ok (.iconst 0, 1) := by decide +kernel
theorem dX4_readKnows_2 : decode cX4_readKnows 2 = .ok (.aload_n 1, 1) := by decide +kernel
theorem dX4_readKnows_3 : decode cX4_readKnows 3 = .ok (.getfield 63, 3) := by decide +kernel
theorem dX4_readKnows_6 : decode cX4_readKnows 6 = .ok (.iconst 1, 1) := by decide +kernel
theorem dX4_readKnows_7 : decode cX4_readKnows 7 = .ok (.isub, 1) := by decide +kernel
theorem dX4_readKnows_8 : decode cX4_readKnows 8 = .ok (.invokevirtual 59, 3) := by decide +kernel
theorem dX4_readKnows_11 : decode cX4_readKnows 11 = .ok (.ifCond .ne 5, 3) := by decide +kernel
theorem dX4_readKnows_14 : decode cX4_readKnows 14 = .ok (.iconst 0, 1) := by decide +kernel
theorem dX4_readKnows_15 : decode cX4_readKnows 15 = .ok (.ireturn, 1) := by decide +kernel
theorem dX4_readKnows_16 : decode cX4_readKnows 16 = .ok (.aload_n 0, 1) := by decide +kernel
theorem dX4_readKnows_17 : decode cX4_readKnows 17 = .ok (.getfield 28, 3) := by decide +kernel
theorem dX4_readKnows_20 : decode cX4_readKnows 20 = .ok (.istore_n 2, 1) := by decide +kernel
theorem dX4_readKnows_21 : decode cX4_readKnows 21 = .ok (.aload_n 0, 1) := by decide +kernel
theorem dX4_readKnows_22 : decode cX4_readKnows 22 = .ok (.iconst 0, 1) := by decide +kernel
theorem dX4_readKnows_23 : decode cX4_readKnows 23 = .ok (.aload_n 1, 1) := by decide +kernel
theorem dX4_readKnows_24 : decode cX4_readKnows 24 = .ok (.getfield 47, 3) := by decide +kernel
theorem dX4_readKnows_27 : decode cX4_readKnows 27 = .ok (.iconst 1, 1) := by decide +kernel
theorem dX4_readKnows_28 : decode cX4_readKnows 28 = .ok (.isub, 1) := by decide +kernel
theorem dX4_readKnows_29 : decode cX4_readKnows 29 = .ok (.invokevirtual 59, 3) := by decide +kernel
theorem dX4_readKnows_32 : decode cX4_readKnows 32 = .ok (.ifCond .ne 5, 3) := by decide +kernel
theorem dX4_readKnows_35 : decode cX4_readKnows 35 = .ok (.iconst 0, 1) := by decide +kernel
theorem dX4_readKnows_36 : decode cX4_readKnows 36 = .ok (.ireturn, 1) := by decide +kernel
theorem dX4_readKnows_37 : decode cX4_readKnows 37 = .ok (.aload_n 1, 1) := by decide +kernel
theorem dX4_readKnows_38 : decode cX4_readKnows 38 = .ok (.getfield 74, 3) := by decide +kernel
theorem dX4_readKnows_41 : decode cX4_readKnows 41 = .ok (.aload_n 0, 1) := by decide +kernel
theorem dX4_readKnows_42 : decode cX4_readKnows 42 = .ok (.getfield 28, 3) := by decide +kernel
theorem dX4_readKnows_45 : decode cX4_readKnows 45 = .ok (.dup2, 1) := by decide +kernel
theorem dX4_readKnows_46 : decode cX4_readKnows 46 = .ok (.iaload, 1) := by decide +kernel
theorem dX4_readKnows_47 : decode cX4_readKnows 47 = .ok (.iconst 1, 1) := by decide +kernel
theorem dX4_readKnows_48 : decode cX4_readKnows 48 = .ok (.iload_n 2, 1) := by decide +kernel
theorem dX4_readKnows_49 : decode cX4_readKnows 49 = .ok (.ishl, 1) := by decide +kernel
theorem dX4_readKnows_50 : decode cX4_readKnows 50 = .ok (.ior, 1) := by decide +kernel
theorem dX4_readKnows_51 : decode cX4_readKnows 51 = .ok (.iastore, 1) := by decide +kernel
theorem dX4_readKnows_52 : decode cX4_readKnows 52 = .ok (.aload_n 0, 1) := by decide +kernel
theorem dX4_readKnows_53 : decode cX4_readKnows 53 = .ok (.invokevirtual 66, 3) := by decide +kernel
theorem dX4_readKnows_56 : decode cX4_readKnows 56 = .ok (.ireturn, 1) := by decide +kernel
set_option maxHeartbeats 4000000 in
set_option maxRecDepth 100000 in
theorem c_X4_readKnows (E : GE) (l : Launch) (a0 : Nat → Nat) (a1 : Nat → Nat) (S0 : Ob) (S1 : Ob) (post : Int32 → Ob → Ob → Prop) (h : wp_X4_readKnows S0 S1 post) : Met l yX4_readKnows (wz yX4_readKnows cX4_readKnows 3 (some .boolean)) { frames := 4, cells := 0, slots := 0, locals := 85 } (gPc E [.ref (a0 99), .ref (a1 99)] (gW [bText E a0 S0, bPlan E a1 S1])) (gQi E (gW [bText E a0 S0, bPlan E a1 S1]) (fun r (u : Ob × Ob) => post r u.1 u.2) (fun (u : Ob × Ob) w => w = gW [bText E a0 u.1, bPlan E a1 u.2])) 0 0 (gIn (gW [bText E a0 S0, bPlan E a1 S1])) := by
  unfold wp_X4_readKnows at h
  refine g_of_z (by decide) (Nat.le_of_ble_eq_true rfl) ?_
  intro p e s m below meth c A Q hx hb hml hown ht hE hP hD hret ls hl
  have hK := hE.1
  have hS : va_S A s.heap s.heap [] := va_S.rf
  have hl : lv_has ls 3 [(0, .ref (a0 99)), (1, .ref (a1 99))] := hl
  refine lv_aload_n hx hb dX4_readKnows_0 rfl (lv_at hl 0 rfl) ?_
  refine lv_iconst (v := 0) hx hb dX4_readKnows_1 (by decide) ?_
  refine lv_aload_n hx hb dX4_readKnows_2 rfl (lv_at hl 1 rfl) ?_
  refine va_get (D := (E.1, E.2.1)) (ci := 1) (v := .int (S1.1 3)) (C := RX1) (T := TX1) (N := 5) hx hb ht wu_X1 hown hK hP 2 rfl rfl 3 (by decide) (ht _ wk_X4_63) (fun _ h9 => h9) rfl dX4_readKnows_3 ?_
  refine lv_iconst (v := 1) hx hb dX4_readKnows_6 (by decide) ?_
  refine lv_isub hx hb dX4_readKnows_7 ?_
  have p1 := gB (n := 2) (bs := [bText E a0 S0, bPlan E a1 S1]) (bc := [bText E a0 S0]) (br := [bPlan E a1 S1]) [0, 1] rfl rfl (by decide)
  refine g_i (g_runV (As := [.int 0, .int ((S1.1 3) - 1)]) (rest := []) ⟨hx, hb, hml, hown, ht⟩ hE (c_X4_readNumber E l a0 S0 0 ((S1.1 3) - 1) _ h) ⟨rfl, rfl⟩ wk_X4_59 wi_X4_readNumber ws_X4_readNumber wn_X4 wc_X4_readNumber yd_X4_readNumber ⟨Nat.le_of_ble_eq_true rfl, Nat.le_of_ble_eq_true rfl⟩ hP hD p1 (ci := 4) rfl rfl rfl rfl rfl hl.1 rfl (lv_room (Nat.le_of_ble_eq_true rfl)) dX4_readKnows_8 ⟨Nat.zero_le _, Nat.zero_le _⟩) hP hD hS p1 (fun r_1 S_2 w H locs h hw hP hD hS => ?_)
  subst hw
  clear p1
  have p2 := gB (n := 2) (bs := [bText E a0 S_2, bPlan E a1 S1]) (bc := [bText E a0 S_2]) (br := [bPlan E a1 S1]) [0, 1] rfl rfl (by decide)
  have hP := gP_perm p2.symm hP
  have hD := gD_perm p2.symm hD
  clear p2
  refine lv_if_ne (tgt := 16) hx hb dX4_readKnows_11 (by decide) (fun c_3 => ?_) (fun c_3 => ?_)
  · have h := h.1 c_3
    refine lv_aload_n hx hb dX4_readKnows_16 rfl (lv_at hl 0 rfl) ?_
    refine va_get (D := (E.1, E.2.1)) (ci := 4) (v := .int (S_2.1 5)) (C := RX4) (T := TX4) (N := 6) hx hb ht wu_X4 hown hK hP 0 rfl rfl 5 (by decide) (ht _ wk_X4_28) (fun _ h9 => h9) rfl dX4_readKnows_17 ?_
    refine lv_istore_n (lv' := [(2, .int (S_2.1 5)), (0, .ref (a0 99)), (1, .ref (a1 99))]) hx hb dX4_readKnows_20 rfl hl (by decide) rfl (fun ls hl => ?_)
    refine lv_aload_n hx hb dX4_readKnows_21 rfl (lv_at hl 1 rfl) ?_
    refine lv_iconst (v := 0) hx hb dX4_readKnows_22 (by decide) ?_
    refine lv_aload_n hx hb dX4_readKnows_23 rfl (lv_at hl 2 rfl) ?_
    refine va_get (D := (E.1, E.2.1)) (ci := 1) (v := .int (S1.1 4)) (C := RX1) (T := TX1) (N := 5) hx hb ht wu_X1 hown hK hP 2 rfl rfl 4 (by decide) (ht _ wk_X4_47) (fun _ h9 => h9) rfl dX4_readKnows_24 ?_
    refine lv_iconst (v := 1) hx hb dX4_readKnows_27 (by decide) ?_
    refine lv_isub hx hb dX4_readKnows_28 ?_
    have p1 := gB (n := 2) (bs := [bText E a0 S_2, bPlan E a1 S1]) (bc := [bText E a0 S_2]) (br := [bPlan E a1 S1]) [0, 1] rfl rfl (by decide)
    refine g_i (g_runV (As := [.int 0, .int ((S1.1 4) - 1)]) (rest := []) ⟨hx, hb, hml, hown, ht⟩ hE (c_X4_readNumber E l a0 S_2 0 ((S1.1 4) - 1) _ h) ⟨rfl, rfl⟩ wk_X4_59 wi_X4_readNumber ws_X4_readNumber wn_X4 wc_X4_readNumber yd_X4_readNumber ⟨Nat.le_of_ble_eq_true rfl, Nat.le_of_ble_eq_true rfl⟩ hP hD p1 (ci := 4) rfl rfl rfl rfl rfl hl.1 rfl (lv_room (Nat.le_of_ble_eq_true rfl)) dX4_readKnows_29 ⟨Nat.zero_le _, Nat.zero_le _⟩) hP hD hS p1 (fun r_4 S_5 w H locs h hw hP hD hS => ?_)
    subst hw
    clear p1
    have p2 := gB (n := 2) (bs := [bText E a0 S_5, bPlan E a1 S1]) (bc := [bText E a0 S_5]) (br := [bPlan E a1 S1]) [0, 1] rfl rfl (by decide)
    have hP := gP_perm p2.symm hP
    have hD := gD_perm p2.symm hD
    clear p2
    refine lv_if_ne (tgt := 37) hx hb dX4_readKnows_32 (by decide) (fun c_6 => ?_) (fun c_6 => ?_)
    · have h := h.1 c_6
      refine lv_aload_n hx hb dX4_readKnows_37 rfl (lv_at hl 2 rfl) ?_
      refine va_get (D := (E.1, E.2.1)) (ci := 1) (v := .ref (a1 1)) (C := RX1) (T := TX1) (N := 5) hx hb ht wu_X1 hown hK hP 2 rfl rfl 1 (by decide) (ht _ wk_X4_74) (fun _ h9 => h9) rfl dX4_readKnows_38 ?_
      refine lv_aload_n hx hb dX4_readKnows_41 rfl (lv_at hl 1 rfl) ?_
      refine va_get (D := (E.1, E.2.1)) (ci := 4) (v := .int (S_5.1 5)) (C := RX4) (T := TX4) (N := 6) hx hb ht wu_X4 hown hK hP 0 rfl rfl 5 (by decide) (ht _ wk_X4_28) (fun _ h9 => h9) rfl dX4_readKnows_42 ?_
      refine lv_dup2_11 hx hb dX4_readKnows_45 rfl rfl ?_
      refine va_iald hx hb hK hP 4 0 rfl rfl h.1 dX4_readKnows_46 ?_
      have h := h.2
      refine lv_iconst (v := 1) hx hb dX4_readKnows_47 (by decide) ?_
      refine lv_iload_n hx hb dX4_readKnows_48 rfl (lv_at hl 0 rfl) ?_
      refine lv_ishl hx hb dX4_readKnows_49 ?_
      refine lv_ior hx hb dX4_readKnows_50 ?_
      refine va_iast hx hb hK hP hD hS 4 0 rfl rfl h.1 dX4_readKnows_51 (fun H locs hP hD hS => ?_)
      have h := h.2
      have hP : gP E (gW [bText E a0 S_5, bPlan E a1 (pa S1 1 ((S_5.1 5).toNatClampNeg) ((S1.2 1 (S_5.1 5).toNatClampNeg) ||| ((1 : Int32) <<< ((S_2.1 5) &&& 31))))]) H := hP
      have hD : va_D A (gW [bText E a0 S_5, bPlan E a1 (pa S1 1 ((S_5.1 5).toNatClampNeg) ((S1.2 1 (S_5.1 5).toNatClampNeg) ||| ((1 : Int32) <<< ((S_2.1 5) &&& 31))))]) := hD
      obtain ⟨S_7, eS_7⟩ : ∃ z : Ob, z = (pa S1 1 ((S_5.1 5).toNatClampNeg) ((S1.2 1 (S_5.1 5).toNatClampNeg) ||| ((1 : Int32) <<< ((S_2.1 5) &&& 31)))) := ⟨_, rfl⟩
      have h := h S_7 eS_7
      rw [← eS_7] at hP hD
      refine lv_aload_n hx hb dX4_readKnows_52 rfl (lv_at hl 1 rfl) ?_
      have p1 := gB (n := 2) (bs := [bText E a0 S_5, bPlan E a1 S_7]) (bc := [bText E a0 S_5]) (br := [bPlan E a1 S_7]) [0, 1] rfl rfl (by decide)
      refine g_i (g_runV (As := []) (rest := []) ⟨hx, hb, hml, hown, ht⟩ hE (c_X4_readEnd E l a0 S_5 _ h) ⟨rfl, rfl⟩ wk_X4_66 wi_X4_readEnd ws_X4_readEnd wn_X4 wc_X4_readEnd yd_X4_readEnd ⟨Nat.le_of_ble_eq_true rfl, Nat.le_of_ble_eq_true rfl⟩ hP hD p1 (ci := 4) rfl rfl rfl rfl rfl hl.1 rfl (lv_room (Nat.le_of_ble_eq_true rfl)) dX4_readKnows_53 ⟨Nat.zero_le _, Nat.zero_le _⟩) hP hD hS p1 (fun r_8 S_9 w H locs h hw hP hD hS => ?_)
      subst hw
      clear p1
      have p2 := gB (n := 2) (bs := [bText E a0 S_9, bPlan E a1 S_7]) (bc := [bText E a0 S_9]) (br := [bPlan E a1 S_7]) [0, 1] rfl rfl (by decide)
      have hP := gP_perm p2.symm hP
      have hD := gD_perm p2.symm hD
      clear p2
      exact hret r_8 ⟨S_9, S_7⟩ _ _ _ _ _ h.1 h.2 rfl hP hD hS dX4_readKnows_56
    · have h := h.2 c_6
      refine lv_iconst (v := 0) hx hb dX4_readKnows_35 (by decide) ?_
      exact hret 0 ⟨S_5, S1⟩ _ _ _ _ _ rfl h rfl hP hD hS dX4_readKnows_36
  · have h := h.2 c_3
    refine lv_iconst (v := 0) hx hb dX4_readKnows_14 (by decide) ?_
    exact hret 0 ⟨S_2, S1⟩ _ _ _ _ _ rfl h rfl hP hD hS dX4_readKnows_15
theorem dX4_readFriends_0 : decode cX4_readFriends 0 = .ok (.aload_n 0, 1) := by decide +kernel
theorem dX4_readFriends_1 : decode cX4_readFriends 1 = .ok (.iconst 0, 1) := by decide +kernel
theorem dX4_readFriends_2 : decode cX4_readFriends 2 = .ok (.aload_n 1, 1) := by decide +kernel
theorem dX4_readFriends_3 : decode cX4_readFriends 3 = .ok (.getfield 63, 3) := by decide +kernel
theorem dX4_readFriends_6 : decode cX4_readFriends 6 = .ok (.iconst 1, 1) := by decide +kernel
theorem dX4_readFriends_7 : decode cX4_readFriends 7 = .ok (.isub, 1) := by decide +kernel
theorem dX4_readFriends_8 : decode cX4_readFriends 8 = .ok (.invokevirtual 59, 3) := by decide +kernel
theorem dX4_readFriends_11 : decode cX4_readFriends 11 = .ok (.ifCond .ne 5, 3) := by decide +kernel
theorem dX4_readFriends_14 : decode cX4_readFriends 14 = .ok (.iconst 0, 1) := by decide +kernel
theorem dX4_readFriends_15 : decode cX4_readFriends 15 = .ok (.ireturn, 1) := by decide +kernel
theorem dX4_readFriends_16 : decode cX4_readFriends 16 = .ok (.aload_n 0, 1) := by decide +kernel
theorem dX4_readFriends_17 : decode cX4_readFriends 17 = .ok (.getfield 28, 3) := by decide +kernel
theorem dX4_readFriends_20 : decode cX4_readFriends 20 = .ok (.istore_n 2, 1) := by decide +kernel
theorem dX4_readFriends_21 : decode cX4_readFriends 21 = .ok (.aload_n 0, 1) := by decide +kernel
theorem dX4_readFriends_22 : decode cX4_readFriends 22 = .ok (.iconst 0, 1) := by decide +kernel
theorem dX4_readFriends_23 : decode cX4_readFriends 23 = .ok (.aload_n 1, 1) := by decide +kernel
theorem dX4_readFriends_24 : decode cX4_readFriends 24 = .ok (.getfield 63, 3) := by decide +kernel
theorem dX4_readFriends_27 : decode cX4_readFriends 27 = .ok (.iconst 1, 1) := by decide +kernel
theorem dX4_readFriends_28 : decode cX4_readFriends 28 = .ok (.isub, 1) := by decide +kernel
theorem dX4_readFriends_29 : decode cX4_readFriends 29 = .ok (.invokevirtual 59, 3) := by decide +kernel
theorem dX4_readFriends_32 : decode cX4_readFriends 32 = .ok (.ifCond .eq 11, 3) := by decide +kernel
theorem dX4_readFriends_35 : decode cX4_readFriends 35 = .ok (.aload_n 0, 1) := by decide +kernel
theorem dX4_readFriends_36 : decode cX4_readFriends 36 = .ok (.getfield 28, 3) := by decide +kernel
theorem dX4_readFriends_39 : decode cX4_readFriends 39 = .ok (.iload_n 2, 1) := by decide +kernel
theorem dX4_readFriends_40 : decode cX4_readFriends 40 = .ok (.if_icmp .ne 5, 3) := by decide +kernel
theorem dX4_readFriends_43 : decode cX4_readFriends 43 = .ok (.iconst 0, 1) := by decide +kernel
theorem dX4_readFriends_44 : decode cX4_readFriends 44 = .ok (.ireturn, 1) := by decide +kernel
theorem dX4_readFriends_45 : decode cX4_readFriends 45 = .ok (.aload_n 1, 1) := by decide +kernel
theorem dX4_readFriends_46 : decode cX4_readFriends 46 = .ok (.iload_n 2, 1) := by decide +kernel
theorem dX4_readFriends_47 : decode cX4_readFriends 47 = .ok (.aload_n 0, 1) := by decide +kernel
theorem dX4_readFriends_48 : decode cX4_readFriends 48 = .ok (.getfield 28, 3) := by decide +kernel
theorem dX4_readFriends_51 : decode cX4_readFriends 51 = .ok (.invokevirtual 77, 3) := by decide +kernel
theorem dX4_readFriends_54 : decode cX4_readFriends 54 = .ok (.aload_n 0, 1) := by decide +kernel
theorem dX4_readFriends_55 : decode cX4_readFriends 55 = .ok (.invokevirtual 66, 3) := by decide +kernel
theorem dX4_readFriends_58 : decode cX4_readFriends 58 = .ok (.ireturn, 1) := by decide +kernel
set_option maxHeartbeats 4000000 in
set_option maxRecDepth 100000 in
theorem c_X4_readFriends (E : GE) (l : Launch) (a0 : Nat → Nat) (a1 : Nat → Nat) (S0 : Ob) (S1 : Ob) (post : Int32 → Ob → Ob → Prop) (h : wp_X4_readFriends S0 S1 post) : Met l yX4_readFriends (wz yX4_readFriends cX4_readFriends 3 (some .boolean)) { frames := 4, cells := 0, slots := 0, locals := 85 } (gPc E [.ref (a0 99), .ref (a1 99)] (gW [bText E a0 S0, bPlan E a1 S1])) (gQi E (gW [bText E a0 S0, bPlan E a1 S1]) (fun r (u : Ob × Ob) => post r u.1 u.2) (fun (u : Ob × Ob) w => w = gW [bText E a0 u.1, bPlan E a1 u.2])) 0 0 (gIn (gW [bText E a0 S0, bPlan E a1 S1])) := by
  unfold wp_X4_readFriends at h
  refine g_of_z (by decide) (Nat.le_of_ble_eq_true rfl) ?_
  intro p e s m below meth c A Q hx hb hml hown ht hE hP hD hret ls hl
  have hK := hE.1
  have hS : va_S A s.heap s.heap [] := va_S.rf
  have hl : lv_has ls 3 [(0, .ref (a0 99)), (1, .ref (a1 99))] := hl
  refine lv_aload_n hx hb dX4_readFriends_0 rfl (lv_at hl 0 rfl) ?_
  refine lv_iconst (v := 0) hx hb dX4_readFriends_1 (by decide) ?_
  refine lv_aload_n hx hb dX4_readFriends_2 rfl (lv_at hl 1 rfl) ?_
  refine va_get (D := (E.1, E.2.1)) (ci := 1) (v := .int (S1.1 3)) (C := RX1) (T := TX1) (N := 5) hx hb ht wu_X1 hown hK hP 2 rfl rfl 3 (by decide) (ht _ wk_X4_63) (fun _ h9 => h9) rfl dX4_readFriends_3 ?_
  refine lv_iconst (v := 1) hx hb dX4_readFriends_6 (by decide) ?_
  refine lv_isub hx hb dX4_readFriends_7 ?_
  have p1 := gB (n := 2) (bs := [bText E a0 S0, bPlan E a1 S1]) (bc := [bText E a0 S0]) (br := [bPlan E a1 S1]) [0, 1] rfl rfl (by decide)
  refine g_i (g_runV (As := [.int 0, .int ((S1.1 3) - 1)]) (rest := []) ⟨hx, hb, hml, hown, ht⟩ hE (c_X4_readNumber E l a0 S0 0 ((S1.1 3) - 1) _ h) ⟨rfl, rfl⟩ wk_X4_59 wi_X4_readNumber ws_X4_readNumber wn_X4 wc_X4_readNumber yd_X4_readNumber ⟨Nat.le_of_ble_eq_true rfl, Nat.le_of_ble_eq_true rfl⟩ hP hD p1 (ci := 4) rfl rfl rfl rfl rfl hl.1 rfl (lv_room (Nat.le_of_ble_eq_true rfl)) dX4_readFriends_8 ⟨Nat.zero_le _, Nat.zero_le _⟩) hP hD hS p1 (fun r_1 S_2 w H locs h hw hP hD hS => ?_)
  subst hw
  clear p1
  have p2 := gB (n := 2) (bs := [bText E a0 S_2, bPlan E a1 S1]) (bc := [bText E a0 S_2]) (br := [bPlan E a1 S1]) [0, 1] rfl rfl (by decide)
  have hP := gP_perm p2.symm hP
  have hD := gD_perm p2.symm hD
  clear p2
  refine lv_if_ne (tgt := 16) hx hb dX4_readFriends_11 (by decide) (fun c_3 => ?_) (fun c_3 => ?_)
  · have h := h.1 c_3
    refine lv_aload_n hx hb dX4_readFriends_16 rfl (lv_at hl 0 rfl) ?_
    refine va_get (D := (E.1, E.2.1)) (ci := 4) (v := .int (S_2.1 5)) (C := RX4) (T := TX4) (N := 6) hx hb ht wu_X4 hown hK hP 0 rfl rfl 5 (by decide) (ht _ wk_X4_28) (fun _ h9 => h9) rfl dX4_readFriends_17 ?_
    refine lv_istore_n (lv' := [(2, .int (S_2.1 5)), (0, .ref (a0 99)), (1, .ref (a1 99))]) hx hb dX4_readFriends_20 rfl hl (by decide) rfl (fun ls hl => ?_)
    refine lv_aload_n hx hb dX4_readFriends_21 rfl (lv_at hl 1 rfl) ?_
    refine lv_iconst (v := 0) hx hb dX4_readFriends_22 (by decide) ?_
    refine lv_aload_n hx hb dX4_readFriends_23 rfl (lv_at hl 2 rfl) ?_
    refine va_get (D := (E.1, E.2.1)) (ci := 1) (v := .int (S1.1 3)) (C := RX1) (T := TX1) (N := 5) hx hb ht wu_X1 hown hK hP 2 rfl rfl 3 (by decide) (ht _ wk_X4_63) (fun _ h9 => h9) rfl dX4_readFriends_24 ?_
    refine lv_iconst (v := 1) hx hb dX4_readFriends_27 (by decide) ?_
    refine lv_isub hx hb dX4_readFriends_28 ?_
    have p1 := gB (n := 2) (bs := [bText E a0 S_2, bPlan E a1 S1]) (bc := [bText E a0 S_2]) (br := [bPlan E a1 S1]) [0, 1] rfl rfl (by decide)
    refine g_i (g_runV (As := [.int 0, .int ((S1.1 3) - 1)]) (rest := []) ⟨hx, hb, hml, hown, ht⟩ hE (c_X4_readNumber E l a0 S_2 0 ((S1.1 3) - 1) _ h) ⟨rfl, rfl⟩ wk_X4_59 wi_X4_readNumber ws_X4_readNumber wn_X4 wc_X4_readNumber yd_X4_readNumber ⟨Nat.le_of_ble_eq_true rfl, Nat.le_of_ble_eq_true rfl⟩ hP hD p1 (ci := 4) rfl rfl rfl rfl rfl hl.1 rfl (lv_room (Nat.le_of_ble_eq_true rfl)) dX4_readFriends_29 ⟨Nat.zero_le _, Nat.zero_le _⟩) hP hD hS p1 (fun r_4 S_5 w H locs h hw hP hD hS => ?_)
    subst hw
    clear p1
    have p2 := gB (n := 2) (bs := [bText E a0 S_5, bPlan E a1 S1]) (bc := [bText E a0 S_5]) (br := [bPlan E a1 S1]) [0, 1] rfl rfl (by decide)
    have hP := gP_perm p2.symm hP
    have hD := gD_perm p2.symm hD
    clear p2
    refine lv_if_eq (tgt := 43) hx hb dX4_readFriends_32 (by decide) (fun c_6 => ?_) (fun c_6 => ?_)
    · have h := h.1 c_6
      refine lv_iconst (v := 0) hx hb dX4_readFriends_43 (by decide) ?_
      exact hret 0 ⟨S_5, S1⟩ _ _ _ _ _ rfl h rfl hP hD hS dX4_readFriends_44
    · have h := h.2 c_6
      refine lv_aload_n hx hb dX4_readFriends_35 rfl (lv_at hl 1 rfl) ?_
      refine va_get (D := (E.1, E.2.1)) (ci := 4) (v := .int (S_5.1 5)) (C := RX4) (T := TX4) (N := 6) hx hb ht wu_X4 hown hK hP 0 rfl rfl 5 (by decide) (ht _ wk_X4_28) (fun _ h9 => h9) rfl dX4_readFriends_36 ?_
      refine lv_iload_n hx hb dX4_readFriends_39 rfl (lv_at hl 0 rfl) ?_
      refine lv_icmp_ne (tgt := 45) hx hb dX4_readFriends_40 (by decide) (fun c_7 => ?_) (fun c_7 => ?_)
      · have h := h.1 c_7
        refine lv_aload_n hx hb dX4_readFriends_45 rfl (lv_at hl 2 rfl) ?_
        refine lv_iload_n hx hb dX4_readFriends_46 rfl (lv_at hl 0 rfl) ?_
        refine lv_aload_n hx hb dX4_readFriends_47 rfl (lv_at hl 1 rfl) ?_
        refine va_get (D := (E.1, E.2.1)) (ci := 4) (v := .int (S_5.1 5)) (C := RX4) (T := TX4) (N := 6) hx hb ht wu_X4 hown hK hP 0 rfl rfl 5 (by decide) (ht _ wk_X4_28) (fun _ h9 => h9) rfl dX4_readFriends_48 ?_
        have p1 := gB (n := 2) (bs := [bText E a0 S_5, bPlan E a1 S1]) (bc := [bPlan E a1 S1]) (br := [bText E a0 S_5]) [1, 0] rfl rfl (by decide)
        refine g_v (g_runV (As := [.int (S_2.1 5), .int (S_5.1 5)]) (rest := []) ⟨hx, hb, hml, hown, ht⟩ hE (c_X1_befriend E l a1 S1 (S_2.1 5) (S_5.1 5) _ h) ⟨rfl, rfl⟩ wk_X4_77 wi_X1_befriend ws_X1_befriend wn_X1 wc_X1_befriend yd_X1_befriend ⟨Nat.le_of_ble_eq_true rfl, Nat.le_of_ble_eq_true rfl⟩ hP hD p1 (ci := 1) rfl rfl rfl rfl rfl hl.1 rfl (lv_room (Nat.le_of_ble_eq_true rfl)) dX4_readFriends_51 ⟨Nat.zero_le _, Nat.zero_le _⟩) hP hD hS p1 (fun S_8 w H locs h hw hP hD hS => ?_)
        subst hw
        clear p1
        have p2 := gB (n := 2) (bs := [bText E a0 S_5, bPlan E a1 S_8]) (bc := [bPlan E a1 S_8]) (br := [bText E a0 S_5]) [1, 0] rfl rfl (by decide)
        have hP := gP_perm p2.symm hP
        have hD := gD_perm p2.symm hD
        clear p2
        refine lv_aload_n hx hb dX4_readFriends_54 rfl (lv_at hl 1 rfl) ?_
        have p1 := gB (n := 2) (bs := [bText E a0 S_5, bPlan E a1 S_8]) (bc := [bText E a0 S_5]) (br := [bPlan E a1 S_8]) [0, 1] rfl rfl (by decide)
        refine g_i (g_runV (As := []) (rest := []) ⟨hx, hb, hml, hown, ht⟩ hE (c_X4_readEnd E l a0 S_5 _ h) ⟨rfl, rfl⟩ wk_X4_66 wi_X4_readEnd ws_X4_readEnd wn_X4 wc_X4_readEnd yd_X4_readEnd ⟨Nat.le_of_ble_eq_true rfl, Nat.le_of_ble_eq_true rfl⟩ hP hD p1 (ci := 4) rfl rfl rfl rfl rfl hl.1 rfl (lv_room (Nat.le_of_ble_eq_true rfl)) dX4_readFriends_55 ⟨Nat.zero_le _, Nat.zero_le _⟩) hP hD hS p1 (fun r_9 S_10 w H locs h hw hP hD hS => ?_)
        subst hw
        clear p1
        have p2 := gB (n := 2) (bs := [bText E a0 S_10, bPlan E a1 S_8]) (bc := [bText E a0 S_10]) (br := [bPlan E a1 S_8]) [0, 1] rfl rfl (by decide)
        have hP := gP_perm p2.symm hP
        have hD := gD_perm p2.symm hD
        clear p2
        exact hret r_9 ⟨S_10, S_8⟩ _ _ _ _ _ h.1 h.2 rfl hP hD hS dX4_readFriends_58
      · have h := h.2 c_7
        refine lv_iconst (v := 0) hx hb dX4_readFriends_43 (by decide) ?_
        exact hret 0 ⟨S_5, S1⟩ _ _ _ _ _ rfl h rfl hP hD hS dX4_readFriends_44
  · have h := h.2 c_3
    refine lv_iconst (v := 0) hx hb dX4_readFriends_14 (by decide) ?_
    exact hret 0 ⟨S_2, S1⟩ _ _ _ _ _ rfl h rfl hP hD hS dX4_readFriends_15
theorem dX4_readItem_0 : decode cX4_readItem 0 = .ok (.aload_n 0, 1) := by decide +kernel
theorem dX4_readItem_1 : decode cX4_readItem 1 = .ok (.getfield 22, 3) := by decide +kernel
theorem dX4_readItem_4 : decode cX4_readItem 4 = .ok (.iconst 1, 1) := by decide +kernel
theorem dX4_readItem_5 : decode cX4_readItem 5 = .ok (.if_icmp .eq 5, 3) := by decide +kernel
theorem dX4_readItem_8 : decode cX4_readItem 8 = .ok (.iconst 0, 1) := by decide +kernel
theorem dX4_readItem_9 : decode cX4_readItem 9 = .ok (.ireturn, 1) := by decide +kernel
theorem dX4_readItem_10 : decode cX4_readItem 10 = .ok (.aload_n 0, 1) := by decide +kernel
theorem dX4_readItem_11 : decode cX4_readItem 11 = .ok (.getfield 28, 3) := by decide +kernel
theorem dX4_readItem_14 : decode cX4_readItem 14 = .ok (.tableswitch 103 102 110 #[97, 103, 103, 103, 103, 91, 68, 103, 50], 50) := by decide +kernel
theorem dX4_readItem_64 : decode cX4_readItem 64 = .ok (.iload_n 2, 1) := by decide +kernel
theorem dX4_readItem_65 : decode cX4_readItem 65 = .ok (.ifCond .ne 15, 3) := by decide +kernel
theorem dX4_readItem_68 : decode cX4_readItem 68 = .ok (.aload_n 0, 1) := by decide +kernel
theorem dX4_readItem_69 : decode cX4_readItem 69 = .ok (.aload_n 1, 1) := by decide +kernel
theorem dX4_readItem_70 : decode cX4_readItem 70 = .ok (.invokevirtual 43, 3) := by decide +kernel
theorem dX4_readItem_73 : decode cX4_readItem 73 = .ok (.ifCond .eq 7, 3) := by decide +kernel
theorem dX4_readItem_76 : decode cX4_readItem 76 = .ok (.iconst 1, 1) := by decide +kernel
theorem dX4_readItem_77 : decode cX4_readItem 77 = .ok (.goto 4, 3) := by decide +kernel
theorem dX4_readItem_80 : decode cX4_readItem 80 = .ok (.iconst 0, 1) := by decide +kernel
theorem dX4_readItem_81 : decode cX4_readItem 81 = .ok (.ireturn, 1) := by decide +kernel
theorem dX4_readItem_82 : decode cX4_readItem 82 = .ok (.aload_n 1, 1) := by decide +kernel
theorem dX4_readItem_83 : decode cX4_readItem 83 = .ok (.getfield 47, 3) := by decide +kernel
theorem dX4_readItem_86 : decode cX4_readItem 86 = .ok (.bipush 8, 2) := by decide +kernel
theorem dX4_readItem_88 : decode cX4_readItem 88 = .ok (.if_icmp .ge 15, 3) := by decide +kernel
theorem dX4_readItem_91 : decode cX4_readItem 91 = .ok (.aload_n 0, 1) := by decide +kernel
theorem dX4_readItem_92 : decode cX4_readItem 92 = .ok (.aload_n 1, 1) := by decide +kernel
theorem dX4_readItem_93 : decode cX4_readItem 93 = .ok (.invokevirtual 50, 3) := by decide +kernel
theorem dX4_readItem_96 : decode cX4_readItem 96 = .ok (.ifCond .eq 7, 3) := by decide +kernel
theorem dX4_readItem_99 : decode cX4_readItem 99 = .ok (.iconst 1, 1) := by decide +kernel
theorem dX4_readItem_100 : decode cX4_readItem 100 = .ok (.goto 4, 3) := by decide +kernel
theorem dX4_readItem_103 : decode cX4_readItem 103 = .ok (.iconst 0, 1) := by decide +kernel
theorem dX4_readItem_104 : decode cX4_readItem 104 = .ok (.ireturn, 1) := by decide +kernel
theorem dX4_readItem_105 : decode cX4_readItem 105 = .ok (.aload_n 0, 1) := by decide +kernel
theorem dX4_readItem_106 : decode cX4_readItem 106 = .ok (.aload_n 1, 1) := by decide +kernel
theorem dX4_readItem_107 : decode cX4_readItem 107 = .ok (.invokevirtual 53, 3) := by decide +kernel
theorem dX4_readItem_110 : decode cX4_readItem 110 = .ok (.ireturn, 1) := by decide +kernel
theorem dX4_readItem_111 : decode cX4_readItem 111 = .ok (.aload_n 0, 1) := by decide +kernel
theorem dX4_readItem_112 : decode cX4_readItem 112 = .ok (.aload_n 1, 1) := by decide +kernel
theorem dX4_readItem_113 : decode cX4_readItem 113 = .ok (.invokevirtual 56, 3) := by decide +kernel
theorem dX4_readItem_116 : decode cX4_readItem 116 = .ok (.ireturn, 1) := by decide +kernel
theorem dX4_readItem_117 : decode cX4_readItem 117 = .ok (.iconst 0, 1) := by decide +kernel
theorem dX4_readItem_118 : decode cX4_readItem 118 = .ok (.ireturn, 1) := by decide +kernel
set_option maxHeartbeats 4000000 in
set_option maxRecDepth 100000 in
theorem c_X4_readItem (E : GE) (l : Launch) (a0 : Nat → Nat) (a1 : Nat → Nat) (S0 : Ob) (S1 : Ob) (x2 : Int32) (post : Int32 → Ob → Ob → Prop) (h : wp_X4_readItem S0 S1 x2 post) : Met l yX4_readItem (wz yX4_readItem cX4_readItem 3 (some .boolean)) { frames := 5, cells := 0, slots := 0, locals := 107 } (gPc E [.ref (a0 99), .ref (a1 99), .int x2] (gW [bText E a0 S0, bPlan E a1 S1])) (gQi E (gW [bText E a0 S0, bPlan E a1 S1]) (fun r (u : Ob × Ob) => post r u.1 u.2) (fun (u : Ob × Ob) w => w = gW [bText E a0 u.1, bPlan E a1 u.2])) 0 0 (gIn (gW [bText E a0 S0, bPlan E a1 S1])) := by
  unfold wp_X4_readItem at h
  refine g_of_z (by decide) (Nat.le_of_ble_eq_true rfl) ?_
  intro p e s m below meth c A Q hx hb hml hown ht hE hP hD hret ls hl
  have hK := hE.1
  have hS : va_S A s.heap s.heap [] := va_S.rf
  have hl : lv_has ls 3 [(0, .ref (a0 99)), (1, .ref (a1 99)), (2, .int x2)] := hl
  refine lv_aload_n hx hb dX4_readItem_0 rfl (lv_at hl 0 rfl) ?_
  refine va_get (D := (E.1, E.2.1)) (ci := 4) (v := .int (S0.1 3)) (C := RX4) (T := TX4) (N := 6) hx hb ht wu_X4 hown hK hP 0 rfl rfl 3 (by decide) (ht _ wk_X4_22) (fun _ h9 => h9) rfl dX4_readItem_1 ?_
  refine lv_iconst (v := 1) hx hb dX4_readItem_4 (by decide) ?_
  refine lv_icmp_eq (tgt := 10) hx hb dX4_readItem_5 (by decide) (fun c_1 => ?_) (fun c_1 => ?_)
  · have h := h.1 c_1
    refine lv_aload_n hx hb dX4_readItem_10 rfl (lv_at hl 0 rfl) ?_
    refine va_get (D := (E.1, E.2.1)) (ci := 4) (v := .int (S0.1 5)) (C := RX4) (T := TX4) (N := 6) hx hb ht wu_X4 hown hK hP 0 rfl rfl 5 (by decide) (ht _ wk_X4_28) (fun _ h9 => h9) rfl dX4_readItem_11 ?_
    rcases sw_102_110 (S0.1 5) with c | c | c | c | c | c | c | c | c | c
    · have h := h.1 c
      refine lv_asi c ?_
      refine lv_tableIn (off := 97) (tgt := 111) hx hb dX4_readItem_14 (by decide) (by decide) rfl (by decide) ?_
      refine lv_aload_n hx hb dX4_readItem_111 rfl (lv_at hl 0 rfl) ?_
      refine lv_aload_n hx hb dX4_readItem_112 rfl (lv_at hl 1 rfl) ?_
      have p1 := gB (n := 2) (bs := [bText E a0 S0, bPlan E a1 S1]) (bc := [bText E a0 S0, bPlan E a1 S1]) (br := []) [0, 1] rfl rfl (by decide)
      refine g_i (g_runV (As := [.ref (a1 99)]) (rest := []) ⟨hx, hb, hml, hown, ht⟩ hE (c_X4_readFriends E l a0 a1 S0 S1 _ h) ⟨rfl, rfl⟩ wk_X4_56 wi_X4_readFriends ws_X4_readFriends wn_X4 wc_X4_readFriends yd_X4_readFriends ⟨Nat.le_of_ble_eq_true rfl, Nat.le_of_ble_eq_true rfl⟩ hP hD p1 (ci := 4) rfl rfl rfl rfl rfl hl.1 rfl (lv_room (Nat.le_of_ble_eq_true rfl)) dX4_readItem_113 ⟨Nat.zero_le _, Nat.zero_le _⟩) hP hD hS p1 (fun r_2 u w H locs h hw hP hD hS => ?_)
      obtain ⟨S_3, S_4⟩ := u
      subst hw
      clear p1
      have p2 := gB (n := 2) (bs := [bText E a0 S_3, bPlan E a1 S_4]) (bc := [bText E a0 S_3, bPlan E a1 S_4]) (br := []) [0, 1] rfl rfl (by decide)
      have hP := gP_perm p2.symm hP
      have hD := gD_perm p2.symm hD
      clear p2
      exact hret r_2 ⟨S_3, S_4⟩ _ _ _ _ _ h.1 h.2 rfl hP hD hS dX4_readItem_116
    · have h := h.2.1 c
      refine lv_asi c ?_
      refine lv_tableIn (off := 103) (tgt := 117) hx hb dX4_readItem_14 (by decide) (by decide) rfl (by decide) ?_
      refine lv_iconst (v := 0) hx hb dX4_readItem_117 (by decide) ?_
      exact hret 0 ⟨S0, S1⟩ _ _ _ _ _ rfl h rfl hP hD hS dX4_readItem_118
    · have h := h.2.2.1 c
      refine lv_asi c ?_
      refine lv_tableIn (off := 103) (tgt := 117) hx hb dX4_readItem_14 (by decide) (by decide) rfl (by decide) ?_
      refine lv_iconst (v := 0) hx hb dX4_readItem_117 (by decide) ?_
      exact hret 0 ⟨S0, S1⟩ _ _ _ _ _ rfl h rfl hP hD hS dX4_readItem_118
    · have h := h.2.2.2.1 c
      refine lv_asi c ?_
      refine lv_tableIn (off := 103) (tgt := 117) hx hb dX4_readItem_14 (by decide) (by decide) rfl (by decide) ?_
      refine lv_iconst (v := 0) hx hb dX4_readItem_117 (by decide) ?_
      exact hret 0 ⟨S0, S1⟩ _ _ _ _ _ rfl h rfl hP hD hS dX4_readItem_118
    · have h := h.2.2.2.2.1 c
      refine lv_asi c ?_
      refine lv_tableIn (off := 103) (tgt := 117) hx hb dX4_readItem_14 (by decide) (by decide) rfl (by decide) ?_
      refine lv_iconst (v := 0) hx hb dX4_readItem_117 (by decide) ?_
      exact hret 0 ⟨S0, S1⟩ _ _ _ _ _ rfl h rfl hP hD hS dX4_readItem_118
    · have h := h.2.2.2.2.2.1 c
      refine lv_asi c ?_
      refine lv_tableIn (off := 91) (tgt := 105) hx hb dX4_readItem_14 (by decide) (by decide) rfl (by decide) ?_
      refine lv_aload_n hx hb dX4_readItem_105 rfl (lv_at hl 0 rfl) ?_
      refine lv_aload_n hx hb dX4_readItem_106 rfl (lv_at hl 1 rfl) ?_
      have p1 := gB (n := 2) (bs := [bText E a0 S0, bPlan E a1 S1]) (bc := [bText E a0 S0, bPlan E a1 S1]) (br := []) [0, 1] rfl rfl (by decide)
      refine g_i (g_runV (As := [.ref (a1 99)]) (rest := []) ⟨hx, hb, hml, hown, ht⟩ hE (c_X4_readKnows E l a0 a1 S0 S1 _ h) ⟨rfl, rfl⟩ wk_X4_53 wi_X4_readKnows ws_X4_readKnows wn_X4 wc_X4_readKnows yd_X4_readKnows ⟨Nat.le_of_ble_eq_true rfl, Nat.le_of_ble_eq_true rfl⟩ hP hD p1 (ci := 4) rfl rfl rfl rfl rfl hl.1 rfl (lv_room (Nat.le_of_ble_eq_true rfl)) dX4_readItem_107 ⟨Nat.zero_le _, Nat.zero_le _⟩) hP hD hS p1 (fun r_5 u w H locs h hw hP hD hS => ?_)
      obtain ⟨S_6, S_7⟩ := u
      subst hw
      clear p1
      have p2 := gB (n := 2) (bs := [bText E a0 S_6, bPlan E a1 S_7]) (bc := [bText E a0 S_6, bPlan E a1 S_7]) (br := []) [0, 1] rfl rfl (by decide)
      have hP := gP_perm p2.symm hP
      have hD := gD_perm p2.symm hD
      clear p2
      exact hret r_5 ⟨S_6, S_7⟩ _ _ _ _ _ h.1 h.2 rfl hP hD hS dX4_readItem_110
    · have h := h.2.2.2.2.2.2.1 c
      refine lv_asi c ?_
      refine lv_tableIn (off := 68) (tgt := 82) hx hb dX4_readItem_14 (by decide) (by decide) rfl (by decide) ?_
      refine lv_aload_n hx hb dX4_readItem_82 rfl (lv_at hl 1 rfl) ?_
      refine va_get (D := (E.1, E.2.1)) (ci := 1) (v := .int (S1.1 4)) (C := RX1) (T := TX1) (N := 5) hx hb ht wu_X1 hown hK hP 2 rfl rfl 4 (by decide) (ht _ wk_X4_47) (fun _ h9 => h9) rfl dX4_readItem_83 ?_
      refine lv_bipush (v := 8) hx hb dX4_readItem_86 (by decide) ?_
      refine lv_icmp_ge (tgt := 103) hx hb dX4_readItem_88 (by decide) (fun c_8 => ?_) (fun c_8 => ?_)
      · have h := h.1 c_8
        refine lv_iconst (v := 0) hx hb dX4_readItem_103 (by decide) ?_
        exact hret 0 ⟨S0, S1⟩ _ _ _ _ _ rfl h rfl hP hD hS dX4_readItem_104
      · have h := h.2 c_8
        refine lv_aload_n hx hb dX4_readItem_91 rfl (lv_at hl 0 rfl) ?_
        refine lv_aload_n hx hb dX4_readItem_92 rfl (lv_at hl 1 rfl) ?_
        have p1 := gB (n := 2) (bs := [bText E a0 S0, bPlan E a1 S1]) (bc := [bText E a0 S0, bPlan E a1 S1]) (br := []) [0, 1] rfl rfl (by decide)
        refine g_i (g_runV (As := [.ref (a1 99)]) (rest := []) ⟨hx, hb, hml, hown, ht⟩ hE (c_X4_readLock E l a0 a1 S0 S1 _ h) ⟨rfl, rfl⟩ wk_X4_50 wi_X4_readLock ws_X4_readLock wn_X4 wc_X4_readLock yd_X4_readLock ⟨Nat.le_of_ble_eq_true rfl, Nat.le_of_ble_eq_true rfl⟩ hP hD p1 (ci := 4) rfl rfl rfl rfl rfl hl.1 rfl (lv_room (Nat.le_of_ble_eq_true rfl)) dX4_readItem_93 ⟨Nat.zero_le _, Nat.zero_le _⟩) hP hD hS p1 (fun r_9 u w H locs h hw hP hD hS => ?_)
        obtain ⟨S_10, S_11⟩ := u
        subst hw
        clear p1
        have p2 := gB (n := 2) (bs := [bText E a0 S_10, bPlan E a1 S_11]) (bc := [bText E a0 S_10, bPlan E a1 S_11]) (br := []) [0, 1] rfl rfl (by decide)
        have hP := gP_perm p2.symm hP
        have hD := gD_perm p2.symm hD
        clear p2
        refine lv_if_eq (tgt := 103) hx hb dX4_readItem_96 (by decide) (fun c_12 => ?_) (fun c_12 => ?_)
        · have h := h.1 c_12
          refine lv_iconst (v := 0) hx hb dX4_readItem_103 (by decide) ?_
          exact hret 0 ⟨S_10, S_11⟩ _ _ _ _ _ rfl h rfl hP hD hS dX4_readItem_104
        · have h := h.2 c_12
          refine lv_iconst (v := 1) hx hb dX4_readItem_99 (by decide) ?_
          refine lv_goto (tgt := 104) hx hb dX4_readItem_100 (by decide) ?_
          exact hret 1 ⟨S_10, S_11⟩ _ _ _ _ _ rfl h rfl hP hD hS dX4_readItem_104
    · have h := h.2.2.2.2.2.2.2.1 c
      refine lv_asi c ?_
      refine lv_tableIn (off := 103) (tgt := 117) hx hb dX4_readItem_14 (by decide) (by decide) rfl (by decide) ?_
      refine lv_iconst (v := 0) hx hb dX4_readItem_117 (by decide) ?_
      exact hret 0 ⟨S0, S1⟩ _ _ _ _ _ rfl h rfl hP hD hS dX4_readItem_118
    · have h := h.2.2.2.2.2.2.2.2.1 c
      refine lv_asi c ?_
      refine lv_tableIn (off := 50) (tgt := 64) hx hb dX4_readItem_14 (by decide) (by decide) rfl (by decide) ?_
      refine lv_iload_n hx hb dX4_readItem_64 rfl (lv_at hl 2 rfl) ?_
      refine lv_if_ne (tgt := 80) hx hb dX4_readItem_65 (by decide) (fun c_13 => ?_) (fun c_13 => ?_)
      · have h := h.1 c_13
        refine lv_iconst (v := 0) hx hb dX4_readItem_80 (by decide) ?_
        exact hret 0 ⟨S0, S1⟩ _ _ _ _ _ rfl h rfl hP hD hS dX4_readItem_81
      · have h := h.2 c_13
        refine lv_aload_n hx hb dX4_readItem_68 rfl (lv_at hl 0 rfl) ?_
        refine lv_aload_n hx hb dX4_readItem_69 rfl (lv_at hl 1 rfl) ?_
        have p1 := gB (n := 2) (bs := [bText E a0 S0, bPlan E a1 S1]) (bc := [bText E a0 S0, bPlan E a1 S1]) (br := []) [0, 1] rfl rfl (by decide)
        refine g_i (g_runV (As := [.ref (a1 99)]) (rest := []) ⟨hx, hb, hml, hown, ht⟩ hE (c_X4_readPersons E l a0 a1 S0 S1 _ h) ⟨rfl, rfl⟩ wk_X4_43 wi_X4_readPersons ws_X4_readPersons wn_X4 wc_X4_readPersons yd_X4_readPersons ⟨Nat.le_of_ble_eq_true rfl, Nat.le_of_ble_eq_true rfl⟩ hP hD p1 (ci := 4) rfl rfl rfl rfl rfl hl.1 rfl (lv_room (Nat.le_of_ble_eq_true rfl)) dX4_readItem_70 ⟨Nat.zero_le _, Nat.zero_le _⟩) hP hD hS p1 (fun r_14 u w H locs h hw hP hD hS => ?_)
        obtain ⟨S_15, S_16⟩ := u
        subst hw
        clear p1
        have p2 := gB (n := 2) (bs := [bText E a0 S_15, bPlan E a1 S_16]) (bc := [bText E a0 S_15, bPlan E a1 S_16]) (br := []) [0, 1] rfl rfl (by decide)
        have hP := gP_perm p2.symm hP
        have hD := gD_perm p2.symm hD
        clear p2
        refine lv_if_eq (tgt := 80) hx hb dX4_readItem_73 (by decide) (fun c_17 => ?_) (fun c_17 => ?_)
        · have h := h.1 c_17
          refine lv_iconst (v := 0) hx hb dX4_readItem_80 (by decide) ?_
          exact hret 0 ⟨S_15, S_16⟩ _ _ _ _ _ rfl h rfl hP hD hS dX4_readItem_81
        · have h := h.2 c_17
          refine lv_iconst (v := 1) hx hb dX4_readItem_76 (by decide) ?_
          refine lv_goto (tgt := 81) hx hb dX4_readItem_77 (by decide) ?_
          exact hret 1 ⟨S_15, S_16⟩ _ _ _ _ _ rfl h rfl hP hD hS dX4_readItem_81
    · have h := h.2.2.2.2.2.2.2.2.2 c
      refine lv_tableOut (tgt := 117) hx hb dX4_readItem_14 c (by decide) ?_
      refine lv_iconst (v := 0) hx hb dX4_readItem_117 (by decide) ?_
      exact hret 0 ⟨S0, S1⟩ _ _ _ _ _ rfl h rfl hP hD hS dX4_readItem_118
  · have h := h.2 c_1
    refine lv_iconst (v := 0) hx hb dX4_readItem_8 (by decide) ?_
    exact hret 0 ⟨S0, S1⟩ _ _ _ _ _ rfl h rfl hP hD hS dX4_readItem_9
theorem dX4_tellAll_0 : decode cX4_tellAll 0 = .ok (.aload_n 1, 1) := by decide +kernel
theorem dX4_tellAll_1 : decode cX4_tellAll 1 = .ok (.invokevirtual 31, 3) := by decide +kernel
theorem dX4_tellAll_4 : decode cX4_tellAll 4 = .ok (.aload_n 0, 1) := by decide +kernel
theorem dX4_tellAll_5 : decode cX4_tellAll 5 = .ok (.iconst 0, 1) := by decide +kernel
theorem dX4_tellAll_6 : decode cX4_tellAll 6 = .ok (.putfield 19, 3) := by decide +kernel
theorem dX4_tellAll_9 : decode cX4_tellAll 9 = .ok (.aload_n 0, 1) := by decide +kernel
theorem dX4_tellAll_10 : decode cX4_tellAll 10 = .ok (.invokevirtual 36, 3) := by decide +kernel
theorem dX4_tellAll_13 : decode cX4_tellAll 13 = .ok (.iconst 0, 1) := by decide +kernel
theorem dX4_tellAll_14 : decode cX4_tellAll 14 = .ok (.istore_n 2, 1) := by decide +kernel
theorem dX4_tellAll_15 : decode cX4_tellAll 15 = .ok (.aload_n 0, 1) := by decide +kernel
theorem dX4_tellAll_16 : decode cX4_tellAll 16 = .ok (.getfield 22, 3) := by decide +kernel
theorem dX4_tellAll_19 : decode cX4_tellAll 19 = .ok (.ifCond .eq 37, 3) := by decide +kernel
theorem dX4_tellAll_22 : decode cX4_tellAll 22 = .ok (.iload_n 2, 1) := by decide +kernel
theorem dX4_tellAll_23 : decode cX4_tellAll 23 = .ok (.sipush 150, 3) := by decide +kernel
theorem dX4_tellAll_26 : decode cX4_tellAll 26 = .ok (.if_icmp .ge 30, 3) := by decide +kernel
theorem dX4_tellAll_29 : decode cX4_tellAll 29 = .ok (.aload_n 0, 1) := by decide +kernel
theorem dX4_tellAll_30 : decode cX4_tellAll 30 = .ok (.aload_n 1, 1) := by decide +kernel
theorem dX4_tellAll_31 : decode cX4_tellAll 31 = .ok (.iload_n 2, 1) := by decide +kernel
theorem dX4_tellAll_32 : decode cX4_tellAll 32 = .ok (.invokevirtual 39, 3) := by decide +kernel
theorem dX4_tellAll_35 : decode cX4_tellAll 35 = .ok (.ifCond .ne 11, 3) := by decide +kernel
theorem dX4_tellAll_38 : decode cX4_tellAll 38 = .ok (.bipush (-10), 2) := by decide +kernel
theorem dX4_tellAll_40 : decode cX4_tellAll 40 = .ok (.aload_n 0, 1) := by decide +kernel
theorem dX4_tellAll_41 : decode cX4_tellAll 41 = .ok (.getfield 25, 3) := by decide +kernel
theorem dX4_tellAll_44 : decode cX4_tellAll 44 = .ok (.isub, 1) := by decide +kernel
theorem dX4_tellAll_45 : decode cX4_tellAll 45 = .ok (.ireturn, 1) := by decide +kernel
theorem dX4_tellAll_46 : decode cX4_tellAll 46 = .ok (.iinc 2 1, 3) := by decide +kernel
theorem dX4_tellAll_49 : decode cX4_tellAll 49 = .ok (.aload_n 0, 1) := by decide +kernel
theorem dX4_tellAll_50 : decode cX4_tellAll 50 = .ok (.invokevirtual 36, 3) := by decide +kernel
theorem dX4_tellAll_53 : decode cX4_tellAll 53 = .ok (.goto (-38), 3) := by decide +kernel
theorem dX4_tellAll_56 : decode cX4_tellAll 56 = .ok (.iload_n 2, 1) := by decide +kernel
theorem dX4_tellAll_57 : decode cX4_tellAll 57 = .ok (.ireturn, 1) := by decide +kernel
set_option maxHeartbeats 4000000 in
set_option maxRecDepth 100000 in
theorem c_X4_tellAll (E : GE) (l : Launch) (a0 : Nat → Nat) (a1 : Nat → Nat) (S0 : Ob) (S1 : Ob) (post : Int32 → Ob → Ob → Prop) (h : wp_X4_tellAll S0 S1 post) : Met l yX4_tellAll (wz yX4_tellAll cX4_tellAll 3 (some .int)) { frames := 6, cells := 0, slots := 0, locals := 129 } (gPc E [.ref (a0 99), .ref (a1 99)] (gW [bText E a0 S0, bPlan E a1 S1])) (gQi E (gW [bText E a0 S0, bPlan E a1 S1]) (fun r (u : Ob × Ob) => post r u.1 u.2) (fun (u : Ob × Ob) w => w = gW [bText E a0 u.1, bPlan E a1 u.2])) 0 0 (gIn (gW [bText E a0 S0, bPlan E a1 S1])) := by
  unfold wp_X4_tellAll at h
  refine g_of_i (by decide) (Nat.le_of_ble_eq_true rfl) ?_
  intro p e s m below meth c A Q hx hb hml hown ht hE hP hD hret ls hl
  have hK := hE.1
  have hS : va_S A s.heap s.heap [] := va_S.rf
  have hl : lv_has ls 3 [(0, .ref (a0 99)), (1, .ref (a1 99))] := hl
  refine lv_aload_n hx hb dX4_tellAll_0 rfl (lv_at hl 1 rfl) ?_
  have p1 := gB (n := 2) (bs := [bText E a0 S0, bPlan E a1 S1]) (bc := [bPlan E a1 S1]) (br := [bText E a0 S0]) [1, 0] rfl rfl (by decide)
  refine g_v (g_runV (As := []) (rest := []) ⟨hx, hb, hml, hown, ht⟩ hE (c_X1_reset E l a1 S1 _ h) ⟨rfl, rfl⟩ wk_X4_31 wi_X1_reset ws_X1_reset wn_X1 wc_X1_reset yd_X1_reset ⟨Nat.le_of_ble_eq_true rfl, Nat.le_of_ble_eq_true rfl⟩ hP hD p1 (ci := 1) rfl rfl rfl rfl rfl hl.1 rfl (lv_room (Nat.le_of_ble_eq_true rfl)) dX4_tellAll_1 ⟨Nat.zero_le _, Nat.zero_le _⟩) hP hD hS p1 (fun S_1 w H locs h hw hP hD hS => ?_)
  subst hw
  clear p1
  have p2 := gB (n := 2) (bs := [bText E a0 S0, bPlan E a1 S_1]) (bc := [bPlan E a1 S_1]) (br := [bText E a0 S0]) [1, 0] rfl rfl (by decide)
  have hP := gP_perm p2.symm hP
  have hD := gD_perm p2.symm hD
  clear p2
  refine lv_aload_n hx hb dX4_tellAll_4 rfl (lv_at hl 0 rfl) ?_
  refine lv_iconst (v := 0) hx hb dX4_tellAll_5 (by decide) ?_
  refine va_put (D := (E.1, E.2.1)) (ci := 4) (v := .int 0) (ty := .int) (C := RX4) (T := TX4) (N := 6) hx hb ht wu_X4 tyX4 tyX4_ok nmX4 hown hK hP hD hS 0 rfl rfl 2 (by decide) (ht _ wk_X4_19) (fun _ h9 => h9) rfl (by decide +kernel) rfl rfl (Nat.le_of_ble_eq_true rfl) dX4_tellAll_6 (fun H locs hP hD hS => ?_)
  have hP : gP E (gW [bText E a0 (pf S0 2 0), bPlan E a1 S_1]) H := hP
  have hD : va_D A (gW [bText E a0 (pf S0 2 0), bPlan E a1 S_1]) := hD
  refine lv_aload_n hx hb dX4_tellAll_9 rfl (lv_at hl 0 rfl) ?_
  have p1 := gB (n := 2) (bs := [bText E a0 (pf S0 2 0), bPlan E a1 S_1]) (bc := [bText E a0 (pf S0 2 0)]) (br := [bPlan E a1 S_1]) [0, 1] rfl rfl (by decide)
  refine g_v (g_runV (As := []) (rest := []) ⟨hx, hb, hml, hown, ht⟩ hE (c_X4_advance E l a0 (pf S0 2 0) _ h) ⟨rfl, rfl⟩ wk_X4_36 wi_X4_advance ws_X4_advance wn_X4 wc_X4_advance yd_X4_advance ⟨Nat.le_of_ble_eq_true rfl, Nat.le_of_ble_eq_true rfl⟩ hP hD p1 (ci := 4) rfl rfl rfl rfl rfl hl.1 rfl (lv_room (Nat.le_of_ble_eq_true rfl)) dX4_tellAll_10 ⟨Nat.zero_le _, Nat.zero_le _⟩) hP hD hS p1 (fun S_2 w H locs h hw hP hD hS => ?_)
  subst hw
  clear p1
  have p2 := gB (n := 2) (bs := [bText E a0 S_2, bPlan E a1 S_1]) (bc := [bText E a0 S_2]) (br := [bPlan E a1 S_1]) [0, 1] rfl rfl (by decide)
  have hP := gP_perm p2.symm hP
  have hD := gD_perm p2.symm hD
  clear p2
  refine lv_iconst (v := 0) hx hb dX4_tellAll_13 (by decide) ?_
  refine lv_istore_n (lv' := [(2, .int 0), (0, .ref (a0 99)), (1, .ref (a1 99))]) hx hb dX4_tellAll_14 rfl hl (by decide) rfl (fun ls hl => ?_)
  have L15 : ∀ (n15 : Nat) (x2_15 : Int32) (S0_15 : Ob) (S1_15 : Ob) (H : Heap) (locs : List Loc) (ls : Array Slot), wp_X4_tellAll_L15 post n15 x2_15 S0_15 S1_15 → gP E (gW [bText E a0 S0_15, bPlan E a1 S1_15]) H → va_D A (gW [bText E a0 S0_15, bPlan E a1 S1_15]) → va_S A s.heap H locs → lv_has ls 3 [(0, .ref (a0 99)), (1, .ref (a1 99)), (2, .int x2_15)] → W p l e { frames := 6, cells := 0, slots := 0, locals := 129 } s m ([.ref (a0 99), .ref (a1 99)] : List Value).toArray below meth c H locs 0 0 Q (F0 m 15 ls []) := by
    intro n15
    induction n15 with
    | zero => intro x2_15 S0_15 S1_15 H locs ls h; exact h.elim
    | succ n15 ih15 =>
      intro x2_15 S0_15 S1_15 H locs ls h hP hD hS hl
      rw [wp_X4_tellAll_L15] at h
      refine lv_aload_n hx hb dX4_tellAll_15 rfl (lv_at hl 0 rfl) ?_
      refine va_get (D := (E.1, E.2.1)) (ci := 4) (v := .int (S0_15.1 3)) (C := RX4) (T := TX4) (N := 6) hx hb ht wu_X4 hown hK hP 0 rfl rfl 3 (by decide) (ht _ wk_X4_22) (fun _ h9 => h9) rfl dX4_tellAll_16 ?_
      refine lv_if_eq (tgt := 56) hx hb dX4_tellAll_19 (by decide) (fun c_10 => ?_) (fun c_10 => ?_)
      · have h := h.1 c_10
        refine lv_iload_n hx hb dX4_tellAll_56 rfl (lv_at hl 2 rfl) ?_
        exact hret x2_15 ⟨S0_15, S1_15⟩ _ _ _ _ _ h rfl hP hD hS dX4_tellAll_57
      · have h := h.2 c_10
        refine lv_iload_n hx hb dX4_tellAll_22 rfl (lv_at hl 2 rfl) ?_
        refine lv_sipush (v := 150) hx hb dX4_tellAll_23 (by decide) ?_
        refine lv_icmp_ge (tgt := 56) hx hb dX4_tellAll_26 (by decide) (fun c_11 => ?_) (fun c_11 => ?_)
        · have h := h.1 c_11
          refine lv_iload_n hx hb dX4_tellAll_56 rfl (lv_at hl 2 rfl) ?_
          exact hret x2_15 ⟨S0_15, S1_15⟩ _ _ _ _ _ h rfl hP hD hS dX4_tellAll_57
        · have h := h.2 c_11
          refine lv_aload_n hx hb dX4_tellAll_29 rfl (lv_at hl 0 rfl) ?_
          refine lv_aload_n hx hb dX4_tellAll_30 rfl (lv_at hl 1 rfl) ?_
          refine lv_iload_n hx hb dX4_tellAll_31 rfl (lv_at hl 2 rfl) ?_
          have p1 := gB (n := 2) (bs := [bText E a0 S0_15, bPlan E a1 S1_15]) (bc := [bText E a0 S0_15, bPlan E a1 S1_15]) (br := []) [0, 1] rfl rfl (by decide)
          refine g_i (g_runV (As := [.ref (a1 99), .int x2_15]) (rest := []) ⟨hx, hb, hml, hown, ht⟩ hE (c_X4_readItem E l a0 a1 S0_15 S1_15 x2_15 _ h) ⟨rfl, rfl⟩ wk_X4_39 wi_X4_readItem ws_X4_readItem wn_X4 wc_X4_readItem yd_X4_readItem ⟨Nat.le_of_ble_eq_true rfl, Nat.le_of_ble_eq_true rfl⟩ hP hD p1 (ci := 4) rfl rfl rfl rfl rfl hl.1 rfl (lv_room (Nat.le_of_ble_eq_true rfl)) dX4_tellAll_32 ⟨Nat.zero_le _, Nat.zero_le _⟩) hP hD hS p1 (fun r_12 u w H locs h hw hP hD hS => ?_)
          obtain ⟨S_13, S_14⟩ := u
          subst hw
          clear p1
          have p2 := gB (n := 2) (bs := [bText E a0 S_13, bPlan E a1 S_14]) (bc := [bText E a0 S_13, bPlan E a1 S_14]) (br := []) [0, 1] rfl rfl (by decide)
          have hP := gP_perm p2.symm hP
          have hD := gD_perm p2.symm hD
          clear p2
          refine lv_if_ne (tgt := 46) hx hb dX4_tellAll_35 (by decide) (fun c_15 => ?_) (fun c_15 => ?_)
          · have h := h.1 c_15
            refine lv_iinc (v := (x2_15 + 1)) (lv' := [(2, .int (x2_15 + 1)), (0, .ref (a0 99)), (1, .ref (a1 99))]) hx hb dX4_tellAll_46 hl (k := 2) rfl rfl (by decide) rfl (fun ls hl => ?_)
            refine lv_aload_n hx hb dX4_tellAll_49 rfl (lv_at hl 1 rfl) ?_
            have p1 := gB (n := 2) (bs := [bText E a0 S_13, bPlan E a1 S_14]) (bc := [bText E a0 S_13]) (br := [bPlan E a1 S_14]) [0, 1] rfl rfl (by decide)
            refine g_v (g_runV (As := []) (rest := []) ⟨hx, hb, hml, hown, ht⟩ hE (c_X4_advance E l a0 S_13 _ h) ⟨rfl, rfl⟩ wk_X4_36 wi_X4_advance ws_X4_advance wn_X4 wc_X4_advance yd_X4_advance ⟨Nat.le_of_ble_eq_true rfl, Nat.le_of_ble_eq_true rfl⟩ hP hD p1 (ci := 4) rfl rfl rfl rfl rfl hl.1 rfl (lv_room (Nat.le_of_ble_eq_true rfl)) dX4_tellAll_50 ⟨Nat.zero_le _, Nat.zero_le _⟩) hP hD hS p1 (fun S_16 w H locs h hw hP hD hS => ?_)
            subst hw
            clear p1
            have p2 := gB (n := 2) (bs := [bText E a0 S_16, bPlan E a1 S_14]) (bc := [bText E a0 S_16]) (br := [bPlan E a1 S_14]) [0, 1] rfl rfl (by decide)
            have hP := gP_perm p2.symm hP
            have hD := gD_perm p2.symm hD
            clear p2
            refine lv_goto (tgt := 15) hx hb dX4_tellAll_53 (by decide) ?_
            exact ih15 (x2_15 + 1) S_16 S_14 _ _ _ h hP hD hS (lv_sub hl [1, 2, 0] rfl)
          · have h := h.2 c_15
            refine lv_bipush (v := (-10)) hx hb dX4_tellAll_38 (by decide) ?_
            refine lv_aload_n hx hb dX4_tellAll_40 rfl (lv_at hl 0 rfl) ?_
            refine va_get (D := (E.1, E.2.1)) (ci := 4) (v := .int (S_13.1 4)) (C := RX4) (T := TX4) (N := 6) hx hb ht wu_X4 hown hK hP 0 rfl rfl 4 (by decide) (ht _ wk_X4_25) (fun _ h9 => h9) rfl dX4_tellAll_41 ?_
            refine lv_isub hx hb dX4_tellAll_44 ?_
            exact hret ((-10) - (S_13.1 4)) ⟨S_13, S_14⟩ _ _ _ _ _ h rfl hP hD hS dX4_tellAll_45
  obtain ⟨n15, h⟩ := h
  exact L15 n15 0 S_2 S_1 _ _ _ h hP hD hS (lv_sub hl [1, 2, 0] rfl)
