theorem dX0_loseOldest_0 : decode cX0_loseOldest 0 = .ok (.aload_n 0, 1) := by decide +kernel
theorem dX0_loseOldest_1 : decode cX0_loseOldest 1 = .ok (.getfield 18, 3) := by decide +kernel
theorem dX0_loseOldest_4 : decode cX0_loseOldest 4 = .ok (.iconst 0, 1) := by decide +kernel
theorem dX0_loseOldest_5 : decode cX0_loseOldest 5 = .ok (.aaload, 1) := by decide +kernel
theorem dX0_loseOldest_6 : decode cX0_loseOldest 6 = .ok (.astore_n 1, 1) := by decide +kernel
theorem dX0_loseOldest_7 : decode cX0_loseOldest 7 = .ok (.iconst 1, 1) := by decide +kernel
theorem dX0_loseOldest_8 : decode cX0_loseOldest 8 = .ok (.istore_n 2, 1) := by decide +kernel
theorem dX0_loseOldest_9 : decode cX0_loseOldest 9 = .ok (.iload_n 2, 1) := by decide +kernel
theorem dX0_loseOldest_10 : decode cX0_loseOldest 10 = .ok (.bipush 10, 2) := by decide +kernel
theorem dX0_loseOldest_12 : decode cX0_loseOldest 12 = .ok (.if_icmp .ge 23, 3) := by decide +kernel
theorem dX0_loseOldest_15 : decode cX0_loseOldest 15 = .ok (.aload_n 0, 1) := by decide +kernel
theorem dX0_loseOldest_16 : decode cX0_loseOldest 16 = .ok (.getfield 18, 3) := by decide +kernel
theorem dX0_loseOldest_19 : decode cX0_loseOldest 19 = .ok (.iload_n 2, 1) := by decide +kernel
theorem dX0_loseOldest_20 : decode cX0_loseOldest 20 = .ok (.iconst 1, 1) := by decide +kernel
theorem dX0_loseOldest_21 : decode cX0_loseOldest 21 = .ok (.isub, 1) := by decide +kernel
theorem dX0_loseOldest_22 : decode cX0_loseOldest 22 = .ok (.aload_n 0, 1) := by decide +kernel
theorem dX0_loseOldest_23 : decode cX0_loseOldest 23 = .ok (.getfield 18, 3) := by decide +kernel
theorem dX0_loseOldest_26 : decode cX0_loseOldest 26 = .ok (.iload_n 2, 1) := by decide +kernel
theorem dX0_loseOldest_27 : decode cX0_loseOldest 27 = .ok (.aaload, 1) := by decide +kernel
theorem dX0_loseOldest_28 : decode cX0_loseOldest 28 = .ok (.aastore, 1) := by decide +kernel
theorem dX0_loseOldest_29 : decode cX0_loseOldest 29 = .ok (.iinc 2 1, 3) := by decide +kernel
theorem dX0_loseOldest_32 : decode cX0_loseOldest 32 = .ok (.goto (-23), 3) := by decide +kernel
theorem dX0_loseOldest_35 : decode cX0_loseOldest 35 = .ok (.aload_n 0, 1) := by decide +kernel
theorem dX0_loseOldest_36 : decode cX0_loseOldest 36 = .ok (.getfield 18, 3) := by decide +kernel
theorem dX0_loseOldest_39 : decode cX0_loseOldest 39 = .ok (.bipush 9, 2) := by decide +kernel
theorem dX0_loseOldest_41 : decode cX0_loseOldest 41 = .ok (.aload_n 1, 1) := by decide +kernel
theorem dX0_loseOldest_42 : decode cX0_loseOldest 42 = .ok (.aastore, 1) := by decide +kernel
theorem dX0_loseOldest_43 : decode cX0_loseOldest 43 = .ok (.aload_n 0, 1) := by decide +kernel
theorem dX0_loseOldest_44 : decode cX0_loseOldest 44 = .ok (.bipush 9, 2) := by decide +kernel
theorem dX0_loseOldest_46 : decode cX0_loseOldest 46 = .ok (.putfield 22, 3) := by decide +kernel
theorem dX0_loseOldest_49 : decode cX0_loseOldest 49 = .ok (.return_, 1) := by decide +kernel
theorem pool_rot (E : GE) (e : Nat → Nat → Nat) (O : Nat → Ob) : (bPool E e O).Perm (bPool E (rot10 e) (rot10 O)) := by
  have h := gB (n := 10) (bs := (List.range 10).map (fun i => bScene E (e i) (O i))) (bc := (List.range 10).map (fun i => bScene E (rot10 e i) (rot10 O i))) (br := []) [1, 2, 3, 4, 5, 6, 7, 8, 9, 0] rfl rfl (by decide)
  have e1 : gW ((List.range 10).map (fun i => bScene E (e i) (O i))) = bPool E e O := rfl
  have e2 : gW ((List.range 10).map (fun i => bScene E (rot10 e i) (rot10 O i))) = bPool E (rot10 e) (rot10 O) := rfl
  rw [e1, e2] at h
  simpa [gW] using h
theorem pool_mem (E : GE) (e : Nat → Nat → Nat) (O : Nat → Ob) {i : Nat} (hi : i < 10) : (e i 99, (.inr (3, [.ref (e i 0), .ref (e i 1), .ref (e i 2), .ref (e i 3), .int ((O i).1 4)]) : va_E)) ∈ bPool E e O :=
  List.mem_flatMap.mpr ⟨i, List.mem_range.mpr hi, List.mem_cons_self⟩
def lo_F (e : Nat → Nat → Nat) (i : Nat) : Nat → Option Nat := fun j => if j + 1 < i then some (e (j + 1) 99) else some (e j 99)
theorem lo_F1 (e : Nat → Nat → Nat) : lo_F e 1 = fun j => some (e j 99) := by funext j; simp [lo_F]
theorem lo_Fi (e : Nat → Nat → Nat) (i : Nat) : lo_F e i i = some (e i 99) := by simp [lo_F, show ¬ i + 1 < i by omega]
theorem lo_Fs (e : Nat → Nat → Nat) {i : Nat} (hi : 1 ≤ i) : va_up (lo_F e i) (i - 1) (some (e i 99)) = lo_F e (i + 1) := by
  funext j
  unfold va_up lo_F
  by_cases h : j = i - 1
  · subst h
    simp [show i - 1 + 1 = i by omega]
  · by_cases h2 : j + 1 < i
    · simp [h, h2, show j + 1 < i + 1 by omega]
    · simp [h, h2, show ¬ j + 1 < i + 1 by omega]
theorem lo_F9 (e : Nat → Nat → Nat) : va_up (lo_F e 10) 9 (some (e 0 99)) = fun j => some (rot10 e j 99) := by
  funext j
  unfold va_up lo_F rot10
  by_cases h : j = 9
  · simp [h]
  · by_cases h2 : j < 9
    · simp [h, h2, show j + 1 < 10 by omega]
    · simp [h, h2, show ¬ j + 1 < 10 by omega]
abbrev bNowF (E : GE) (a c : Nat → Nat) (F : Nat → Option Nat) (S : Ob) : va_W := [(a 99, .inr (0, [.ref (c 99), .ref (a 1), .int (S.1 2)])), (a 1, .inl (E.2.2 2, 10, .inr (.inr (.inr (.inr F)))))]
set_option maxHeartbeats 4000000 in
set_option maxRecDepth 100000 in
theorem c_X0_loseOldest (E : GE) (l : Launch) (a0 : Nat → Nat) (a1 : Nat → Nat) (e2 : Nat → Nat → Nat) (S0 : Ob) (S1 : Ob) (O2 : (Nat → Ob)) (post : Ob → Ob → (Nat → Ob) → Prop) (h : wp_X0_loseOldest S0 S1 O2 post) : Met l yX0_loseOldest (wz yX0_loseOldest cX0_loseOldest 3 none) { frames := 0, cells := 0, slots := 0, locals := 0 } (gPc E [.ref (a0 99)] (gW [bNow E a0 a1 e2 S0, bScene E a1 S1, bPool E e2 O2])) (gQv E (gW [bNow E a0 a1 e2 S0, bScene E a1 S1, bPool E e2 O2]) (fun (u : Ob × Ob × (Nat → Ob)) => post u.1 u.2.1 u.2.2) (fun (u : Ob × Ob × (Nat → Ob)) w => ∃ e : Nat → Nat → Nat, w = gW [bNow E a0 a1 e u.1, bScene E a1 u.2.1, bPool E e u.2.2])) 0 0 (gIn (gW [bNow E a0 a1 e2 S0, bScene E a1 S1, bPool E e2 O2])) := by
  unfold wp_X0_loseOldest at h
  refine g_of_v (by decide) (Nat.le_of_ble_eq_true rfl) ?_
  intro p e s m below meth c A Q hx hb hml hown ht hE hP hD hret ls hl
  have hK := hE.1
  have hS : va_S A s.heap s.heap [] := va_S.rf
  have hl : lv_has ls 3 [(0, .ref (a0 99))] := hl
  have mem : ∀ (F : Nat → Option Nat) (i : Nat), i < 10 → ∃ k : Nat, (gW [bNowF E a0 a1 F S0, bScene E a1 S1, bPool E e2 O2])[k]? = some (e2 i 99, (.inr (3, [.ref (e2 i 0), .ref (e2 i 1), .ref (e2 i 2), .ref (e2 i 3), .int ((O2 i).1 4)]) : va_E)) := by
    intro F i hi
    apply List.getElem?_of_mem
    have := pool_mem E e2 O2 hi
    simp only [gW, List.flatten_cons, List.flatten_nil, List.append_nil]
    exact List.mem_append_right _ (List.mem_append_right _ this)
  have L9 : ∀ (k i : Nat) (H : Heap) (locs : List Loc) (ls : Array Slot), i + k = 10 → 1 ≤ i → gP E (gW [bNowF E a0 a1 (lo_F e2 i) S0, bScene E a1 S1, bPool E e2 O2]) H → va_D A (gW [bNowF E a0 a1 (lo_F e2 i) S0, bScene E a1 S1, bPool E e2 O2]) → va_S A s.heap H locs → lv_has ls 3 [(0, .ref (a0 99)), (1, .ref (e2 0 99)), (2, .int (nI i))] → W p l e { frames := 0, cells := 0, slots := 0, locals := 0 } s m ([.ref (a0 99)] : List Value).toArray below meth c H locs 0 0 Q (F0 m 9 ls []) := by
    intro k
    induction k with
    | zero =>
      intro i H locs ls hi h1 hP hD hS hl
      have hi : i = 10 := by omega
      subst hi
      refine lv_iload_n hx hb dX0_loseOldest_9 rfl (lv_at hl 2 rfl) ?_
      refine lv_bipush (v := 10) hx hb dX0_loseOldest_10 (by decide) ?_
      refine lv_icmp_ge (tgt := 35) hx hb dX0_loseOldest_12 (by decide) (fun c1 => ?_) (fun c1 => ?_)
      · refine lv_aload_n hx hb dX0_loseOldest_35 rfl (lv_at hl 0 rfl) ?_
        refine va_get (D := (E.1, E.2.1)) (ci := 0) (v := .ref (a0 1)) (C := RX0) (T := TX0) (N := 3) hx hb ht wu_X0 hown hK hP 0 rfl rfl 1 (by decide) (ht _ wk_X0_18) (fun _ h9 => h9) rfl dX0_loseOldest_36 ?_
        refine lv_bipush (v := 9) hx hb dX0_loseOldest_39 (by decide) ?_
        refine lv_aload_n hx hb dX0_loseOldest_41 rfl (lv_at hl 1 rfl) ?_
        obtain ⟨qk, hqk⟩ := mem (lo_F e2 10) 0 (by decide)
        refine va_astq hx hb hK hP hD hS 1 2 qk 3 (r := (RX3, TX3, 5)) rfl rfl hqk rfl (by unfold vp_in; decide) dX0_loseOldest_42 (fun H locs hP hD hS => ?_)
        have hP : gP E (gW [bNowF E a0 a1 (va_up (lo_F e2 10) 9 (some (e2 0 99))) S0, bScene E a1 S1, bPool E e2 O2]) H := hP
        have hD : va_D A (gW [bNowF E a0 a1 (va_up (lo_F e2 10) 9 (some (e2 0 99))) S0, bScene E a1 S1, bPool E e2 O2]) := hD
        rw [lo_F9] at hP hD
        refine lv_aload_n hx hb dX0_loseOldest_43 rfl (lv_at hl 0 rfl) ?_
        refine lv_bipush (v := 9) hx hb dX0_loseOldest_44 (by decide) ?_
        refine va_put (D := (E.1, E.2.1)) (ci := 0) (v := .int 9) (ty := .int) (C := RX0) (T := TX0) (N := 3) hx hb ht wu_X0 tyX0 tyX0_ok nmX0 hown hK hP hD hS 0 rfl rfl 2 (by decide) (ht _ wk_X0_22) (fun _ h9 => h9) rfl (by decide +kernel) rfl rfl (Nat.le_of_ble_eq_true rfl) dX0_loseOldest_46 (fun H locs hP hD hS => ?_)
        have hP : gP E (gW [bNow E a0 a1 (rot10 e2) (pf S0 2 9), bScene E a1 S1, bPool E e2 O2]) H := hP
        have hD : va_D A (gW [bNow E a0 a1 (rot10 e2) (pf S0 2 9), bScene E a1 S1, bPool E e2 O2]) := hD
        have pr : (gW [bNow E a0 a1 (rot10 e2) (pf S0 2 9), bScene E a1 S1, bPool E e2 O2]).Perm (gW [bNow E a0 a1 (rot10 e2) (pf S0 2 9), bScene E a1 S1, bPool E (rot10 e2) (rot10 O2)]) := by
          simp only [gW, List.flatten_cons, List.flatten_nil, List.append_nil]
          exact List.Perm.append_left _ (List.Perm.append_left _ (pool_rot E e2 O2))
        exact hret ⟨pf S0 2 9, S1, rot10 O2⟩ _ _ _ _ _ h ⟨_, rfl⟩ (gP_perm pr hP) (gD_perm pr hD) hS dX0_loseOldest_49
      · exact absurd (by decide) c1
    | succ k ih =>
      intro i H locs ls hi h1 hP hD hS hl
      refine lv_iload_n hx hb dX0_loseOldest_9 rfl (lv_at hl 2 rfl) ?_
      refine lv_bipush (v := 10) hx hb dX0_loseOldest_10 (by decide) ?_
      refine lv_icmp_ge (tgt := 35) hx hb dX0_loseOldest_12 (by decide) (fun c1 => ?_) (fun c1 => ?_)
      · exact absurd c1 (nI_ge (b := 10) (by omega) (by decide))
      · refine lv_aload_n hx hb dX0_loseOldest_15 rfl (lv_at hl 0 rfl) ?_
        refine va_get (D := (E.1, E.2.1)) (ci := 0) (v := .ref (a0 1)) (C := RX0) (T := TX0) (N := 3) hx hb ht wu_X0 hown hK hP 0 rfl rfl 1 (by decide) (ht _ wk_X0_18) (fun _ h9 => h9) rfl dX0_loseOldest_16 ?_
        refine lv_iload_n hx hb dX0_loseOldest_19 rfl (lv_at hl 2 rfl) ?_
        refine lv_iconst (v := 1) hx hb dX0_loseOldest_20 (by decide) ?_
        refine lv_isub hx hb dX0_loseOldest_21 ?_
        refine lv_asi (x' := nI (i - 1)) (by have := nI_pred (i - 1); rw [show i - 1 + 1 = i by omega] at this; exact this) ?_
        refine lv_aload_n hx hb dX0_loseOldest_22 rfl (lv_at hl 0 rfl) ?_
        refine va_get (D := (E.1, E.2.1)) (ci := 0) (v := .ref (a0 1)) (C := RX0) (T := TX0) (N := 3) hx hb ht wu_X0 hown hK hP 0 rfl rfl 1 (by decide) (ht _ wk_X0_18) (fun _ h9 => h9) rfl dX0_loseOldest_23 ?_
        refine lv_iload_n hx hb dX0_loseOldest_26 rfl (lv_at hl 2 rfl) ?_
        refine va_aldq hx hb hK hP 1 2 rfl rfl (vp_in_nI (n := i) (by omega) (by decide)) dX0_loseOldest_27 ?_
        refine W.eq (g2 := F0 m 28 ls [.ref (e2 i 99), .int (nI (i - 1)), .ref (a0 1)]) (by rw [nI_clamp (show i < 2 ^ 31 by omega), lo_Fi]; rfl) ?_
        obtain ⟨qk, hqk⟩ := mem (lo_F e2 i) i (by omega)
        refine va_astq hx hb hK hP hD hS 1 2 qk 3 (r := (RX3, TX3, 5)) rfl rfl hqk rfl (vp_in_nI (n := i - 1) (by omega) (by decide)) dX0_loseOldest_28 (fun H locs hP hD hS => ?_)
        rw [nI_clamp (show i - 1 < 2 ^ 31 by omega), lo_Fs e2 h1] at hP hD
        refine lv_iinc (v := nI (i + 1)) (lv' := [(2, .int (nI (i + 1))), (0, .ref (a0 99)), (1, .ref (e2 0 99))]) hx hb dX0_loseOldest_29 hl (k := 2) rfl (nI_1 i) (by decide) rfl (fun ls hl => ?_)
        refine lv_goto (tgt := 9) hx hb dX0_loseOldest_32 (by decide) ?_
        exact ih (i + 1) _ _ _ (by omega) (by omega) hP hD hS (lv_sub hl [1, 2, 0] rfl)
  refine lv_aload_n hx hb dX0_loseOldest_0 rfl (lv_at hl 0 rfl) ?_
  refine va_get (D := (E.1, E.2.1)) (ci := 0) (v := .ref (a0 1)) (C := RX0) (T := TX0) (N := 3) hx hb ht wu_X0 hown hK hP 0 rfl rfl 1 (by decide) (ht _ wk_X0_18) (fun _ h9 => h9) rfl dX0_loseOldest_1 ?_
  refine lv_iconst (v := 0) hx hb dX0_loseOldest_4 (by decide) ?_
  refine va_aldq hx hb hK hP 1 2 rfl rfl (by unfold vp_in; decide) dX0_loseOldest_5 ?_
  refine W.eq (g2 := F0 m 6 ls [.ref (e2 0 99)]) rfl ?_
  refine lv_astore_n (lv' := [(1, .ref (e2 0 99)), (0, .ref (a0 99))]) hx hb dX0_loseOldest_6 rfl hl (by decide) rfl (fun ls hl => ?_)
  refine lv_iconst (v := 1) hx hb dX0_loseOldest_7 (by decide) ?_
  refine lv_istore_n (lv' := [(2, .int 1), (1, .ref (e2 0 99)), (0, .ref (a0 99))]) hx hb dX0_loseOldest_8 rfl hl (by decide) rfl (fun ls hl => ?_)
  refine L9 9 1 _ _ _ (by decide) (by decide) ?_ ?_ hS (lv_sub hl [2, 1, 0] rfl)
  · rw [lo_F1]; exact hP
  · rw [lo_F1]; exact hD
theorem dX0_begin_0 : decode cX0_begin 0 = .ok (.aload_n 0, 1) := by decide +kernel
theorem dX0_begin_1 : decode cX0_begin 1 = .ok (.getfield 12, 3) := by decide +kernel
theorem dX0_begin_4 : decode cX0_begin 4 = .ok (.aload_n 1, 1) := by decide +kernel
theorem dX0_begin_5 : decode cX0_begin 5 = .ok (.invokevirtual 26, 3) := by decide +kernel
theorem dX0_begin_8 : decode cX0_begin 8 = .ok (.aload_n 0, 1) := by decide +kernel
theorem dX0_begin_9 : decode cX0_begin 9 = .ok (.iconst 0, 1) := by decide +kernel
theorem dX0_begin_10 : decode cX0_begin 10 = .ok (.putfield 22, 3) := by decide +kernel
theorem dX0_begin_13 : decode cX0_begin 13 = .ok (.return_, 1) := by decide +kernel
set_option maxHeartbeats 4000000 in
set_option maxRecDepth 100000 in
theorem c_X0_begin (E : GE) (l : Launch) (a0 : Nat → Nat) (a1 : Nat → Nat) (a2 : Nat → Nat) (e3 : Nat → Nat → Nat) (S0 : Ob) (S1 : Ob) (S2 : Ob) (O3 : (Nat → Ob)) (post : Ob → Ob → Ob → (Nat → Ob) → Prop) (h : wp_X0_begin S0 S1 S2 O3 post) : Met l yX0_begin (wz yX0_begin cX0_begin 2 none) { frames := 1, cells := 0, slots := 0, locals := 22 } (gPc E [.ref (a0 99), .ref (a2 99)] (gW [bNow E a0 a1 e3 S0, bScene E a1 S1, bPlan E a2 S2, bPool E e3 O3])) (gQv E (gW [bNow E a0 a1 e3 S0, bScene E a1 S1, bPlan E a2 S2, bPool E e3 O3]) (fun (u : Ob × Ob × Ob × (Nat → Ob)) => post u.1 u.2.1 u.2.2.1 u.2.2.2) (fun (u : Ob × Ob × Ob × (Nat → Ob)) w => w = gW [bNow E a0 a1 e3 u.1, bScene E a1 u.2.1, bPlan E a2 u.2.2.1, bPool E e3 u.2.2.2])) 0 0 (gIn (gW [bNow E a0 a1 e3 S0, bScene E a1 S1, bPlan E a2 S2, bPool E e3 O3])) := by
  unfold wp_X0_begin at h
  refine g_of_v (by decide) (Nat.le_of_ble_eq_true rfl) ?_
  intro p e s m below meth c A Q hx hb hml hown ht hE hP hD hret ls hl
  have hK := hE.1
  have hS : va_S A s.heap s.heap [] := va_S.rf
  have hl : lv_has ls 2 [(0, .ref (a0 99)), (1, .ref (a2 99))] := hl
  refine lv_aload_n hx hb dX0_begin_0 rfl (lv_at hl 0 rfl) ?_
  refine va_get (D := (E.1, E.2.1)) (ci := 0) (v := .ref (a1 99)) (C := RX0) (T := TX0) (N := 3) hx hb ht wu_X0 hown hK hP 0 rfl rfl 0 (by decide) (ht _ wk_X0_12) (fun _ h9 => h9) rfl dX0_begin_1 ?_
  refine lv_aload_n hx hb dX0_begin_4 rfl (lv_at hl 1 rfl) ?_
  have p1 := gB (n := 4) (bs := [bNow E a0 a1 e3 S0, bScene E a1 S1, bPlan E a2 S2, bPool E e3 O3]) (bc := [bScene E a1 S1, bPlan E a2 S2]) (br := [bNow E a0 a1 e3 S0, bPool E e3 O3]) [1, 2, 0, 3] rfl rfl (by decide)
  refine g_v (g_runV (As := [.ref (a2 99)]) (rest := []) ⟨hx, hb, hml, hown, ht⟩ hE (c_X3_begin E l a1 a2 S1 S2 _ h) ⟨rfl, rfl⟩ wk_X0_26 wi_X3_begin ws_X3_begin wn_X3 wc_X3_begin yd_X3_begin ⟨Nat.le_of_ble_eq_true rfl, Nat.le_of_ble_eq_true rfl⟩ hP hD p1 (ci := 3) rfl rfl rfl rfl rfl hl.1 rfl (lv_room (Nat.le_of_ble_eq_true rfl)) dX0_begin_5 ⟨Nat.zero_le _, Nat.zero_le _⟩) hP hD hS p1 (fun u w H locs h hw hP hD hS => ?_)
  obtain ⟨S_1, S_2⟩ := u
  subst hw
  clear p1
  have p2 := gB (n := 4) (bs := [bNow E a0 a1 e3 S0, bScene E a1 S_1, bPlan E a2 S_2, bPool E e3 O3]) (bc := [bScene E a1 S_1, bPlan E a2 S_2]) (br := [bNow E a0 a1 e3 S0, bPool E e3 O3]) [1, 2, 0, 3] rfl rfl (by decide)
  have hP := gP_perm p2.symm hP
  have hD := gD_perm p2.symm hD
  clear p2
  refine lv_aload_n hx hb dX0_begin_8 rfl (lv_at hl 0 rfl) ?_
  refine lv_iconst (v := 0) hx hb dX0_begin_9 (by decide) ?_
  refine va_put (D := (E.1, E.2.1)) (ci := 0) (v := .int 0) (ty := .int) (C := RX0) (T := TX0) (N := 3) hx hb ht wu_X0 tyX0 tyX0_ok nmX0 hown hK hP hD hS 0 rfl rfl 2 (by decide) (ht _ wk_X0_22) (fun _ h9 => h9) rfl (by decide +kernel) rfl rfl (Nat.le_of_ble_eq_true rfl) dX0_begin_10 (fun H locs hP hD hS => ?_)
  have hP : gP E (gW [bNow E a0 a1 e3 (pf S0 2 0), bScene E a1 S_1, bPlan E a2 S_2, bPool E e3 O3]) H := hP
  have hD : va_D A (gW [bNow E a0 a1 e3 (pf S0 2 0), bScene E a1 S_1, bPlan E a2 S_2, bPool E e3 O3]) := hD
  exact hret ⟨(pf S0 2 0), S_1, S_2, O3⟩ _ _ _ _ _ h rfl hP hD hS dX0_begin_13
theorem dX0_copyFrom_0 : decode cX0_copyFrom 0 = .ok (.aload_n 0, 1) := by decide +kernel
theorem dX0_copyFrom_1 : decode cX0_copyFrom 1 = .ok (.getfield 12, 3) := by decide +kernel
theorem dX0_copyFrom_4 : decode cX0_copyFrom 4 = .ok (.aload_n 1, 1) := by decide +kernel
theorem dX0_copyFrom_5 : decode cX0_copyFrom 5 = .ok (.getfield 12, 3) := by decide +kernel
theorem dX0_copyFrom_8 : decode cX0_copyFrom 8 = .ok (.invokevirtual 30, 3) := by decide +kernel
theorem dX0_copyFrom_11 : decode cX0_copyFrom 11 = .ok (.aload_n 0, 1) := by decide +kernel
theorem dX0_copyFrom_12 : decode cX0_copyFrom 12 = .ok (.aload_n 1, 1) := by decide +kernel
theorem dX0_copyFrom_13 : decode cX0_copyFrom 13 = .ok (.getfield 22, 3) := by decide +kernel
theorem dX0_copyFrom_16 : decode cX0_copyFrom 16 = .ok (.putfield 22, 3) := by decide +kernel
theorem dX0_copyFrom_19 : decode cX0_copyFrom 19 = .ok (.iconst 0, 1) := by decide +kernel
theorem dX0_copyFrom_20 : decode cX0_copyFrom 20 = .ok (.istore_n 2, 1) := by decide +kernel
theorem dX0_copyFrom_21 : decode cX0_copyFrom 21 = .ok (.iload_n 2, 1) := by decide +kernel
theorem dX0_copyFrom_22 : decode cX0_copyFrom 22 = .ok (.aload_n 0, 1) := by decide +kernel
theorem dX0_copyFrom_23 : decode cX0_copyFrom 23 = .ok (.getfield 22, 3) := by decide +kernel
theorem dX0_copyFrom_26 : decode cX0_copyFrom 26 = .ok (.if_icmp .ge 30, 3) := by decide +kernel
theorem dX0_copyFrom_29 : decode cX0_copyFrom 29 = .ok (.iload_n 2, 1) := by decide +kernel
theorem dX0_copyFrom_30 : decode cX0_copyFrom 30 = .ok (.bipush 10, 2) := by decide +kernel
theorem dX0_copyFrom_32 : decode cX0_copyFrom 32 = .ok (.if_icmp .ge 24, 3) := by decide +kernel
theorem dX0_copyFrom_35 : decode cX0_copyFrom 35 = .ok (.aload_n 0, 1) := by decide +kernel
theorem dX0_copyFrom_36 : decode cX0_copyFrom 36 = .ok (.getfield 18, 3) := by decide +kernel
theorem dX0_copyFrom_39 : decode cX0_copyFrom 39 = .ok (.iload_n 2, 1) := by decide +kernel
theorem dX0_copyFrom_40 : decode cX0_copyFrom 40 = .ok (.aaload, 1) := by decide +kernel
theorem dX0_copyFrom_41 : decode cX0_copyFrom 41 = .ok (.aload_n 1, 1) := by decide +kernel
theorem dX0_copyFrom_42 : decode cX0_copyFrom 42 = .ok (.getfield 18, 3) := by decide +kernel
theorem dX0_copyFrom_45 : decode cX0_copyFrom 45 = .ok (.iload_n 2, 1) := by decide +kernel
theorem dX0_copyFrom_46 : decode cX0_copyFrom 46 = .ok (.aaload, 1) := by decide +kernel
theorem dX0_copyFrom_47 : decode cX0_copyFrom 47 = .ok (.invokevirtual 30, 3) := by decide +kernel
theorem dX0_copyFrom_50 : decode cX0_copyFrom 50 = .ok (.iinc 2 1, 3) := by decide +kernel
theorem dX0_copyFrom_53 : decode cX0_copyFrom 53 = .ok (.goto (-32), 3) := by decide +kernel
theorem dX0_copyFrom_56 : decode cX0_copyFrom 56 = .ok (.return_, 1) := by decide +kernel
set_option maxHeartbeats 4000000 in
set_option maxRecDepth 100000 in
theorem c_X0_copyFrom (E : GE) (l : Launch) (a0 : Nat → Nat) (a1 : Nat → Nat) (a2 : Nat → Nat) (a3 : Nat → Nat) (e4 : Nat → Nat → Nat) (e5 : Nat → Nat → Nat) (S0 : Ob) (S1 : Ob) (S2 : Ob) (S3 : Ob) (O4 : (Nat → Ob)) (O5 : (Nat → Ob)) (post : Ob → Ob → Ob → Ob → (Nat → Ob) → (Nat → Ob) → Prop) (h : wp_X0_copyFrom S0 S1 S2 S3 O4 O5 post) : Met l yX0_copyFrom (wz yX0_copyFrom cX0_copyFrom 3 none) { frames := 2, cells := 0, slots := 0, locals := 61 } (gPc E [.ref (a0 99), .ref (a2 99)] (gW [bNow E a0 a1 e4 S0, bScene E a1 S1, bNow E a2 a3 e5 S2, bScene E a3 S3, bPool E e4 O4, bPool E e5 O5])) (gQv E (gW [bNow E a0 a1 e4 S0, bScene E a1 S1, bNow E a2 a3 e5 S2, bScene E a3 S3, bPool E e4 O4, bPool E e5 O5]) (fun (u : Ob × Ob × Ob × Ob × (Nat → Ob) × (Nat → Ob)) => post u.1 u.2.1 u.2.2.1 u.2.2.2.1 u.2.2.2.2.1 u.2.2.2.2.2) (fun (u : Ob × Ob × Ob × Ob × (Nat → Ob) × (Nat → Ob)) w => w = gW [bNow E a0 a1 e4 u.1, bScene E a1 u.2.1, bNow E a2 a3 e5 u.2.2.1, bScene E a3 u.2.2.2.1, bPool E e4 u.2.2.2.2.1, bPool E e5 u.2.2.2.2.2])) 0 0 (gIn (gW [bNow E a0 a1 e4 S0, bScene E a1 S1, bNow E a2 a3 e5 S2, bScene E a3 S3, bPool E e4 O4, bPool E e5 O5])) := by
  unfold wp_X0_copyFrom at h
  refine g_of_v (by decide) (Nat.le_of_ble_eq_true rfl) ?_
  intro p e s m below meth c A Q hx hb hml hown ht hE hP hD hret ls hl
  have hK := hE.1
  have hS : va_S A s.heap s.heap [] := va_S.rf
  have hl : lv_has ls 3 [(0, .ref (a0 99)), (1, .ref (a2 99))] := hl
  refine lv_aload_n hx hb dX0_copyFrom_0 rfl (lv_at hl 0 rfl) ?_
  refine va_get (D := (E.1, E.2.1)) (ci := 0) (v := .ref (a1 99)) (C := RX0) (T := TX0) (N := 3) hx hb ht wu_X0 hown hK hP 0 rfl rfl 0 (by decide) (ht _ wk_X0_12) (fun _ h9 => h9) rfl dX0_copyFrom_1 ?_
  refine lv_aload_n hx hb dX0_copyFrom_4 rfl (lv_at hl 1 rfl) ?_
  refine va_get (D := (E.1, E.2.1)) (ci := 0) (v := .ref (a3 99)) (C := RX0) (T := TX0) (N := 3) hx hb ht wu_X0 hown hK hP 7 rfl rfl 0 (by decide) (ht _ wk_X0_12) (fun _ h9 => h9) rfl dX0_copyFrom_5 ?_
  have p1 := gB (n := 6) (bs := [bNow E a0 a1 e4 S0, bScene E a1 S1, bNow E a2 a3 e5 S2, bScene E a3 S3, bPool E e4 O4, bPool E e5 O5]) (bc := [bScene E a1 S1, bScene E a3 S3]) (br := [bNow E a0 a1 e4 S0, bNow E a2 a3 e5 S2, bPool E e4 O4, bPool E e5 O5]) [1, 3, 0, 2, 4, 5] rfl rfl (by decide)
  refine g_v (g_runV (As := [.ref (a3 99)]) (rest := []) ⟨hx, hb, hml, hown, ht⟩ hE (c_X3_copyFrom E l a1 a3 S1 S3 _ h) ⟨rfl, rfl⟩ wk_X0_30 wi_X3_copyFrom ws_X3_copyFrom wn_X3 wc_X3_copyFrom yd_X3_copyFrom ⟨Nat.le_of_ble_eq_true rfl, Nat.le_of_ble_eq_true rfl⟩ hP hD p1 (ci := 3) rfl rfl rfl rfl rfl hl.1 rfl (lv_room (Nat.le_of_ble_eq_true rfl)) dX0_copyFrom_8 ⟨Nat.zero_le _, Nat.zero_le _⟩) hP hD hS p1 (fun u w H locs h hw hP hD hS => ?_)
  obtain ⟨S_1, S_2⟩ := u
  subst hw
  clear p1
  have p2 := gB (n := 6) (bs := [bNow E a0 a1 e4 S0, bScene E a1 S_1, bNow E a2 a3 e5 S2, bScene E a3 S_2, bPool E e4 O4, bPool E e5 O5]) (bc := [bScene E a1 S_1, bScene E a3 S_2]) (br := [bNow E a0 a1 e4 S0, bNow E a2 a3 e5 S2, bPool E e4 O4, bPool E e5 O5]) [1, 3, 0, 2, 4, 5] rfl rfl (by decide)
  have hP := gP_perm p2.symm hP
  have hD := gD_perm p2.symm hD
  clear p2
  refine lv_aload_n hx hb dX0_copyFrom_11 rfl (lv_at hl 0 rfl) ?_
  refine lv_aload_n hx hb dX0_copyFrom_12 rfl (lv_at hl 1 rfl) ?_
  refine va_get (D := (E.1, E.2.1)) (ci := 0) (v := .int (S2.1 2)) (C := RX0) (T := TX0) (N := 3) hx hb ht wu_X0 hown hK hP 7 rfl rfl 2 (by decide) (ht _ wk_X0_22) (fun _ h9 => h9) rfl dX0_copyFrom_13 ?_
  refine va_put (D := (E.1, E.2.1)) (ci := 0) (v := .int (S2.1 2)) (ty := .int) (C := RX0) (T := TX0) (N := 3) hx hb ht wu_X0 tyX0 tyX0_ok nmX0 hown hK hP hD hS 0 rfl rfl 2 (by decide) (ht _ wk_X0_22) (fun _ h9 => h9) rfl (by decide +kernel) rfl rfl (Nat.le_of_ble_eq_true rfl) dX0_copyFrom_16 (fun H locs hP hD hS => ?_)
  have hP : gP E (gW [bNow E a0 a1 e4 (pf S0 2 (S2.1 2)), bScene E a1 S_1, bNow E a2 a3 e5 S2, bScene E a3 S_2, bPool E e4 O4, bPool E e5 O5]) H := hP
  have hD : va_D A (gW [bNow E a0 a1 e4 (pf S0 2 (S2.1 2)), bScene E a1 S_1, bNow E a2 a3 e5 S2, bScene E a3 S_2, bPool E e4 O4, bPool E e5 O5]) := hD
  refine lv_iconst (v := 0) hx hb dX0_copyFrom_19 (by decide) ?_
  refine lv_istore_n (lv' := [(2, .int 0), (0, .ref (a0 99)), (1, .ref (a2 99))]) hx hb dX0_copyFrom_20 rfl hl (by decide) rfl (fun ls hl => ?_)
  have L21 : ∀ (n21 : Nat) (x2_21 : Int32) (S0_21 : Ob) (S1_21 : Ob) (S2_21 : Ob) (S3_21 : Ob) (O4_21 : (Nat → Ob)) (O5_21 : (Nat → Ob)) (H : Heap) (locs : List Loc) (ls : Array Slot), wp_X0_copyFrom_L21 post n21 x2_21 S0_21 S1_21 S2_21 S3_21 O4_21 O5_21 → gP E (gW [bNow E a0 a1 e4 S0_21, bScene E a1 S1_21, bNow E a2 a3 e5 S2_21, bScene E a3 S3_21, bPool E e4 O4_21, bPool E e5 O5_21]) H → va_D A (gW [bNow E a0 a1 e4 S0_21, bScene E a1 S1_21, bNow E a2 a3 e5 S2_21, bScene E a3 S3_21, bPool E e4 O4_21, bPool E e5 O5_21]) → va_S A s.heap H locs → lv_has ls 3 [(0, .ref (a0 99)), (1, .ref (a2 99)), (2, .int x2_21)] → W p l e { frames := 2, cells := 0, slots := 0, locals := 61 } s m ([.ref (a0 99), .ref (a2 99)] : List Value).toArray below meth c H locs 0 0 Q (F0 m 21 ls []) := by
    intro n21
    induction n21 with
    | zero => intro x2_21 S0_21 S1_21 S2_21 S3_21 O4_21 O5_21 H locs ls h; exact h.elim
    | succ n21 ih21 =>
      intro x2_21 S0_21 S1_21 S2_21 S3_21 O4_21 O5_21 H locs ls h hP hD hS hl
      rw [wp_X0_copyFrom_L21] at h
      refine lv_iload_n hx hb dX0_copyFrom_21 rfl (lv_at hl 2 rfl) ?_
      refine lv_aload_n hx hb dX0_copyFrom_22 rfl (lv_at hl 0 rfl) ?_
      refine va_get (D := (E.1, E.2.1)) (ci := 0) (v := .int (S0_21.1 2)) (C := RX0) (T := TX0) (N := 3) hx hb ht wu_X0 hown hK hP 0 rfl rfl 2 (by decide) (ht _ wk_X0_22) (fun _ h9 => h9) rfl dX0_copyFrom_23 ?_
      refine lv_icmp_ge (tgt := 56) hx hb dX0_copyFrom_26 (by decide) (fun c_9 => ?_) (fun c_9 => ?_)
      · have h := h.1 c_9
        exact hret ⟨S0_21, S1_21, S2_21, S3_21, O4_21, O5_21⟩ _ _ _ _ _ h rfl hP hD hS dX0_copyFrom_56
      · have h := h.2 c_9
        refine lv_iload_n hx hb dX0_copyFrom_29 rfl (lv_at hl 2 rfl) ?_
        refine lv_bipush (v := 10) hx hb dX0_copyFrom_30 (by decide) ?_
        refine lv_icmp_ge (tgt := 56) hx hb dX0_copyFrom_32 (by decide) (fun c_10 => ?_) (fun c_10 => ?_)
        · have h := h.1 c_10
          exact hret ⟨S0_21, S1_21, S2_21, S3_21, O4_21, O5_21⟩ _ _ _ _ _ h rfl hP hD hS dX0_copyFrom_56
        · have h := h.2 c_10
          refine lv_aload_n hx hb dX0_copyFrom_35 rfl (lv_at hl 0 rfl) ?_
          refine va_get (D := (E.1, E.2.1)) (ci := 0) (v := .ref (a0 1)) (C := RX0) (T := TX0) (N := 3) hx hb ht wu_X0 hown hK hP 0 rfl rfl 1 (by decide) (ht _ wk_X0_18) (fun _ h9 => h9) rfl dX0_copyFrom_36 ?_
          refine lv_iload_n hx hb dX0_copyFrom_39 rfl (lv_at hl 2 rfl) ?_
          have hi_11 : vp_in x2_21 10 := h.1
          have h := h.2
          refine va_aldq hx hb hK hP 1 2 rfl rfl hi_11 dX0_copyFrom_40 ?_
          refine W.eq (g2 := F0 m 41 ls [.ref (e4 (x2_21.toNatClampNeg) 99)]) rfl ?_
          refine lv_aload_n hx hb dX0_copyFrom_41 rfl (lv_at hl 1 rfl) ?_
          refine va_get (D := (E.1, E.2.1)) (ci := 0) (v := .ref (a2 1)) (C := RX0) (T := TX0) (N := 3) hx hb ht wu_X0 hown hK hP 7 rfl rfl 1 (by decide) (ht _ wk_X0_18) (fun _ h9 => h9) rfl dX0_copyFrom_42 ?_
          refine lv_iload_n hx hb dX0_copyFrom_45 rfl (lv_at hl 2 rfl) ?_
          have hi_12 : vp_in x2_21 10 := h.1
          have h := h.2
          refine va_aldq hx hb hK hP 8 2 rfl rfl hi_12 dX0_copyFrom_46 ?_
          refine W.eq (g2 := F0 m 47 ls [.ref (e5 (x2_21.toNatClampNeg) 99), .ref (e4 (x2_21.toNatClampNeg) 99)]) rfl ?_
          have p0 := gW_sub (bs := [bNow E a0 a1 e4 S0_21, bScene E a1 S1_21, bNow E a2 a3 e5 S2_21, bScene E a3 S3_21, bPool E e4 O4_21, bPool E e5 O5_21]) 4 rfl (pool_split E e4 O4_21 (vp_lt hi_11))
          have hP : gP E (gW [bNow E a0 a1 e4 S0_21, bScene E a1 S1_21, bNow E a2 a3 e5 S2_21, bScene E a3 S3_21, bScene E (e4 (x2_21.toNatClampNeg)) (O4_21 (x2_21.toNatClampNeg)), bPool E e5 O5_21, bPoolR E e4 O4_21 (x2_21.toNatClampNeg)]) _ := gP_perm p0 hP
          have hD : va_D A (gW [bNow E a0 a1 e4 S0_21, bScene E a1 S1_21, bNow E a2 a3 e5 S2_21, bScene E a3 S3_21, bScene E (e4 (x2_21.toNatClampNeg)) (O4_21 (x2_21.toNatClampNeg)), bPool E e5 O5_21, bPoolR E e4 O4_21 (x2_21.toNatClampNeg)]) := gD_perm p0 hD
          clear p0
          have p0 := gW_sub (bs := [bNow E a0 a1 e4 S0_21, bScene E a1 S1_21, bNow E a2 a3 e5 S2_21, bScene E a3 S3_21, bScene E (e4 (x2_21.toNatClampNeg)) (O4_21 (x2_21.toNatClampNeg)), bPool E e5 O5_21, bPoolR E e4 O4_21 (x2_21.toNatClampNeg)]) 5 rfl (pool_split E e5 O5_21 (vp_lt hi_12))
          have hP : gP E (gW [bNow E a0 a1 e4 S0_21, bScene E a1 S1_21, bNow E a2 a3 e5 S2_21, bScene E a3 S3_21, bScene E (e4 (x2_21.toNatClampNeg)) (O4_21 (x2_21.toNatClampNeg)), bScene E (e5 (x2_21.toNatClampNeg)) (O5_21 (x2_21.toNatClampNeg)), bPoolR E e4 O4_21 (x2_21.toNatClampNeg), bPoolR E e5 O5_21 (x2_21.toNatClampNeg)]) _ := gP_perm p0 hP
          have hD : va_D A (gW [bNow E a0 a1 e4 S0_21, bScene E a1 S1_21, bNow E a2 a3 e5 S2_21, bScene E a3 S3_21, bScene E (e4 (x2_21.toNatClampNeg)) (O4_21 (x2_21.toNatClampNeg)), bScene E (e5 (x2_21.toNatClampNeg)) (O5_21 (x2_21.toNatClampNeg)), bPoolR E e4 O4_21 (x2_21.toNatClampNeg), bPoolR E e5 O5_21 (x2_21.toNatClampNeg)]) := gD_perm p0 hD
          clear p0
          have p1 := gB (n := 8) (bs := [bNow E a0 a1 e4 S0_21, bScene E a1 S1_21, bNow E a2 a3 e5 S2_21, bScene E a3 S3_21, bScene E (e4 (x2_21.toNatClampNeg)) (O4_21 (x2_21.toNatClampNeg)), bScene E (e5 (x2_21.toNatClampNeg)) (O5_21 (x2_21.toNatClampNeg)), bPoolR E e4 O4_21 (x2_21.toNatClampNeg), bPoolR E e5 O5_21 (x2_21.toNatClampNeg)]) (bc := [bScene E (e4 (x2_21.toNatClampNeg)) (O4_21 (x2_21.toNatClampNeg)), bScene E (e5 (x2_21.toNatClampNeg)) (O5_21 (x2_21.toNatClampNeg))]) (br := [bNow E a0 a1 e4 S0_21, bScene E a1 S1_21, bNow E a2 a3 e5 S2_21, bScene E a3 S3_21, bPoolR E e4 O4_21 (x2_21.toNatClampNeg), bPoolR E e5 O5_21 (x2_21.toNatClampNeg)]) [4, 5, 0, 1, 2, 3, 6, 7] rfl rfl (by decide)
          refine g_v (g_runV (As := [.ref (e5 (x2_21.toNatClampNeg) 99)]) (rest := []) ⟨hx, hb, hml, hown, ht⟩ hE (c_X3_copyFrom E l (e4 (x2_21.toNatClampNeg)) (e5 (x2_21.toNatClampNeg)) (O4_21 (x2_21.toNatClampNeg)) (O5_21 (x2_21.toNatClampNeg)) _ h) ⟨rfl, rfl⟩ wk_X0_30 wi_X3_copyFrom ws_X3_copyFrom wn_X3 wc_X3_copyFrom yd_X3_copyFrom ⟨Nat.le_of_ble_eq_true rfl, Nat.le_of_ble_eq_true rfl⟩ hP hD p1 (ci := 3) rfl rfl rfl rfl rfl hl.1 rfl (lv_room (Nat.le_of_ble_eq_true rfl)) dX0_copyFrom_47 ⟨Nat.zero_le _, Nat.zero_le _⟩) hP hD hS p1 (fun u w H locs h hw hP hD hS => ?_)
          obtain ⟨S_13, S_14⟩ := u
          subst hw
          clear p1
          have p2 := gB (n := 8) (bs := [bNow E a0 a1 e4 S0_21, bScene E a1 S1_21, bNow E a2 a3 e5 S2_21, bScene E a3 S3_21, bScene E (e4 (x2_21.toNatClampNeg)) S_13, bScene E (e5 (x2_21.toNatClampNeg)) S_14, bPoolR E e4 O4_21 (x2_21.toNatClampNeg), bPoolR E e5 O5_21 (x2_21.toNatClampNeg)]) (bc := [bScene E (e4 (x2_21.toNatClampNeg)) S_13, bScene E (e5 (x2_21.toNatClampNeg)) S_14]) (br := [bNow E a0 a1 e4 S0_21, bScene E a1 S1_21, bNow E a2 a3 e5 S2_21, bScene E a3 S3_21, bPoolR E e4 O4_21 (x2_21.toNatClampNeg), bPoolR E e5 O5_21 (x2_21.toNatClampNeg)]) [4, 5, 0, 1, 2, 3, 6, 7] rfl rfl (by decide)
          have hP := gP_perm p2.symm hP
          have hD := gD_perm p2.symm hD
          clear p2
          have p0 := gW_sub (bs := [bNow E a0 a1 e4 S0_21, bScene E a1 S1_21, bNow E a2 a3 e5 S2_21, bScene E a3 S3_21, bScene E (e4 (x2_21.toNatClampNeg)) S_13, bPool E e5 (po O5_21 (x2_21.toNatClampNeg) S_14), bPoolR E e4 O4_21 (x2_21.toNatClampNeg)]) 5 rfl (pool_back E e5 O5_21 (t := x2_21.toNatClampNeg) S_14 (vp_lt hi_12))
          have hP : gP E (gW [bNow E a0 a1 e4 S0_21, bScene E a1 S1_21, bNow E a2 a3 e5 S2_21, bScene E a3 S3_21, bScene E (e4 (x2_21.toNatClampNeg)) S_13, bPool E e5 (po O5_21 (x2_21.toNatClampNeg) S_14), bPoolR E e4 O4_21 (x2_21.toNatClampNeg)]) _ := gP_perm p0.symm hP
          have hD : va_D A (gW [bNow E a0 a1 e4 S0_21, bScene E a1 S1_21, bNow E a2 a3 e5 S2_21, bScene E a3 S3_21, bScene E (e4 (x2_21.toNatClampNeg)) S_13, bPool E e5 (po O5_21 (x2_21.toNatClampNeg) S_14), bPoolR E e4 O4_21 (x2_21.toNatClampNeg)]) := gD_perm p0.symm hD
          clear p0
          have p0 := gW_sub (bs := [bNow E a0 a1 e4 S0_21, bScene E a1 S1_21, bNow E a2 a3 e5 S2_21, bScene E a3 S3_21, bPool E e4 (po O4_21 (x2_21.toNatClampNeg) S_13), bPool E e5 (po O5_21 (x2_21.toNatClampNeg) S_14)]) 4 rfl (pool_back E e4 O4_21 (t := x2_21.toNatClampNeg) S_13 (vp_lt hi_11))
          have hP : gP E (gW [bNow E a0 a1 e4 S0_21, bScene E a1 S1_21, bNow E a2 a3 e5 S2_21, bScene E a3 S3_21, bPool E e4 (po O4_21 (x2_21.toNatClampNeg) S_13), bPool E e5 (po O5_21 (x2_21.toNatClampNeg) S_14)]) _ := gP_perm p0.symm hP
          have hD : va_D A (gW [bNow E a0 a1 e4 S0_21, bScene E a1 S1_21, bNow E a2 a3 e5 S2_21, bScene E a3 S3_21, bPool E e4 (po O4_21 (x2_21.toNatClampNeg) S_13), bPool E e5 (po O5_21 (x2_21.toNatClampNeg) S_14)]) := gD_perm p0.symm hD
          clear p0
          refine lv_iinc (v := (x2_21 + 1)) (lv' := [(2, .int (x2_21 + 1)), (0, .ref (a0 99)), (1, .ref (a2 99))]) hx hb dX0_copyFrom_50 hl (k := 2) rfl rfl (by decide) rfl (fun ls hl => ?_)
          refine lv_goto (tgt := 21) hx hb dX0_copyFrom_53 (by decide) ?_
          exact ih21 (x2_21 + 1) S0_21 S1_21 S2_21 S3_21 (po O4_21 (x2_21.toNatClampNeg) S_13) (po O5_21 (x2_21.toNatClampNeg) S_14) _ _ _ h hP hD hS (lv_sub hl [1, 2, 0] rfl)
  obtain ⟨n21, h⟩ := h
  exact L21 n21 0 (pf S0 2 (S2.1 2)) S_1 S2 S_2 O4 O5 _ _ _ h hP hD hS (lv_sub hl [1, 2, 0] rfl)
theorem dX0_remember_0 : decode cX0_remember 0 = .ok (.aload_n 0, 1) := by decide +kernel
theorem dX0_remember_1 : decode cX0_remember 1 = .ok (.getfield 22, 3) := by decide +kernel
theorem dX0_remember_4 : decode cX0_remember 4 = .ok (.bipush 10, 2) := by decide +kernel
theorem dX0_remember_6 : decode cX0_remember 6 = .ok (.if_icmp .lt 7, 3) := by decide +kernel
theorem dX0_remember_9 : decode cX0_remember 9 = .ok (.aload_n 0, 1) := by decide +kernel
theorem dX0_remember_10 : decode cX0_remember 10 = .ok (.invokevirtual 34, 3) := by decide +kernel
theorem dX0_remember_13 : decode cX0_remember 13 = .ok (.aload_n 0, 1) := by decide +kernel
theorem dX0_remember_14 : decode cX0_remember 14 = .ok (.getfield 18, 3) := by decide +kernel
theorem dX0_remember_17 : decode cX0_remember 17 = .ok (.aload_n 0, 1) := by decide +kernel
theorem dX0_remember_18 : decode cX0_remember 18 = .ok (.getfield 22, 3) := by decide +kernel
theorem dX0_remember_21 : decode cX0_remember 21 = .ok (.aaload, 1) := by decide +kernel
theorem dX0_remember_22 : decode cX0_remember 22 = .ok (.aload_n 0, 1) := by decide +kernel
theorem dX0_remember_23 : decode cX0_remember 23 = .ok (.getfield 12, 3) := by decide +kernel
theorem dX0_remember_26 : decode cX0_remember 26 = .ok (.invokevirtual 30, 3) := by decide +kernel
theorem dX0_remember_29 : decode cX0_remember 29 = .ok (.aload_n 0, 1) := by decide +kernel
theorem dX0_remember_30 : decode cX0_remember 30 = .ok (.dup, 1) := by decide +kernel
theorem dX0_remember_31 : decode cX0_remember 31 = .ok (.getfield 22, 3) := by decide +kernel
theorem dX0_remember_34 : decode cX0_remember 34 = .ok (.iconst 1, 1) := by decide +kernel
theorem dX0_remember_35 : decode cX0_remember 35 = .ok (.iadd, 1) := by decide +kernel
theorem dX0_remember_36 : decode cX0_remember 36 = .ok (.putfield 22, 3) := by decide +kernel
theorem dX0_remember_39 : decode cX0_remember 39 = .ok (.return_, 1) := by decide +kernel
set_option maxHeartbeats 4000000 in
set_option maxRecDepth 100000 in
theorem c_X0_remember (E : GE) (l : Launch) (a0 : Nat → Nat) (a1 : Nat → Nat) (e2 : Nat → Nat → Nat) (S0 : Ob) (S1 : Ob) (O2 : (Nat → Ob)) (post : Ob → Ob → (Nat → Ob) → Prop) (h : wp_X0_remember S0 S1 O2 post) : Met l yX0_remember (wz yX0_remember cX0_remember 1 none) { frames := 2, cells := 0, slots := 0, locals := 61 } (gPc E [.ref (a0 99)] (gW [bNow E a0 a1 e2 S0, bScene E a1 S1, bPool E e2 O2])) (gQv E (gW [bNow E a0 a1 e2 S0, bScene E a1 S1, bPool E e2 O2]) (fun (u : Ob × Ob × (Nat → Ob)) => post u.1 u.2.1 u.2.2) (fun (u : Ob × Ob × (Nat → Ob)) w => ∃ e : Nat → Nat → Nat, w = gW [bNow E a0 a1 e u.1, bScene E a1 u.2.1, bPool E e u.2.2])) 0 0 (gIn (gW [bNow E a0 a1 e2 S0, bScene E a1 S1, bPool E e2 O2])) := by
  unfold wp_X0_remember at h
  refine g_of_v (by decide) (Nat.le_of_ble_eq_true rfl) ?_
  intro p e s m below meth c A Q hx hb hml hown ht hE hP hD hret ls hl
  have hK := hE.1
  have hS : va_S A s.heap s.heap [] := va_S.rf
  have hl : lv_has ls 1 [(0, .ref (a0 99))] := hl
  refine lv_aload_n hx hb dX0_remember_0 rfl (lv_at hl 0 rfl) ?_
  refine va_get (D := (E.1, E.2.1)) (ci := 0) (v := .int (S0.1 2)) (C := RX0) (T := TX0) (N := 3) hx hb ht wu_X0 hown hK hP 0 rfl rfl 2 (by decide) (ht _ wk_X0_22) (fun _ h9 => h9) rfl dX0_remember_1 ?_
  refine lv_bipush (v := 10) hx hb dX0_remember_4 (by decide) ?_
  refine lv_icmp_lt (tgt := 13) hx hb dX0_remember_6 (by decide) (fun c_1 => ?_) (fun c_1 => ?_)
  · have h := h.1 c_1
    refine lv_aload_n hx hb dX0_remember_13 rfl (lv_at hl 0 rfl) ?_
    refine va_get (D := (E.1, E.2.1)) (ci := 0) (v := .ref (a0 1)) (C := RX0) (T := TX0) (N := 3) hx hb ht wu_X0 hown hK hP 0 rfl rfl 1 (by decide) (ht _ wk_X0_18) (fun _ h9 => h9) rfl dX0_remember_14 ?_
    refine lv_aload_n hx hb dX0_remember_17 rfl (lv_at hl 0 rfl) ?_
    refine va_get (D := (E.1, E.2.1)) (ci := 0) (v := .int (S0.1 2)) (C := RX0) (T := TX0) (N := 3) hx hb ht wu_X0 hown hK hP 0 rfl rfl 2 (by decide) (ht _ wk_X0_22) (fun _ h9 => h9) rfl dX0_remember_18 ?_
    have hi_2 : vp_in (S0.1 2) 10 := h.1
    have h := h.2
    refine va_aldq hx hb hK hP 1 2 rfl rfl hi_2 dX0_remember_21 ?_
    refine W.eq (g2 := F0 m 22 ls [.ref (e2 ((S0.1 2).toNatClampNeg) 99)]) rfl ?_
    refine lv_aload_n hx hb dX0_remember_22 rfl (lv_at hl 0 rfl) ?_
    refine va_get (D := (E.1, E.2.1)) (ci := 0) (v := .ref (a1 99)) (C := RX0) (T := TX0) (N := 3) hx hb ht wu_X0 hown hK hP 0 rfl rfl 0 (by decide) (ht _ wk_X0_12) (fun _ h9 => h9) rfl dX0_remember_23 ?_
    have p0 := gW_sub (bs := [bNow E a0 a1 e2 S0, bScene E a1 S1, bPool E e2 O2]) 2 rfl (pool_split E e2 O2 (vp_lt hi_2))
    have hP : gP E (gW [bNow E a0 a1 e2 S0, bScene E a1 S1, bScene E (e2 ((S0.1 2).toNatClampNeg)) (O2 ((S0.1 2).toNatClampNeg)), bPoolR E e2 O2 ((S0.1 2).toNatClampNeg)]) _ := gP_perm p0 hP
    have hD : va_D A (gW [bNow E a0 a1 e2 S0, bScene E a1 S1, bScene E (e2 ((S0.1 2).toNatClampNeg)) (O2 ((S0.1 2).toNatClampNeg)), bPoolR E e2 O2 ((S0.1 2).toNatClampNeg)]) := gD_perm p0 hD
    clear p0
    have p1 := gB (n := 4) (bs := [bNow E a0 a1 e2 S0, bScene E a1 S1, bScene E (e2 ((S0.1 2).toNatClampNeg)) (O2 ((S0.1 2).toNatClampNeg)), bPoolR E e2 O2 ((S0.1 2).toNatClampNeg)]) (bc := [bScene E (e2 ((S0.1 2).toNatClampNeg)) (O2 ((S0.1 2).toNatClampNeg)), bScene E a1 S1]) (br := [bNow E a0 a1 e2 S0, bPoolR E e2 O2 ((S0.1 2).toNatClampNeg)]) [2, 1, 0, 3] rfl rfl (by decide)
    refine g_v (g_runV (As := [.ref (a1 99)]) (rest := []) ⟨hx, hb, hml, hown, ht⟩ hE (c_X3_copyFrom E l (e2 ((S0.1 2).toNatClampNeg)) a1 (O2 ((S0.1 2).toNatClampNeg)) S1 _ h) ⟨rfl, rfl⟩ wk_X0_30 wi_X3_copyFrom ws_X3_copyFrom wn_X3 wc_X3_copyFrom yd_X3_copyFrom ⟨Nat.le_of_ble_eq_true rfl, Nat.le_of_ble_eq_true rfl⟩ hP hD p1 (ci := 3) rfl rfl rfl rfl rfl hl.1 rfl (lv_room (Nat.le_of_ble_eq_true rfl)) dX0_remember_26 ⟨Nat.zero_le _, Nat.zero_le _⟩) hP hD hS p1 (fun u w H locs h hw hP hD hS => ?_)
    obtain ⟨S_3, S_4⟩ := u
    subst hw
    clear p1
    have p2 := gB (n := 4) (bs := [bNow E a0 a1 e2 S0, bScene E a1 S_4, bScene E (e2 ((S0.1 2).toNatClampNeg)) S_3, bPoolR E e2 O2 ((S0.1 2).toNatClampNeg)]) (bc := [bScene E (e2 ((S0.1 2).toNatClampNeg)) S_3, bScene E a1 S_4]) (br := [bNow E a0 a1 e2 S0, bPoolR E e2 O2 ((S0.1 2).toNatClampNeg)]) [2, 1, 0, 3] rfl rfl (by decide)
    have hP := gP_perm p2.symm hP
    have hD := gD_perm p2.symm hD
    clear p2
    have p0 := gW_sub (bs := [bNow E a0 a1 e2 S0, bScene E a1 S_4, bPool E e2 (po O2 ((S0.1 2).toNatClampNeg) S_3)]) 2 rfl (pool_back E e2 O2 (t := (S0.1 2).toNatClampNeg) S_3 (vp_lt hi_2))
    have hP : gP E (gW [bNow E a0 a1 e2 S0, bScene E a1 S_4, bPool E e2 (po O2 ((S0.1 2).toNatClampNeg) S_3)]) _ := gP_perm p0.symm hP
    have hD : va_D A (gW [bNow E a0 a1 e2 S0, bScene E a1 S_4, bPool E e2 (po O2 ((S0.1 2).toNatClampNeg) S_3)]) := gD_perm p0.symm hD
    clear p0
    refine lv_aload_n hx hb dX0_remember_29 rfl (lv_at hl 0 rfl) ?_
    refine lv_dup hx hb dX0_remember_30 rfl ?_
    refine va_get (D := (E.1, E.2.1)) (ci := 0) (v := .int (S0.1 2)) (C := RX0) (T := TX0) (N := 3) hx hb ht wu_X0 hown hK hP 0 rfl rfl 2 (by decide) (ht _ wk_X0_22) (fun _ h9 => h9) rfl dX0_remember_31 ?_
    refine lv_iconst (v := 1) hx hb dX0_remember_34 (by decide) ?_
    refine lv_iadd hx hb dX0_remember_35 ?_
    refine va_put (D := (E.1, E.2.1)) (ci := 0) (v := .int ((S0.1 2) + 1)) (ty := .int) (C := RX0) (T := TX0) (N := 3) hx hb ht wu_X0 tyX0 tyX0_ok nmX0 hown hK hP hD hS 0 rfl rfl 2 (by decide) (ht _ wk_X0_22) (fun _ h9 => h9) rfl (by decide +kernel) rfl rfl (Nat.le_of_ble_eq_true rfl) dX0_remember_36 (fun H locs hP hD hS => ?_)
    have hP : gP E (gW [bNow E a0 a1 e2 (pf S0 2 ((S0.1 2) + 1)), bScene E a1 S_4, bPool E e2 (po O2 ((S0.1 2).toNatClampNeg) S_3)]) H := hP
    have hD : va_D A (gW [bNow E a0 a1 e2 (pf S0 2 ((S0.1 2) + 1)), bScene E a1 S_4, bPool E e2 (po O2 ((S0.1 2).toNatClampNeg) S_3)]) := hD
    exact hret ⟨(pf S0 2 ((S0.1 2) + 1)), S_4, (po O2 ((S0.1 2).toNatClampNeg) S_3)⟩ _ _ _ _ _ h ⟨_, rfl⟩ hP hD hS dX0_remember_39
  · have h := h.2 c_1
    refine lv_aload_n hx hb dX0_remember_9 rfl (lv_at hl 0 rfl) ?_
    have p1 := gB (n := 3) (bs := [bNow E a0 a1 e2 S0, bScene E a1 S1, bPool E e2 O2]) (bc := [bNow E a0 a1 e2 S0, bScene E a1 S1, bPool E e2 O2]) (br := []) [0, 1, 2] rfl rfl (by decide)
    refine g_v (g_runV (As := []) (rest := []) ⟨hx, hb, hml, hown, ht⟩ hE (c_X0_loseOldest E l a0 a1 e2 S0 S1 O2 _ h) ⟨rfl, rfl⟩ wk_X0_34 wi_X0_loseOldest ws_X0_loseOldest wn_X0 wc_X0_loseOldest yd_X0_loseOldest ⟨Nat.le_of_ble_eq_true rfl, Nat.le_of_ble_eq_true rfl⟩ hP hD p1 (ci := 0) rfl rfl rfl rfl rfl hl.1 rfl (lv_room (Nat.le_of_ble_eq_true rfl)) dX0_remember_10 ⟨Nat.zero_le _, Nat.zero_le _⟩) hP hD hS p1 (fun u w H locs h hw hP hD hS => ?_)
    obtain ⟨S_5, S_6, O_7⟩ := u
    obtain ⟨e_8, rfl⟩ := hw
    clear p1
    have p2 := gB (n := 3) (bs := [bNow E a0 a1 e_8 S_5, bScene E a1 S_6, bPool E e_8 O_7]) (bc := [bNow E a0 a1 e_8 S_5, bScene E a1 S_6, bPool E e_8 O_7]) (br := []) [0, 1, 2] rfl rfl (by decide)
    have hP := gP_perm p2.symm hP
    have hD := gD_perm p2.symm hD
    clear p2
    refine lv_aload_n hx hb dX0_remember_13 rfl (lv_at hl 0 rfl) ?_
    refine va_get (D := (E.1, E.2.1)) (ci := 0) (v := .ref (a0 1)) (C := RX0) (T := TX0) (N := 3) hx hb ht wu_X0 hown hK hP 0 rfl rfl 1 (by decide) (ht _ wk_X0_18) (fun _ h9 => h9) rfl dX0_remember_14 ?_
    refine lv_aload_n hx hb dX0_remember_17 rfl (lv_at hl 0 rfl) ?_
    refine va_get (D := (E.1, E.2.1)) (ci := 0) (v := .int (S_5.1 2)) (C := RX0) (T := TX0) (N := 3) hx hb ht wu_X0 hown hK hP 0 rfl rfl 2 (by decide) (ht _ wk_X0_22) (fun _ h9 => h9) rfl dX0_remember_18 ?_
    have hi_9 : vp_in (S_5.1 2) 10 := h.1
    have h := h.2
    refine va_aldq hx hb hK hP 1 2 rfl rfl hi_9 dX0_remember_21 ?_
    refine W.eq (g2 := F0 m 22 ls [.ref (e_8 ((S_5.1 2).toNatClampNeg) 99)]) rfl ?_
    refine lv_aload_n hx hb dX0_remember_22 rfl (lv_at hl 0 rfl) ?_
    refine va_get (D := (E.1, E.2.1)) (ci := 0) (v := .ref (a1 99)) (C := RX0) (T := TX0) (N := 3) hx hb ht wu_X0 hown hK hP 0 rfl rfl 0 (by decide) (ht _ wk_X0_12) (fun _ h9 => h9) rfl dX0_remember_23 ?_
    have p0 := gW_sub (bs := [bNow E a0 a1 e_8 S_5, bScene E a1 S_6, bPool E e_8 O_7]) 2 rfl (pool_split E e_8 O_7 (vp_lt hi_9))
    have hP : gP E (gW [bNow E a0 a1 e_8 S_5, bScene E a1 S_6, bScene E (e_8 ((S_5.1 2).toNatClampNeg)) (O_7 ((S_5.1 2).toNatClampNeg)), bPoolR E e_8 O_7 ((S_5.1 2).toNatClampNeg)]) _ := gP_perm p0 hP
    have hD : va_D A (gW [bNow E a0 a1 e_8 S_5, bScene E a1 S_6, bScene E (e_8 ((S_5.1 2).toNatClampNeg)) (O_7 ((S_5.1 2).toNatClampNeg)), bPoolR E e_8 O_7 ((S_5.1 2).toNatClampNeg)]) := gD_perm p0 hD
    clear p0
    have p1 := gB (n := 4) (bs := [bNow E a0 a1 e_8 S_5, bScene E a1 S_6, bScene E (e_8 ((S_5.1 2).toNatClampNeg)) (O_7 ((S_5.1 2).toNatClampNeg)), bPoolR E e_8 O_7 ((S_5.1 2).toNatClampNeg)]) (bc := [bScene E (e_8 ((S_5.1 2).toNatClampNeg)) (O_7 ((S_5.1 2).toNatClampNeg)), bScene E a1 S_6]) (br := [bNow E a0 a1 e_8 S_5, bPoolR E e_8 O_7 ((S_5.1 2).toNatClampNeg)]) [2, 1, 0, 3] rfl rfl (by decide)
    refine g_v (g_runV (As := [.ref (a1 99)]) (rest := []) ⟨hx, hb, hml, hown, ht⟩ hE (c_X3_copyFrom E l (e_8 ((S_5.1 2).toNatClampNeg)) a1 (O_7 ((S_5.1 2).toNatClampNeg)) S_6 _ h) ⟨rfl, rfl⟩ wk_X0_30 wi_X3_copyFrom ws_X3_copyFrom wn_X3 wc_X3_copyFrom yd_X3_copyFrom ⟨Nat.le_of_ble_eq_true rfl, Nat.le_of_ble_eq_true rfl⟩ hP hD p1 (ci := 3) rfl rfl rfl rfl rfl hl.1 rfl (lv_room (Nat.le_of_ble_eq_true rfl)) dX0_remember_26 ⟨Nat.zero_le _, Nat.zero_le _⟩) hP hD hS p1 (fun u w H locs h hw hP hD hS => ?_)
    obtain ⟨S_10, S_11⟩ := u
    subst hw
    clear p1
    have p2 := gB (n := 4) (bs := [bNow E a0 a1 e_8 S_5, bScene E a1 S_11, bScene E (e_8 ((S_5.1 2).toNatClampNeg)) S_10, bPoolR E e_8 O_7 ((S_5.1 2).toNatClampNeg)]) (bc := [bScene E (e_8 ((S_5.1 2).toNatClampNeg)) S_10, bScene E a1 S_11]) (br := [bNow E a0 a1 e_8 S_5, bPoolR E e_8 O_7 ((S_5.1 2).toNatClampNeg)]) [2, 1, 0, 3] rfl rfl (by decide)
    have hP := gP_perm p2.symm hP
    have hD := gD_perm p2.symm hD
    clear p2
    have p0 := gW_sub (bs := [bNow E a0 a1 e_8 S_5, bScene E a1 S_11, bPool E e_8 (po O_7 ((S_5.1 2).toNatClampNeg) S_10)]) 2 rfl (pool_back E e_8 O_7 (t := (S_5.1 2).toNatClampNeg) S_10 (vp_lt hi_9))
    have hP : gP E (gW [bNow E a0 a1 e_8 S_5, bScene E a1 S_11, bPool E e_8 (po O_7 ((S_5.1 2).toNatClampNeg) S_10)]) _ := gP_perm p0.symm hP
    have hD : va_D A (gW [bNow E a0 a1 e_8 S_5, bScene E a1 S_11, bPool E e_8 (po O_7 ((S_5.1 2).toNatClampNeg) S_10)]) := gD_perm p0.symm hD
    clear p0
    refine lv_aload_n hx hb dX0_remember_29 rfl (lv_at hl 0 rfl) ?_
    refine lv_dup hx hb dX0_remember_30 rfl ?_
    refine va_get (D := (E.1, E.2.1)) (ci := 0) (v := .int (S_5.1 2)) (C := RX0) (T := TX0) (N := 3) hx hb ht wu_X0 hown hK hP 0 rfl rfl 2 (by decide) (ht _ wk_X0_22) (fun _ h9 => h9) rfl dX0_remember_31 ?_
    refine lv_iconst (v := 1) hx hb dX0_remember_34 (by decide) ?_
    refine lv_iadd hx hb dX0_remember_35 ?_
    refine va_put (D := (E.1, E.2.1)) (ci := 0) (v := .int ((S_5.1 2) + 1)) (ty := .int) (C := RX0) (T := TX0) (N := 3) hx hb ht wu_X0 tyX0 tyX0_ok nmX0 hown hK hP hD hS 0 rfl rfl 2 (by decide) (ht _ wk_X0_22) (fun _ h9 => h9) rfl (by decide +kernel) rfl rfl (Nat.le_of_ble_eq_true rfl) dX0_remember_36 (fun H locs hP hD hS => ?_)
    have hP : gP E (gW [bNow E a0 a1 e_8 (pf S_5 2 ((S_5.1 2) + 1)), bScene E a1 S_11, bPool E e_8 (po O_7 ((S_5.1 2).toNatClampNeg) S_10)]) H := hP
    have hD : va_D A (gW [bNow E a0 a1 e_8 (pf S_5 2 ((S_5.1 2) + 1)), bScene E a1 S_11, bPool E e_8 (po O_7 ((S_5.1 2).toNatClampNeg) S_10)]) := hD
    exact hret ⟨(pf S_5 2 ((S_5.1 2) + 1)), S_11, (po O_7 ((S_5.1 2).toNatClampNeg) S_10)⟩ _ _ _ _ _ h ⟨_, rfl⟩ hP hD hS dX0_remember_39
theorem dX0_takeBack_0 : decode cX0_takeBack 0 = .ok (.aload_n 0, 1) := by decide +kernel
theorem dX0_takeBack_1 : decode cX0_takeBack 1 = .ok (.getfield 22, 3) := by decide +kernel
theorem dX0_takeBack_4 : decode cX0_takeBack 4 = .ok (.ifCond .le 29, 3) := by decide +kernel
theorem dX0_takeBack_7 : decode cX0_takeBack 7 = .ok (.aload_n 0, 1) := by decide +kernel
theorem dX0_takeBack_8 : decode cX0_takeBack 8 = .ok (.dup, 1) := by decide +kernel
theorem dX0_takeBack_9 : decode cX0_takeBack 9 = .ok (.getfield 22, 3) := by decide +kernel
theorem dX0_takeBack_12 : decode cX0_takeBack 12 = .ok (.iconst 1, 1) := by decide +kernel
theorem dX0_takeBack_13 : decode cX0_takeBack 13 = .ok (.isub, 1) := by decide +kernel
theorem dX0_takeBack_14 : decode cX0_takeBack 14 = .ok (.putfield 22, 3) := by decide +kernel
theorem dX0_takeBack_17 : decode cX0_takeBack 17 = .ok (.aload_n 0, 1) := by decide +kernel
theorem dX0_takeBack_18 : decode cX0_takeBack 18 = .ok (.getfield 12, 3) := by decide +kernel
theorem dX0_takeBack_21 : decode cX0_takeBack 21 = .ok (.aload_n 0, 1) := by decide +kernel
theorem dX0_takeBack_22 : decode cX0_takeBack 22 = .ok (.getfield 18, 3) := by decide +kernel
theorem dX0_takeBack_25 : decode cX0_takeBack 25 = .ok (.aload_n 0, 1) := by decide +kernel
theorem dX0_takeBack_26 : decode cX0_takeBack 26 = .ok (.getfield 22, 3) := by decide +kernel
theorem dX0_takeBack_29 : decode cX0_takeBack 29 = .ok (.aaload, 1) := by decide +kernel
theorem dX0_takeBack_30 : decode cX0_takeBack 30 = .ok (.invokevirtual 30, 3) := by decide +kernel
theorem dX0_takeBack_33 : decode cX0_takeBack 33 = .ok (.return_, 1) := by decide +kernel
set_option maxHeartbeats 4000000 in
set_option maxRecDepth 100000 in
theorem c_X0_takeBack (E : GE) (l : Launch) (a0 : Nat → Nat) (a1 : Nat → Nat) (e2 : Nat → Nat → Nat) (S0 : Ob) (S1 : Ob) (O2 : (Nat → Ob)) (post : Ob → Ob → (Nat → Ob) → Prop) (h : wp_X0_takeBack S0 S1 O2 post) : Met l yX0_takeBack (wz yX0_takeBack cX0_takeBack 1 none) { frames := 2, cells := 0, slots := 0, locals := 61 } (gPc E [.ref (a0 99)] (gW [bNow E a0 a1 e2 S0, bScene E a1 S1, bPool E e2 O2])) (gQv E (gW [bNow E a0 a1 e2 S0, bScene E a1 S1, bPool E e2 O2]) (fun (u : Ob × Ob × (Nat → Ob)) => post u.1 u.2.1 u.2.2) (fun (u : Ob × Ob × (Nat → Ob)) w => w = gW [bNow E a0 a1 e2 u.1, bScene E a1 u.2.1, bPool E e2 u.2.2])) 0 0 (gIn (gW [bNow E a0 a1 e2 S0, bScene E a1 S1, bPool E e2 O2])) := by
  unfold wp_X0_takeBack at h
  refine g_of_v (by decide) (Nat.le_of_ble_eq_true rfl) ?_
  intro p e s m below meth c A Q hx hb hml hown ht hE hP hD hret ls hl
  have hK := hE.1
  have hS : va_S A s.heap s.heap [] := va_S.rf
  have hl : lv_has ls 1 [(0, .ref (a0 99))] := hl
  refine lv_aload_n hx hb dX0_takeBack_0 rfl (lv_at hl 0 rfl) ?_
  refine va_get (D := (E.1, E.2.1)) (ci := 0) (v := .int (S0.1 2)) (C := RX0) (T := TX0) (N := 3) hx hb ht wu_X0 hown hK hP 0 rfl rfl 2 (by decide) (ht _ wk_X0_22) (fun _ h9 => h9) rfl dX0_takeBack_1 ?_
  refine lv_if_le (tgt := 33) hx hb dX0_takeBack_4 (by decide) (fun c_1 => ?_) (fun c_1 => ?_)
  · have h := h.1 c_1
    exact hret ⟨S0, S1, O2⟩ _ _ _ _ _ h rfl hP hD hS dX0_takeBack_33
  · have h := h.2 c_1
    refine lv_aload_n hx hb dX0_takeBack_7 rfl (lv_at hl 0 rfl) ?_
    refine lv_dup hx hb dX0_takeBack_8 rfl ?_
    refine va_get (D := (E.1, E.2.1)) (ci := 0) (v := .int (S0.1 2)) (C := RX0) (T := TX0) (N := 3) hx hb ht wu_X0 hown hK hP 0 rfl rfl 2 (by decide) (ht _ wk_X0_22) (fun _ h9 => h9) rfl dX0_takeBack_9 ?_
    refine lv_iconst (v := 1) hx hb dX0_takeBack_12 (by decide) ?_
    refine lv_isub hx hb dX0_takeBack_13 ?_
    refine va_put (D := (E.1, E.2.1)) (ci := 0) (v := .int ((S0.1 2) - 1)) (ty := .int) (C := RX0) (T := TX0) (N := 3) hx hb ht wu_X0 tyX0 tyX0_ok nmX0 hown hK hP hD hS 0 rfl rfl 2 (by decide) (ht _ wk_X0_22) (fun _ h9 => h9) rfl (by decide +kernel) rfl rfl (Nat.le_of_ble_eq_true rfl) dX0_takeBack_14 (fun H locs hP hD hS => ?_)
    have hP : gP E (gW [bNow E a0 a1 e2 (pf S0 2 ((S0.1 2) - 1)), bScene E a1 S1, bPool E e2 O2]) H := hP
    have hD : va_D A (gW [bNow E a0 a1 e2 (pf S0 2 ((S0.1 2) - 1)), bScene E a1 S1, bPool E e2 O2]) := hD
    refine lv_aload_n hx hb dX0_takeBack_17 rfl (lv_at hl 0 rfl) ?_
    refine va_get (D := (E.1, E.2.1)) (ci := 0) (v := .ref (a1 99)) (C := RX0) (T := TX0) (N := 3) hx hb ht wu_X0 hown hK hP 0 rfl rfl 0 (by decide) (ht _ wk_X0_12) (fun _ h9 => h9) rfl dX0_takeBack_18 ?_
    refine lv_aload_n hx hb dX0_takeBack_21 rfl (lv_at hl 0 rfl) ?_
    refine va_get (D := (E.1, E.2.1)) (ci := 0) (v := .ref (a0 1)) (C := RX0) (T := TX0) (N := 3) hx hb ht wu_X0 hown hK hP 0 rfl rfl 1 (by decide) (ht _ wk_X0_18) (fun _ h9 => h9) rfl dX0_takeBack_22 ?_
    refine lv_aload_n hx hb dX0_takeBack_25 rfl (lv_at hl 0 rfl) ?_
    refine va_get (D := (E.1, E.2.1)) (ci := 0) (v := .int ((pf S0 2 ((S0.1 2) - 1)).1 2)) (C := RX0) (T := TX0) (N := 3) hx hb ht wu_X0 hown hK hP 0 rfl rfl 2 (by decide) (ht _ wk_X0_22) (fun _ h9 => h9) rfl dX0_takeBack_26 ?_
    have hi_2 : vp_in ((pf S0 2 ((S0.1 2) - 1)).1 2) 10 := h.1
    have h := h.2
    refine va_aldq hx hb hK hP 1 2 rfl rfl hi_2 dX0_takeBack_29 ?_
    refine W.eq (g2 := F0 m 30 ls [.ref (e2 (((pf S0 2 ((S0.1 2) - 1)).1 2).toNatClampNeg) 99), .ref (a1 99)]) rfl ?_
    have p0 := gW_sub (bs := [bNow E a0 a1 e2 (pf S0 2 ((S0.1 2) - 1)), bScene E a1 S1, bPool E e2 O2]) 2 rfl (pool_split E e2 O2 (vp_lt hi_2))
    have hP : gP E (gW [bNow E a0 a1 e2 (pf S0 2 ((S0.1 2) - 1)), bScene E a1 S1, bScene E (e2 (((pf S0 2 ((S0.1 2) - 1)).1 2).toNatClampNeg)) (O2 (((pf S0 2 ((S0.1 2) - 1)).1 2).toNatClampNeg)), bPoolR E e2 O2 (((pf S0 2 ((S0.1 2) - 1)).1 2).toNatClampNeg)]) _ := gP_perm p0 hP
    have hD : va_D A (gW [bNow E a0 a1 e2 (pf S0 2 ((S0.1 2) - 1)), bScene E a1 S1, bScene E (e2 (((pf S0 2 ((S0.1 2) - 1)).1 2).toNatClampNeg)) (O2 (((pf S0 2 ((S0.1 2) - 1)).1 2).toNatClampNeg)), bPoolR E e2 O2 (((pf S0 2 ((S0.1 2) - 1)).1 2).toNatClampNeg)]) := gD_perm p0 hD
    clear p0
    have p1 := gB (n := 4) (bs := [bNow E a0 a1 e2 (pf S0 2 ((S0.1 2) - 1)), bScene E a1 S1, bScene E (e2 (((pf S0 2 ((S0.1 2) - 1)).1 2).toNatClampNeg)) (O2 (((pf S0 2 ((S0.1 2) - 1)).1 2).toNatClampNeg)), bPoolR E e2 O2 (((pf S0 2 ((S0.1 2) - 1)).1 2).toNatClampNeg)]) (bc := [bScene E a1 S1, bScene E (e2 (((pf S0 2 ((S0.1 2) - 1)).1 2).toNatClampNeg)) (O2 (((pf S0 2 ((S0.1 2) - 1)).1 2).toNatClampNeg))]) (br := [bNow E a0 a1 e2 (pf S0 2 ((S0.1 2) - 1)), bPoolR E e2 O2 (((pf S0 2 ((S0.1 2) - 1)).1 2).toNatClampNeg)]) [1, 2, 0, 3] rfl rfl (by decide)
    refine g_v (g_runV (As := [.ref (e2 (((pf S0 2 ((S0.1 2) - 1)).1 2).toNatClampNeg) 99)]) (rest := []) ⟨hx, hb, hml, hown, ht⟩ hE (c_X3_copyFrom E l a1 (e2 (((pf S0 2 ((S0.1 2) - 1)).1 2).toNatClampNeg)) S1 (O2 (((pf S0 2 ((S0.1 2) - 1)).1 2).toNatClampNeg)) _ h) ⟨rfl, rfl⟩ wk_X0_30 wi_X3_copyFrom ws_X3_copyFrom wn_X3 wc_X3_copyFrom yd_X3_copyFrom ⟨Nat.le_of_ble_eq_true rfl, Nat.le_of_ble_eq_true rfl⟩ hP hD p1 (ci := 3) rfl rfl rfl rfl rfl hl.1 rfl (lv_room (Nat.le_of_ble_eq_true rfl)) dX0_takeBack_30 ⟨Nat.zero_le _, Nat.zero_le _⟩) hP hD hS p1 (fun u w H locs h hw hP hD hS => ?_)
    obtain ⟨S_3, S_4⟩ := u
    subst hw
    clear p1
    have p2 := gB (n := 4) (bs := [bNow E a0 a1 e2 (pf S0 2 ((S0.1 2) - 1)), bScene E a1 S_3, bScene E (e2 (((pf S0 2 ((S0.1 2) - 1)).1 2).toNatClampNeg)) S_4, bPoolR E e2 O2 (((pf S0 2 ((S0.1 2) - 1)).1 2).toNatClampNeg)]) (bc := [bScene E a1 S_3, bScene E (e2 (((pf S0 2 ((S0.1 2) - 1)).1 2).toNatClampNeg)) S_4]) (br := [bNow E a0 a1 e2 (pf S0 2 ((S0.1 2) - 1)), bPoolR E e2 O2 (((pf S0 2 ((S0.1 2) - 1)).1 2).toNatClampNeg)]) [1, 2, 0, 3] rfl rfl (by decide)
    have hP := gP_perm p2.symm hP
    have hD := gD_perm p2.symm hD
    clear p2
    have p0 := gW_sub (bs := [bNow E a0 a1 e2 (pf S0 2 ((S0.1 2) - 1)), bScene E a1 S_3, bPool E e2 (po O2 (((pf S0 2 ((S0.1 2) - 1)).1 2).toNatClampNeg) S_4)]) 2 rfl (pool_back E e2 O2 (t := ((pf S0 2 ((S0.1 2) - 1)).1 2).toNatClampNeg) S_4 (vp_lt hi_2))
    have hP : gP E (gW [bNow E a0 a1 e2 (pf S0 2 ((S0.1 2) - 1)), bScene E a1 S_3, bPool E e2 (po O2 (((pf S0 2 ((S0.1 2) - 1)).1 2).toNatClampNeg) S_4)]) _ := gP_perm p0.symm hP
    have hD : va_D A (gW [bNow E a0 a1 e2 (pf S0 2 ((S0.1 2) - 1)), bScene E a1 S_3, bPool E e2 (po O2 (((pf S0 2 ((S0.1 2) - 1)).1 2).toNatClampNeg) S_4)]) := gD_perm p0.symm hD
    clear p0
    exact hret ⟨(pf S0 2 ((S0.1 2) - 1)), S_3, (po O2 (((pf S0 2 ((S0.1 2) - 1)).1 2).toNatClampNeg) S_4)⟩ _ _ _ _ _ h rfl hP hD hS dX0_takeBack_33
