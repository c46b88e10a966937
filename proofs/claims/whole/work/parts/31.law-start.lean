theorem law_env {s : State} {args : Array Value} (hts : ∀ w ∈ lw_tbl, w.before args s = true) : ∃ E : GE, gE E s := by
  have ht := tb_ht hts
  obtain ⟨c0, i0, k0⟩ := u_known (C := RX0) (T := TX0) (N := 3) (n := 3) ht wu_X0 (ht _ wq_X0)
  obtain ⟨c1, i1, k1⟩ := u_known (C := RX1) (T := TX1) (N := 5) (n := 5) ht wu_X1 (ht _ wq_X1)
  obtain ⟨c2, i2, k2⟩ := u_known (C := RX2) (T := TX2) (N := 9) (n := 9) ht wu_X2 (ht _ wq_X2)
  obtain ⟨c3, i3, k3⟩ := u_known (C := RX3) (T := TX3) (N := 5) (n := 5) ht wu_X3 (ht _ wq_X3)
  obtain ⟨c4, i4, k4⟩ := u_known (C := RX4) (T := TX4) (N := 6) (n := 6) ht wu_X4 (ht _ wq_X4)
  obtain ⟨c5, i5, k5⟩ := u_known (C := RX5) (T := TX5) (N := 8) (n := 8) ht wu_X5 (ht _ wq_X5)
  obtain ⟨c6, i6, k6⟩ := u_known (C := RX6) (T := TX6) (N := 26) (n := 26) ht wu_X6 (ht _ wq_X6)
  obtain ⟨d0, kd0, cp0, f0, g0, h0⟩ := Cond.arrayClass_spec (ht _ wa_int)
  obtain ⟨d1, kd1, cp1, f1, g1, h1⟩ := Cond.arrayClass_spec (ht _ wa_boolean)
  obtain ⟨cp2, d2, kd2, f2, -, g2, h2, n2⟩ := Cond.arrayOver_spec (hts _ wo_X3)
  obtain ⟨cp3, d3, kd3, f3, -, g3, h3, n3⟩ := Cond.arrayOver_spec (hts _ wo_X0)
  refine ⟨((fun k => [c0, c1, c2, c3, c4, c5, c6].getD k c0), (fun k => [i0, i1, i2, i3, i4, i5, i6].getD k i0), (fun k => [d0, d1, d2, d3].getD k d0)), ⟨?_, ?_⟩, ⟨va_Nw.of rfl (hts _ wx_X5_9), va_Nw.of rfl (hts _ wx_X5_40), va_Nw.of rfl (hts _ wx_X3_68), va_Nw.of rfl (hts _ wx_X3_64), va_Nw.of rfl (hts _ wx_X2_43)⟩, va_AO.of (hts _ wo_X3), va_AO.of (hts _ wo_X0)⟩
  · intro c q hq
    match c, hq with
    | 0, hq => cases hq; exact k0
    | 1, hq => cases hq; exact k1
    | 2, hq => cases hq; exact k2
    | 3, hq => cases hq; exact k3
    | 4, hq => cases hq; exact k4
    | 5, hq => cases hq; exact k5
    | 6, hq => cases hq; exact k6
    | c + 7, hq => simp [gcl] at hq
  · intro k q hq
    match k, hq with
    | 0, hq => cases hq; exact ⟨fun n z => ⟨fun k h => (by cases h), kd0, g0, cp0, h0⟩, f0⟩
    | 1, hq => cases hq; exact ⟨fun n z => ⟨fun k h => (by cases h), kd1, g1, cp1, h1⟩, f1⟩
    | 2, hq => cases hq; exact ⟨fun n z => ⟨fun k h => (by cases h), kd2, g2, cp2, h2⟩, kd2, cp2, g2, h2, f2, n2⟩
    | 3, hq => cases hq; exact ⟨fun n z => ⟨fun k h => (by cases h), kd3, g3, cp3, h3⟩, kd3, cp3, g3, h3, f3, n3⟩
    | k + 4, hq => simp [gty] at hq
theorem law_figs {s : State} {b : Nat} (hts : ∀ w ∈ lw_tbl, w.before #[Value.ref b] s = true) (hgv : (Jvm.Cond.and given_1 narrow_1).before #[Value.ref b] s = true) : ∃ t : Nat, gF t (fun q : Nat => s.heap.size ≤ q) s := by
  have hs := flat_of_before _ hgv
  have ht := tb_ht hts
  have hA : ∀ a : Nat, a < s.heap.size → ¬ (fun q : Nat => s.heap.size ≤ q) a := fun a h => Nat.not_le.mpr h
  have harr : (Cond.arrayOf (.static "GateChain" "FIGURES_AT" "[I") .int).before #[Value.ref b] s = true := hs _ (by decide +kernel)
  have hlen := va_eqt (t := .length (.static "GateChain" "FIGURES_AT" "[I")) (z := 6) (hs _ (by decide +kernel))
  have h0 := va_eqt (t := .elem (.static "GateChain" "FIGURES_AT" "[I") (.int 0)) (z := 1) (hs _ (by decide +kernel))
  have h1 := va_eqt (t := .elem (.static "GateChain" "FIGURES_AT" "[I") (.int 1)) (z := 2) (hs _ (by decide +kernel))
  have h2 := va_eqt (t := .elem (.static "GateChain" "FIGURES_AT" "[I") (.int 2)) (z := 2) (hs _ (by decide +kernel))
  have h3 := va_eqt (t := .elem (.static "GateChain" "FIGURES_AT" "[I") (.int 3)) (z := 2) (hs _ (by decide +kernel))
  have h4 := va_eqt (t := .elem (.static "GateChain" "FIGURES_AT" "[I") (.int 4)) (z := 2) (hs _ (by decide +kernel))
  have h5 := va_eqt (t := .elem (.static "GateChain" "FIGURES_AT" "[I") (.int 5)) (z := 1) (hs _ (by decide +kernel))
  obtain ⟨t, ht1, ht2⟩ := va_Tof (N := 6) (f := fun j => .int (figs j)) (A := fun q : Nat => s.heap.size ≤ q) (by decide) harr hlen (fun j hj => by
    rcases (show j = 0 ∨ j = 1 ∨ j = 2 ∨ j = 3 ∨ j = 4 ∨ j = 5 by omega) with rfl | rfl | rfl | rfl | rfl | rfl
    · exact h0
    · exact h1
    · exact h2
    · exact h3
    · exact h4
    · exact h5) hA
  exact ⟨t, va_Zof (hts _ wz_figures) (ht _ wn_X5) ht1 hA, ht2⟩
set_option maxHeartbeats 16000000 in
set_option maxRecDepth 100000 in
theorem law_start {p : Program} {e : Env} {s : State} {m : MethodId} {below : List Frame} {meth : Method} {c : Code} (l : Launch) {b L : Nat} {xs : Nat → Int32} (C0 : lw_At p s m meth c b L xs) (postR : Ob → Prop) (hR : wp_X2_forgetAll obZero postR) (hlaw : ∀ S, postR S → ∃ n, wp_law L xs n 0 (gcInit S) moInit) : W p l e room_1 s m #[Value.ref b] below meth c s.heap [] 0 0 (lw_Z below #[Value.ref b] s) (entryFrame m ([Value.ref b] : List Value).toArray 4) := by
  obtain ⟨hx, hb, hr, hml, hown, hts, hX, hbl, hlocks, hgv⟩ := id C0
  have ht := tb_ht hts
  obtain ⟨E, hE⟩ := law_env hts
  obtain ⟨t, hF⟩ := law_figs hts hgv
  have hK := hE.1
  have hA : ∀ q : Nat, s.heap.size ≤ q → (fun q : Nat => s.heap.size ≤ q) q := fun _ h => h
  have hS : va_S (fun q : Nat => s.heap.size ≤ q) s.heap s.heap [] := va_S.rf
  have hP : gP E (gW []) s.heap := fun k q h => by simp [gW] at h
  have hD : va_D (fun q : Nat => s.heap.size ≤ q) (gW []) := ⟨fun i j p q h => by simp [gW] at h, fun k q h => by simp [gW] at h⟩
  have hl := lv_entry ([.ref b]) (n := 4) (Nat.le_of_ble_eq_true rfl)
  rw [lg_entry_eq]
  generalize (lg_sl ([.ref b]) ++ List.replicate (4 - (lg_sl ([.ref b])).length) Slot.unset).toArray = ls at hl ⊢
  have hl : lv_has ls 4 [(0, .ref b)] := hl
  refine va_new (ci := 5) (fs := [.null, .null, .null, .null, .null, .null, .null, .long 0]) (C := RX5) (T := TX5) (N := 8) hx hb ht wu_X5 tyX5 tyX5_ok hown (ht _ wk_L_7) (ht _ wq_X5) (ht _ wn_X5) hK hP hD hS hA rfl nw_X5 (Nat.le_of_ble_eq_true rfl) (Nat.le_of_ble_eq_true rfl) dL_law_0 (fun q5 H hP hD hS => ?_)
  have hP := gP_push hP
  have hD := gD_push hD
  refine lv_dup hx hb dL_law_3 rfl ?_
  have p1 := gB (n := 1) (bs := [[(q5, .inr (5, [.null, .null, .null, .null, .null, .null, .null, .long 0]))]]) (bc := [[(q5, .inr (5, [.null, .null, .null, .null, .null, .null, .null, .long 0]))]]) (br := []) [0] rfl rfl (by decide)
  refine g_newI (As := []) (rest := [.ref q5]) ⟨hx, hb, hml, hown, ht⟩ hE (c_X5_init E l q5 postR hR H.size) ⟨rfl, rfl⟩ wk_L_9 wi_X5_init wn_X5 wc_X5_init rfl yd_X5_init ⟨Nat.le_of_ble_eq_true rfl, Nat.le_of_ble_eq_true rfl⟩ hP hD hS hA p1 rfl hl.1 rfl (Nat.le_of_ble_eq_true rfl) dL_law_4 ⟨Nat.le_of_ble_eq_true rfl, Nat.le_of_ble_eq_true rfl⟩ (fun w H1 locs1 hw hP1 hD1 hS1 => ?_)
  obtain ⟨G, pl, dr, e0, e1, e2, S, hG, hpR, rfl⟩ := hw
  clear hP hD hS p1
  subst hG
  have hP : gP E (gW [bGC G (pl 99) (dr 99) (gcInit S).1, bText E (G 1) ((gcInit S).2.1 1), bNow E (G 2) (G 3) e0 ((gcInit S).2.1 2), bScene E (G 3) ((gcInit S).2.1 3), bPlan E pl ((gcInit S).2.1 4), bPlan E dr ((gcInit S).2.1 5), bRumour E (G 6) ((gcInit S).2.1 6), bIm E G ((gcInit S).2.1 7), bNow E (G 8) (G 10) e1 ((gcInit S).2.1 8), bNow E (G 9) (G 11) e2 ((gcInit S).2.1 9), bScene E (G 10) ((gcInit S).2.1 10), bScene E (G 11) ((gcInit S).2.1 11), bPool E e0 ((gcInit S).2.2 0), bPool E e1 ((gcInit S).2.2 1), bPool E e2 ((gcInit S).2.2 2)]) H1 := gP_left hP1
  have hD : va_D (fun q : Nat => s.heap.size ≤ q) (gW [bGC G (pl 99) (dr 99) (gcInit S).1, bText E (G 1) ((gcInit S).2.1 1), bNow E (G 2) (G 3) e0 ((gcInit S).2.1 2), bScene E (G 3) ((gcInit S).2.1 3), bPlan E pl ((gcInit S).2.1 4), bPlan E dr ((gcInit S).2.1 5), bRumour E (G 6) ((gcInit S).2.1 6), bIm E G ((gcInit S).2.1 7), bNow E (G 8) (G 10) e1 ((gcInit S).2.1 8), bNow E (G 9) (G 11) e2 ((gcInit S).2.1 9), bScene E (G 10) ((gcInit S).2.1 10), bScene E (G 11) ((gcInit S).2.1 11), bPool E e0 ((gcInit S).2.2 0), bPool E e1 ((gcInit S).2.2 1), bPool E e2 ((gcInit S).2.2 2)]) := gD_left hD1
  refine lv_astore_n (lv' := [(1, .ref (G 0 99)), (0, .ref b)]) hx hb dL_law_7 rfl hl (by decide) rfl (fun ls hl => ?_)
  refine va_new (ci := 6) (fs := [.int 0, .int 0, .null, .int 0, .int 0, .null, .null, .null, .null, .int 0, .int 0, .null, .null, .null, .int 0, .null, .int 0, .null, .null, .long 0, .int 0, .int 0, .int 0, .int 0, .null, .null]) (C := RX6) (T := TX6) (N := 26) hx hb ht wu_X6 tyX6 tyX6_ok hown (ht _ wk_L_10) (ht _ wq_X6) (ht _ wn_X6) hK hP hD hS1 hA rfl nw_X6 (Nat.le_of_ble_eq_true rfl) (Nat.le_of_ble_eq_true rfl) dL_law_8 (fun q6 H2 hP2 hD2 hS2 => ?_)
  have hP2 : gP E (gW [bGC G (pl 99) (dr 99) (gcInit S).1, bText E (G 1) ((gcInit S).2.1 1), bNow E (G 2) (G 3) e0 ((gcInit S).2.1 2), bScene E (G 3) ((gcInit S).2.1 3), bPlan E pl ((gcInit S).2.1 4), bPlan E dr ((gcInit S).2.1 5), bRumour E (G 6) ((gcInit S).2.1 6), bIm E G ((gcInit S).2.1 7), bNow E (G 8) (G 10) e1 ((gcInit S).2.1 8), bNow E (G 9) (G 11) e2 ((gcInit S).2.1 9), bScene E (G 10) ((gcInit S).2.1 10), bScene E (G 11) ((gcInit S).2.1 11), bPool E e0 ((gcInit S).2.2 0), bPool E e1 ((gcInit S).2.2 1), bPool E e2 ((gcInit S).2.2 2), [(q6, .inr (6, [.int 0, .int 0, .null, .int 0, .int 0, .null, .null, .null, .null, .int 0, .int 0, .null, .null, .null, .int 0, .null, .int 0, .null, .null, .long 0, .int 0, .int 0, .int 0, .int 0, .null, .null]))]]) H2 := gP_push hP2
  have hD2 : va_D (fun q : Nat => s.heap.size ≤ q) (gW [bGC G (pl 99) (dr 99) (gcInit S).1, bText E (G 1) ((gcInit S).2.1 1), bNow E (G 2) (G 3) e0 ((gcInit S).2.1 2), bScene E (G 3) ((gcInit S).2.1 3), bPlan E pl ((gcInit S).2.1 4), bPlan E dr ((gcInit S).2.1 5), bRumour E (G 6) ((gcInit S).2.1 6), bIm E G ((gcInit S).2.1 7), bNow E (G 8) (G 10) e1 ((gcInit S).2.1 8), bNow E (G 9) (G 11) e2 ((gcInit S).2.1 9), bScene E (G 10) ((gcInit S).2.1 10), bScene E (G 11) ((gcInit S).2.1 11), bPool E e0 ((gcInit S).2.2 0), bPool E e1 ((gcInit S).2.2 1), bPool E e2 ((gcInit S).2.2 2), [(q6, .inr (6, [.int 0, .int 0, .null, .int 0, .int 0, .null, .null, .null, .null, .int 0, .int 0, .null, .null, .null, .int 0, .null, .int 0, .null, .null, .long 0, .int 0, .int 0, .int 0, .int 0, .null, .null]))]]) := gD_push hD2
  refine lv_dup hx hb dL_law_11 rfl ?_
  have p1 := gB (n := 16) (bs := [bGC G (pl 99) (dr 99) (gcInit S).1, bText E (G 1) ((gcInit S).2.1 1), bNow E (G 2) (G 3) e0 ((gcInit S).2.1 2), bScene E (G 3) ((gcInit S).2.1 3), bPlan E pl ((gcInit S).2.1 4), bPlan E dr ((gcInit S).2.1 5), bRumour E (G 6) ((gcInit S).2.1 6), bIm E G ((gcInit S).2.1 7), bNow E (G 8) (G 10) e1 ((gcInit S).2.1 8), bNow E (G 9) (G 11) e2 ((gcInit S).2.1 9), bScene E (G 10) ((gcInit S).2.1 10), bScene E (G 11) ((gcInit S).2.1 11), bPool E e0 ((gcInit S).2.2 0), bPool E e1 ((gcInit S).2.2 1), bPool E e2 ((gcInit S).2.2 2), [(q6, .inr (6, [.int 0, .int 0, .null, .int 0, .int 0, .null, .null, .null, .null, .int 0, .int 0, .null, .null, .null, .int 0, .null, .int 0, .null, .null, .long 0, .int 0, .int 0, .int 0, .int 0, .null, .null]))]]) (bc := [[(q6, .inr (6, [.int 0, .int 0, .null, .int 0, .int 0, .null, .null, .null, .null, .int 0, .int 0, .null, .null, .null, .int 0, .null, .int 0, .null, .null, .long 0, .int 0, .int 0, .int 0, .int 0, .null, .null]))]]) (br := [bGC G (pl 99) (dr 99) (gcInit S).1, bText E (G 1) ((gcInit S).2.1 1), bNow E (G 2) (G 3) e0 ((gcInit S).2.1 2), bScene E (G 3) ((gcInit S).2.1 3), bPlan E pl ((gcInit S).2.1 4), bPlan E dr ((gcInit S).2.1 5), bRumour E (G 6) ((gcInit S).2.1 6), bIm E G ((gcInit S).2.1 7), bNow E (G 8) (G 10) e1 ((gcInit S).2.1 8), bNow E (G 9) (G 11) e2 ((gcInit S).2.1 9), bScene E (G 10) ((gcInit S).2.1 10), bScene E (G 11) ((gcInit S).2.1 11), bPool E e0 ((gcInit S).2.2 0), bPool E e1 ((gcInit S).2.2 1), bPool E e2 ((gcInit S).2.2 2)]) [15, 0, 1, 2, 3, 4, 5, 6, 7, 8, 9, 10, 11, 12, 13, 14] rfl rfl (by decide)
  refine g_newI (As := []) (rest := [.ref q6]) ⟨hx, hb, hml, hown, ht⟩ hE (c_X6_init E l q6 H2.size) ⟨rfl, rfl⟩ wk_L_12 wi_X6_init wn_X6 wc_X6_init rfl yd_X6_init ⟨Nat.le_of_ble_eq_true rfl, Nat.le_of_ble_eq_true rfl⟩ hP2 hD2 hS2 hA p1 rfl hl.1 rfl (Nat.le_of_ble_eq_true rfl) dL_law_12 ⟨Nat.le_of_ble_eq_true rfl, Nat.le_of_ble_eq_true rfl⟩ (fun w H3 locs3 hw hP3 hD3 hS3 => ?_)
  obtain ⟨a, rfl⟩ := hw
  have p2 := gB (n := 16) (bs := [bGC G (pl 99) (dr 99) (gcInit S).1, bText E (G 1) ((gcInit S).2.1 1), bNow E (G 2) (G 3) e0 ((gcInit S).2.1 2), bScene E (G 3) ((gcInit S).2.1 3), bPlan E pl ((gcInit S).2.1 4), bPlan E dr ((gcInit S).2.1 5), bRumour E (G 6) ((gcInit S).2.1 6), bIm E G ((gcInit S).2.1 7), bNow E (G 8) (G 10) e1 ((gcInit S).2.1 8), bNow E (G 9) (G 11) e2 ((gcInit S).2.1 9), bScene E (G 10) ((gcInit S).2.1 10), bScene E (G 11) ((gcInit S).2.1 11), bPool E e0 ((gcInit S).2.2 0), bPool E e1 ((gcInit S).2.2 1), bPool E e2 ((gcInit S).2.2 2), bModel E (ad a q6) moInit]) (bc := [bModel E (ad a q6) moInit]) (br := [bGC G (pl 99) (dr 99) (gcInit S).1, bText E (G 1) ((gcInit S).2.1 1), bNow E (G 2) (G 3) e0 ((gcInit S).2.1 2), bScene E (G 3) ((gcInit S).2.1 3), bPlan E pl ((gcInit S).2.1 4), bPlan E dr ((gcInit S).2.1 5), bRumour E (G 6) ((gcInit S).2.1 6), bIm E G ((gcInit S).2.1 7), bNow E (G 8) (G 10) e1 ((gcInit S).2.1 8), bNow E (G 9) (G 11) e2 ((gcInit S).2.1 9), bScene E (G 10) ((gcInit S).2.1 10), bScene E (G 11) ((gcInit S).2.1 11), bPool E e0 ((gcInit S).2.2 0), bPool E e1 ((gcInit S).2.2 1), bPool E e2 ((gcInit S).2.2 2)]) [15, 0, 1, 2, 3, 4, 5, 6, 7, 8, 9, 10, 11, 12, 13, 14] rfl rfl (by decide)
  have hP3 := gP_perm p2.symm hP3
  have hD3 := gD_perm p2.symm hD3
  refine lv_astore_n (lv' := [(2, .ref q6), (1, .ref (G 0 99)), (0, .ref b)]) hx hb dL_law_15 rfl hl (by decide) rfl (fun ls hl => ?_)
  refine lv_iconst (v := 0) hx hb dL_law_16 (by decide) ?_
  refine lv_istore_n (lv' := [(3, .int 0), (2, .ref q6), (1, .ref (G 0 99)), (0, .ref b)]) hx hb dL_law_17 rfl hl (by decide) rfl (fun ls hl => ?_)
  refine W.widen (k := 600000) (n := 7302250) (Nat.le_of_ble_eq_true rfl) (Nat.le_of_ble_eq_true rfl) ?_
  obtain ⟨n, hn⟩ := hlaw S hpR
  exact law_loop C0 E hE t hF G e1 e2 (ad a q6) n 0 (gcInit S) moInit pl dr e0 _ _ _ hn hP3 hD3 hS3 (lv_sub hl [3, 2, 1, 0] rfl)
