/-! ===== pure: every run of calls ===== -/
def sc0 : SC := (fun _ => 0, fun _ => 0, fun _ _ => false, [], none)
def st0 : St := (3, 0, fun _ => 0, (sc0, 0, fun _ => sc0), (fun _ => none), (0, fun _ => 0), [], 0)
theorem v_sc0 (n L : Nat) : Vs n L sc0 := ⟨List.nodup_nil, fun l h => (by cases h), fun p l h => absurd (show false = true from h) (by decide), fun _ => by show 0 < 1000; decide, fun _ => by show 0 < 1000; decide, fun o h => by cases h⟩
theorem v_st0 : VS st0 := ⟨by show 3 ≤ 6; decide, by show 0 ≤ 8; decide, fun _ => by show 0 < 64; decide, ⟨v_sc0 3 0, Nat.zero_le _, fun i hi => absurd hi (Nat.not_lt_zero _)⟩, fun b w h => (by cases h), ⟨Nat.zero_le _, fun _ => by show 0 < 256; decide⟩, Nat.zero_le _, fun e h => by cases h⟩
theorem c_st0 {S : Ob} (h : RR [] S) : RC st0 (gcInit S) := by
  refine ⟨rfl, rfl, fun p _ => rfl, ⟨⟨fun l _ => rfl, fun l _ => rfl, fun l _ => ?_, ⟨fun k hk => absurd hk (Nat.not_lt_zero _), fun l hl _ => ?_⟩, rfl⟩, rfl, fun i hi => absurd hi (Nat.not_lt_zero _)⟩, ⟨rfl, fun w h => by cases h⟩, ⟨rfl, fun w h => by cases h⟩, ⟨rfl, fun i hi => absurd hi (Nat.not_lt_zero _)⟩, h, rfl⟩
  · show (0 : Int32) = nI (mk 6 fun _ => false)
    rfl
  · show afill 8 (fun _ => 0) (-9) l = -9
    unfold afill
    rw [if_pos hl]
theorem m_st0 : RM st0 moInit := by
  refine ⟨rfl, rfl, fun p _ => rfl, ⟨⟨fun k hk => absurd hk (Nat.not_lt_zero _), rfl, rfl, fun l _ => ?_, fun l _ => ?_, fun p _ => ?_⟩, rfl, fun i hi => absurd hi (Nat.not_lt_zero _)⟩, (by show (0 : Int32) = nI (mk 2 fun _ => false); rfl), fun w h => (by cases h), fun w h => (by cases h), ⟨rfl, fun i hi => absurd hi (Nat.not_lt_zero _)⟩, ⟨rfl, fun i hi => absurd hi (Nat.not_lt_zero _)⟩, rfl⟩
  · show upd (fun _ => 0) 9 (-9) (10 + l) = nI 0
    rw [upd_at, if_neg (by omega)]
    rfl
  · show upd (fun _ => 0) 9 (-9) (18 + l) = nI 0
    rw [upd_at, if_neg (by omega)]
    rfl
  · show upd (fun _ => 0) 9 (-9) (26 + p) = nI (mk 8 fun _ => false)
    rw [upd_at, if_neg (by omega)]
    rfl
theorem law_go {L : Nat} (hL : L ≤ 2048) (xs : Nat → Int32) : ∀ n i, i ≤ L → L - i < n → ∀ (σ : St) (Z : GC) (M : Mo), VS σ → RC σ Z → RM σ M → wp_law L xs n (nI i) Z M
  | 0, _, _, h, _, _, _, _, _, _ => absurd h (Nat.not_lt_zero _)
  | n + 1, i, hi, hn, σ, Z, M, hV, hC, hM => by
    have cond : nI L - 4 < nI i ↔ L < i + 4 := by
      rw [Int32.lt_iff_toInt_lt, show (4 : Int32) = nI 4 from rfl, pk_sub_toInt (by omega) (by decide), nI_toInt (by omega)]
      omega
    have e1 : nI i + 1 = nI (i + 1) := nI_add i 1
    have e2 : nI i + 2 = nI (i + 2) := nI_add i 2
    have e3 : nI i + 3 = nI (i + 3) := nI_add i 3
    have e4 : nI i + 4 = nI (i + 4) := nI_add i 4
    rw [wp_law, e1, e2, e3, e4]
    refine ⟨fun _ => trivial, fun c => ?_⟩
    have hlt : i + 4 ≤ L := by
      rw [cond] at c
      omega
    have v0 : vp_in (nI i) L := vp_in_nI (by omega) (by omega)
    have v1 : vp_in (nI (i + 1)) L := vp_in_nI (by omega) (by omega)
    have v2 : vp_in (nI (i + 2)) L := vp_in_nI (by omega) (by omega)
    have v3 : vp_in (nI (i + 3)) L := vp_in_nI (by omega) (by omega)
    have go : ∀ (σ : St) (Z : GC) (M : Mo), VS σ → RC σ Z → RM σ M → wp_law L xs n (nI (i + 4)) Z M := law_go hL xs n (i + 4) hlt (by omega)
    generalize xs (nI i).toNatClampNeg &&& 31 = op
    generalize xs (nI (i + 1)).toNatClampNeg = x1
    generalize xs (nI (i + 2)).toNatClampNeg = x2
    generalize xs (nI (i + 3)).toNatClampNeg = x3
    clear e1 e2 e3 e4 cond c
    refine ⟨v0, fun _ => ?_, fun _ => ?_, fun _ => ?_, fun _ => ?_, fun _ => ?_, fun _ => ?_, fun _ => ?_, fun _ => ?_, fun _ => ?_, fun _ => ?_, fun _ => ?_, fun _ => ?_, fun _ => ?_, fun _ => ?_, fun _ => ?_, fun _ => ?_, fun _ => ?_, fun _ => ?_, fun _ => ?_, fun _ => ?_, fun _ => ?_, fun _ => ?_, fun _ => ?_, fun _ => ?_, fun _ => ?_, fun _ => ?_, fun _ => ?_⟩
    · exact ⟨v1, c_type hV hC x1 (fun Z' hZ => ⟨v1, m_type hV hM x1 (fun M' hM' => ⟨fun _ => go _ _ _ (v_type hV x1) hZ hM', fun c => c rfl⟩)⟩)⟩
    · exact c_clear hV hC (fun Z' hZ => m_clear hV hM (fun M' hM' => ⟨fun _ => go _ _ _ (v_clear hV) hZ hM', fun c => c rfl⟩))
    · exact c_gate hV hC (fun Z' hZ => m_gate hV hM (fun M' hM' => ⟨fun _ => go _ _ _ (v_gate hV) hZ hM', fun c => c rfl⟩))
    · exact ⟨v1, v2, c_lock hV hC x1 x2 ⟨v1, v2, m_lock hV hM x1 x2 ⟨fun _ => go _ _ _ hV hC hM, fun c => c rfl⟩⟩⟩
    · exact ⟨v1, v2, c_person hV hC x1 x2 ⟨v1, v2, m_person hV hM x1 x2 ⟨fun _ => go _ _ _ hV hC hM, fun c => c rfl⟩⟩⟩
    · exact ⟨v1, v2, c_opens hV hC x1 x2 (fun Z' hZ => ⟨v1, v2, m_opens hV hM x1 x2 (fun M' hM' => ⟨fun _ => go _ _ _ (v_opens hV x1 x2) hZ hM', fun c => c rfl⟩)⟩)⟩
    · exact ⟨v1, v2, c_shuts hV hC x1 x2 (fun Z' hZ => ⟨v1, v2, m_shuts hV hM x1 x2 (fun M' hM' => ⟨fun _ => go _ _ _ (v_shuts hV x1 x2) hZ hM', fun c => c rfl⟩)⟩)⟩
    · exact ⟨v1, v2, c_hangs hV hC x1 x2 (fun Z' hZ => ⟨v1, v2, m_hangs hV hM x1 x2 (fun M' hM' => ⟨fun _ => go _ _ _ (v_hangs hV x1 x2) hZ hM', fun c => c rfl⟩)⟩)⟩
    · exact ⟨v1, v2, v3, c_tells hV hC x1 x2 x3 (fun Z' hZ => ⟨v1, v2, v3, m_tells hV hM x1 x2 x3 (fun M' hM' => ⟨fun _ => go _ _ _ (v_tells hV x1 x2 x3) hZ hM', fun c => c rfl⟩)⟩)⟩
    · exact ⟨v1, v2, c_changes hV hC x1 x2 (fun Z' hZ => ⟨v1, v2, m_changes hV hM x1 x2 (fun M' hM' => ⟨fun _ => go _ _ _ (v_changes hV x1 x2) hZ hM', fun c => c rfl⟩)⟩)⟩
    · exact ⟨v1, v2, c_tries hV hC x1 x2 (fun Z' hZ => ⟨v1, v2, m_tries hV hM x1 x2 (fun M' hM' => ⟨fun _ => go _ _ _ (v_tries hV x1 x2) hZ hM', fun c => c rfl⟩)⟩)⟩
    · exact c_undo hV hC (fun Z' hZ => m_undoA hV hM (fun M' hM' => ⟨fun _ => go _ _ _ (v_undo hV) hZ hM', fun c => c rfl⟩))
    · exact ⟨v1, c_now hV hC x1 ⟨v1, m_now hV hM x1 ⟨fun _ => go _ _ _ hV hC hM, fun c => c rfl⟩⟩⟩
    · exact ⟨v1, c_left hV hC x1 ⟨v1, m_left hV hM x1 ⟨fun _ => go _ _ _ hV hC hM, fun c => c rfl⟩⟩⟩
    · exact ⟨v1, c_jam hV hC x1 ⟨v1, m_jam hV hM x1 ⟨fun _ => go _ _ _ hV hC hM, fun c => c rfl⟩⟩⟩
    · exact ⟨v1, v2, c_near hV hC x1 x2 ⟨v1, v2, m_near hV hM x1 x2 ⟨fun _ => go _ _ _ hV hC hM, fun c => c rfl⟩⟩⟩
    · exact ⟨v1, v2, c_odds hV hC x1 x2 ⟨v1, v2, m_odds hV hM x1 x2 ⟨fun _ => go _ _ _ hV hC hM, fun c => c rfl⟩⟩⟩
    · exact ⟨v1, v2, c_hears hV hC x1 x2 (fun Z' hZ => ⟨v1, v2, m_hears hV hM x1 x2 (fun M' hM' => ⟨fun _ => go _ _ _ (v_hears hV x1 x2) hZ hM', fun c => c rfl⟩)⟩)⟩
    · exact c_forget hV hC (fun Z' hZ => m_forget hV hM (fun M' hM' => ⟨fun _ => go _ _ _ (v_forget hV) hZ hM', fun c => c rfl⟩))
    · exact ⟨v1, c_codes hV hC x1 ⟨v1, m_codes hV hM x1 ⟨fun _ => go _ _ _ hV hC hM, fun c => c rfl⟩⟩⟩
    · exact c_ask hV hC (fun Z' hZ => m_ask hV hM (fun M' hM' => ⟨fun _ => go _ _ _ hV hZ hM', fun c => c rfl⟩))
    · exact ⟨v1, v2, c_mark hV hC x1 x2 (fun Z' hZ => ⟨v1, v2, m_mark hV hM x1 x2 (fun M' hM' => ⟨fun _ => go _ _ _ (v_mark hV x1 x2) hZ hM', fun c => c rfl⟩)⟩)⟩
    · exact ⟨v1, c_keep hV hC x1 (fun Z' hZ => ⟨v1, m_keep hV hM x1 (fun M' hM' => ⟨fun _ => go _ _ _ (v_keep hV x1) hZ hM', fun c => c rfl⟩)⟩)⟩
    · exact ⟨v1, c_back hV hC x1 (fun Z' hZ => ⟨v1, m_back hV hM x1 (fun M' hM' => ⟨fun _ => go _ _ _ (v_back hV x1) hZ hM', fun c => c rfl⟩)⟩)⟩
    · exact ⟨v1, c_count hV hC x1 ⟨v1, m_count hV hM x1 ⟨fun _ => go _ _ _ hV hC hM, fun c => c rfl⟩⟩⟩
    · refine ⟨fun _ => go _ _ _ hV hC hM, fun c => c ((lg_cmp_eq _ _).mpr ?_)⟩
      rw [hC.2.2.2.2.2.2.2.2, hM.2.2.2.2.2.2.2.2.2]
    · exact go _ _ _ hV hC hM
theorem law_pure : ∃ postR : Ob → Prop, wp_X2_forgetAll obZero postR ∧ ∀ L : Nat, L ≤ 2048 → ∀ (xs : Nat → Int32) (S : Ob), postR S → ∃ n, wp_law L xs n 0 (gcInit S) moInit :=
  ⟨RR [], c_forgetAll (fun _ h => h), fun L hL xs S hS => ⟨L + 1, law_go hL xs (L + 1) 0 (Nat.zero_le _) (by omega) st0 (gcInit S) moInit v_st0 (c_st0 hS) m_st0⟩⟩
