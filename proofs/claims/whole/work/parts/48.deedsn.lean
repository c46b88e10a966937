/-! ===== pure: deeds, by the model, on ===== -/
theorem sa_self (A : Nat → Nat → Int32) (k : Nat) : sa A k (A k) = A := by
  funext j
  unfold sa
  by_cases q : j = k
  · rw [if_pos q, q]
  · rw [if_neg q]
theorem pma_sa (M : Mo) (R : Nat → Int32) (k i : Nat) (v : Int32) : pma ((M.1.1, sa M.1.2 k R), M.2) k i v = ((M.1.1, sa M.1.2 k (upd R i v)), M.2) := by
  show ((M.1.1, sa (sa M.1.2 k R) k (upd (sa M.1.2 k R k) i v)), M.2) = _
  rw [sa_sa]
  have : sa M.1.2 k R k = R := by unfold sa; rw [if_pos rfl]
  rw [this]
section G
variable {σ : St} {M : Mo}
theorem m_hangs_L (hV : VS σ) (h : RM σ M) {o l : Nat} (ho : opO (scO σ) = some o) (hl : l < LO σ) (hm : l ∉ rgO (scO σ)) {x1 : Int32} {post : Int32 → Mo → Prop} (hp : ∀ M', RM (scS σ (hangS (scO σ) l)) M' → post (nI ((rgO (scO σ)).length + 1)) M') : ∃ n, wp_X6_hangs_L84 post x1 (nI l) (nI ((rgO (scO σ)).idxOf o + 1)) n (nI (rgO (scO σ)).length) M := by
  have hL := hV.2.1
  have hs : Vs (nO σ) (LO σ) (scO σ) := hV.2.2.2.1.1
  have hc : Ms (scO σ) (M.1.2 7) := h.2.2.2.1.1
  have hor := hs.2.2.2.2.2 o ho
  have hv' := v_hang hs hl hm
  have h8' := len8 hv'.1 (fun x hx => hv'.lt8 hL hx)
  have el : (rgO (hangS (scO σ) l)).length = (rgO (scO σ)).length + 1 := (hang_perm _ _ _).length_eq
  rw [el] at h8'
  have hi : (rgO (scO σ)).idxOf o < (rgO (scO σ)).length := List.idxOf_lt_length_of_mem hor
  obtain ⟨g1, g2, g3, g4, g5, g6⟩ := hc
  have key : ∀ k j, j = (rgO (scO σ)).idxOf o + 1 + k → j ≤ (rgO (scO σ)).length → ∀ R : Nat → Int32, (∀ y, j < y → y ≤ (rgO (scO σ)).length → R y = M.1.2 7 (y - 1)) → (∀ y, y < j → R y = M.1.2 7 y) → (∀ y, (rgO (scO σ)).length < y → R y = M.1.2 7 y) → wp_X6_hangs_L84 post x1 (nI l) (nI ((rgO (scO σ)).idxOf o + 1)) (k + 1) (nI j) ((M.1.1, sa M.1.2 7 R), M.2) := by
    intro k
    induction k with
    | zero =>
      intro j hj hjl R r1 r2 r3
      subst hj
      rw [wp_X6_hangs_L84]
      refine ⟨fun _ => ⟨vp_in_nI (by omega) (by decide), ?_⟩, fun c => absurd (nI_le (Nat.le_refl _) (by omega)) c⟩
      rw [nI_clamp (by omega), pma_sa]
      have e8 : (((M.1.1, sa M.1.2 7 (upd R ((rgO (scO σ)).idxOf o + 1) (nI l))), M.2) : Mo).1.2 7 8 = nI (rgO (scO σ)).length := by
        show upd R ((rgO (scO σ)).idxOf o + 1) (nI l) 8 = _
        rw [upd_at, if_neg (by omega), r3 8 (by omega)]; exact g2
      rw [e8, pma_sa, nI_1]
      intro M2 e2
      subst e2
      show post (nI ((rgO (scO σ)).length + 1)) _
      refine hp _ (RM_row h rfl ?_)
      have U : ∀ y, upd (upd R ((rgO (scO σ)).idxOf o + 1) (nI l)) 8 (nI ((rgO (scO σ)).length + 1)) y = if y = 8 then nI ((rgO (scO σ)).length + 1) else if y = (rgO (scO σ)).idxOf o + 1 then nI l else R y := fun y => rfl
      refine ⟨fun k hk => ?_, ?_, ?_, fun y hy => ?_, fun y hy => ?_, fun p hp => ?_⟩
      · rw [el] at hk
        rw [U, if_neg (by omega)]
        show _ = nI (((rgO (scO σ)).take ((rgO (scO σ)).idxOf ((opO (scO σ)).getD 0) + 1) ++ l :: (rgO (scO σ)).drop ((rgO (scO σ)).idxOf ((opO (scO σ)).getD 0) + 1)).getD k 0)
        rw [ho]
        show _ = nI (((rgO (scO σ)).take ((rgO (scO σ)).idxOf o + 1) ++ l :: (rgO (scO σ)).drop ((rgO (scO σ)).idxOf o + 1)).getD k 0)
        have htl : ((rgO (scO σ)).take ((rgO (scO σ)).idxOf o + 1)).length = (rgO (scO σ)).idxOf o + 1 := by rw [List.length_take]; omega
        rcases Nat.lt_trichotomy k ((rgO (scO σ)).idxOf o + 1) with q | q | q
        · rw [if_neg (by omega), gd_app1 (by omega), r2 k q, g1 k (by omega), List.getD_eq_getElem?_getD, List.getD_eq_getElem?_getD, List.getElem?_take_of_lt q]
        · rw [if_pos q, gd_app2 (by omega), htl, q, Nat.sub_self]; rfl
        · rw [if_neg (by omega), gd_app2 (by omega), htl, r1 k q (by omega), g1 _ (by omega)]
          obtain ⟨d, hd⟩ : ∃ d, k = (rgO (scO σ)).idxOf o + 1 + (d + 1) := ⟨k - ((rgO (scO σ)).idxOf o + 2), by omega⟩
          rw [hd, show (rgO (scO σ)).idxOf o + 1 + (d + 1) - ((rgO (scO σ)).idxOf o + 1) = d + 1 by omega, List.getD_cons_succ, List.getD_eq_getElem?_getD, List.getD_eq_getElem?_getD, List.getElem?_drop]
          rfl
      · rw [el, U, if_pos rfl]
      · rw [U, if_neg (by decide), if_neg (by omega), r3 9 (by omega)]; exact g3
      · rw [U, if_neg (by omega), if_neg (by omega), r3 _ (by omega)]; exact g4 y hy
      · rw [U, if_neg (by omega), if_neg (by omega), r3 _ (by omega)]; exact g5 y hy
      · rw [U, if_neg (by omega), if_neg (by omega), r3 _ (by omega)]; exact g6 p hp
    | succ k ih =>
      intro j hj hjl R r1 r2 r3
      have es : nI j - 1 = nI (j - 1) := by rw [show (1 : Int32) = nI 1 from rfl, pk_sub (by omega)]
      rw [wp_X6_hangs_L84, es]
      refine ⟨fun c => absurd c (nI_ge (by omega) (by omega)), fun _ => ⟨vp_in_nI (by omega) (by decide), vp_in_nI (by omega) (by decide), ?_⟩⟩
      rw [nI_clamp (by omega), nI_clamp (by omega), pma_sa]
      intro M2 e2
      have ej : nI j + (-1) = nI (j - 1) := by
        obtain ⟨d, rfl⟩ : ∃ d, j = d + 1 := ⟨j - 1, by omega⟩
        rw [pk_m1]; rfl
      rw [e2, ej]
      have er : (((M.1.1, sa M.1.2 7 R), M.2) : Mo).1.2 7 (j - 1) = M.1.2 7 (j - 1) := r2 (j - 1) (by omega)
      rw [er]
      refine ih (j - 1) (by omega) (by omega) _ (fun y h1 h2 => ?_) (fun y hy => ?_) (fun y hy => ?_)
      · rw [upd_at]
        by_cases e : y = j
        · rw [if_pos e, e]
        · rw [if_neg e]; exact r1 y (by omega) h2
      · rw [upd_at, if_neg (by omega)]; exact r2 y (by omega)
      · rw [upd_at, if_neg (by omega)]; exact r3 y hy
  have k0 := key ((rgO (scO σ)).length - ((rgO (scO σ)).idxOf o + 1)) (rgO (scO σ)).length (by omega) (Nat.le_refl _) (M.1.2 7) (fun y h1 h2 => absurd h1 (by omega)) (fun _ _ => rfl) (fun _ _ => rfl)
  rw [sa_self] at k0
  exact ⟨_, k0⟩
theorem m_hangs (hV : VS σ) (h : RM σ M) (x y : Int32) {post : Int32 → Mo → Prop} (hp : ∀ M', RM (hangsA σ x y).2 M' → post (hangsA σ x y).1 M') : wp_X6_hangs M x y post := by
  have hL := hV.2.1
  have hn := hV.1
  have hs : Vs (nO σ) (LO σ) (scO σ) := hV.2.2.2.1.1
  have hc : Ms (scO σ) (M.1.2 7) := h.2.2.2.1.1
  unfold wp_X6_hangs
  refine m_isOne hV h (fun p hx hpn ex => t2 ?_) (fun hx => f2 ?_)
  · refine m_isLock hV h (fun l hy hln ey => t1 ?_) (fun hy => f1 ?_)
    · subst ex ey
      rw [hc.2.2.1]
      cases ho : opO (scO σ) with
      | none =>
        have e : hangsA σ (nI p) (nI l) = (-2, σ) := by simp [hangsA, hx, hy, ho]
        rw [e] at hp
        exact ⟨fun _ => hp M h, fun c => absurd rfl c⟩
      | some o =>
        have ho8 := hs.lt8 hL (hs.2.2.2.2.2 o ho)
        refine ⟨fun c => absurd c (n9 (by omega)), fun _ => ?_⟩
        refine m_isRing hs hL hc (l := l) (by omega) (fun hm => t1 ?_) (fun hm => f1 ?_)
        · have e : hangsA σ (nI p) (nI l) = (-2, σ) := by simp [hangsA, hx, hy, hm]
          rw [e] at hp; exact hp M h
        · refine m_kn hV h hpn hln (fun hk => t1 ?_) (fun hk => f1 ?_)
          · have e : hangsA σ (nI p) (nI l) = (nI ((rgO (scO σ)).length + 1), scS (remS σ) (hangS (scO σ) l)) := by simp [hangsA, hx, hy, ho, hm, hk]
            rw [e] at hp
            refine m_note hV h (fun M1 hR hrow => ?_)
            have hc1 : Ms (scO σ) (M1.1.2 7) := by rw [hrow]; exact hc
            rw [hc1.2.2.1, hc1.2.1, ho]
            show wp_X6_placeOf M1 (nI o) _
            refine m_placeOf hs hL hc1 ho8 (fun _ => ?_) (fun q => absurd (hs.2.2.2.2.2 o ho) q)
            intro y ey
            rw [nI_1] at ey
            subst ey
            exact m_hangs_L (VS_rem hV) hR ho hln hm hp
          · have e : hangsA σ (nI p) (nI l) = (-2, σ) := by simp [hangsA, hx, hy, hk]
            rw [e] at hp; exact hp M h
    · have e : hangsA σ x y = (-1, σ) := by simp [hangsA, hx, hy]
      rw [e] at hp; exact hp M h
  · have e : hangsA σ x y = (-1, σ) := by simp [hangsA, hx]
    rw [e] at hp; exact hp M h
theorem ct_less {f : Nat → Bool} {p n : Nat} (hp : p < n) (hf : f p = true) : ct n f = ct n (fun q => f q && !decide (q = p)) + 1 := by
  have h := ct_ins (f := fun q => f q && !decide (q = p)) (a := p) (by simp) (n := n)
  rw [if_pos hp] at h
  rw [← h]
  exact ct_cg fun i _ => by
    by_cases e : i = p
    · subst e; simp [hf]
    · simp [e]
theorem m_changes_L (hV : VS σ) (h : RM σ M) {o p x : Nat} (ho : opO (scO σ) = some o) (hpn : p < nO σ) (hk : knO (scO σ) p o = true) {r : Int32} {post : Int32 → Mo → Prop} (hp : ∀ M', RM (scS σ (codeS (scO σ) p x)) M' → post r M') : ∃ n, wp_X6_changes_L74 post (nI p) (nI x) (nI o) r n 0 M := by
  have hL := hV.2.1
  have hn := hV.1
  have hs : Vs (nO σ) (LO σ) (scO σ) := hV.2.2.2.1.1
  have hc : Ms (scO σ) (M.1.2 7) := h.2.2.2.1.1
  have ho8 := hs.lt8 hL (hs.2.2.2.2.2 o ho)
  have h8 := len8 hs.1 (fun x hx => hs.lt8 hL hx)
  have ho' : (opO (scO σ)).getD 0 = o := by rw [ho]; rfl
  obtain ⟨g1, g2, g3, g4, g5, g6⟩ := hc
  have hkn : ∀ q l, knO (codeS (scO σ) p x) q l = if l = o then decide (q = p) else knO (scO σ) q l := by
    intro q l
    show (if l = (opO (scO σ)).getD 0 then decide (q = p) else knO (scO σ) q l) = _
    rw [ho']
  have key : ∀ k i, i + k = nO σ → ∀ R : Nat → Int32, (∀ j, j < 26 → R j = M.1.2 7 j) → (∀ q, q < i → R (26 + q) = nI (mk 8 (knO (codeS (scO σ) p x) q))) → (∀ q, i ≤ q → R (26 + q) = M.1.2 7 (26 + q)) → wp_X6_changes_L74 post (nI p) (nI x) (nI o) r (k + 1) (nI i) ((M.1.1, sa M.1.2 7 R), M.2) := by
    intro k
    induction k with
    | zero =>
      intro i hi R r1 r2 r3
      have : i = nO σ := by omega
      subst this
      rw [wp_X6_changes_L74]
      have e0 : (((M.1.1, sa M.1.2 7 R), M.2) : Mo).1.1 0 = nI (nO σ) := h.1
      rw [e0, show (10 : Int32) = nI 10 from rfl, show (18 : Int32) = nI 18 from rfl, nI_add, nI_add, nI_clamp (by omega), nI_clamp (by omega)]
      refine ⟨fun _ => ⟨vp_in_nI (by omega) (by decide), ?_⟩, fun c => absurd (nI_le (Nat.le_refl _) (by omega)) c⟩
      rw [pma_sa]
      intro M2 e2
      refine ⟨vp_in_nI (by omega) (by decide), ?_⟩
      rw [e2, pma_sa]
      intro M3 e3
      refine hp _ (RM_row h e3 ?_)
      have U : ∀ j, upd (upd R (10 + o) (nI x)) (18 + o) (nI x) j = if j = 18 + o then nI x else if j = 10 + o then nI x else R j := fun j => rfl
      refine ⟨fun k hk => ?_, ?_, ?_, fun y hy => ?_, fun y hy => ?_, fun q hq => ?_⟩
      · have hk : k < (rgO (scO σ)).length := hk
        rw [U, if_neg (by omega), if_neg (by omega), r1 k (by omega)]; exact g1 k hk
      · rw [U, if_neg (by omega), if_neg (by omega), r1 8 (by omega)]; exact g2
      · rw [U, if_neg (by omega), if_neg (by omega), r1 9 (by omega)]; exact g3
      · show _ = nI (upN (cdO (scO σ)) ((opO (scO σ)).getD 0) x y)
        rw [ho', U, if_neg (by omega)]
        unfold upN
        by_cases e : y = o
        · rw [if_pos (by omega), if_pos e]
        · rw [if_neg (by omega), if_neg e, r1 _ (by omega)]; exact g4 y hy
      · show _ = nI (upN (shO (scO σ)) ((opO (scO σ)).getD 0) x y)
        rw [ho', U]
        unfold upN
        by_cases e : y = o
        · rw [if_pos (by omega), if_pos e]
        · rw [if_neg (by omega), if_neg (by omega), if_neg e, r1 _ (by omega)]; exact g5 y hy
      · rw [U, if_neg (by omega), if_neg (by omega)]
        by_cases e : q < nO σ
        · exact r2 q e
        · rw [r3 q (by omega), g6 q hq]
          congr 1
          apply mk_cg
          intro l hl
          rw [hkn]
          by_cases c : l = o
          · rw [if_pos c]
            have hqp : ¬ q = p := by omega
            cases z : knO (scO σ) q l with
            | false => simp [hqp]
            | true => exact absurd (hs.2.2.1 q l z).1 e
          · rw [if_neg c]
    | succ k ih =>
      intro i hi R r1 r2 r3
      rw [wp_X6_changes_L74]
      have e0 : (((M.1.1, sa M.1.2 7 R), M.2) : Mo).1.1 0 = nI (nO σ) := h.1
      rw [e0, show (26 : Int32) = nI 26 from rfl, nI_add, nI_clamp (by omega)]
      have er : (((M.1.1, sa M.1.2 7 R), M.2) : Mo).1.2 7 (26 + i) = nI (mk 8 (knO (scO σ) i)) := (r3 i (Nat.le_refl _)).trans (g6 i (by omega))
      rw [er, pma_sa, pma_sa, andm1, sh1 o (by omega), bnot8, nI_eq (by omega) (by omega), nI_1]
      refine ⟨fun c => absurd c (nI_ge (by omega) (by omega)), fun _ => ⟨vp_in_nI (by omega) (by decide), ?_⟩⟩
      refine ⟨fun c => ⟨vp_in_nI (by omega) (by decide), fun M2 e2 => ?_⟩, fun c => ⟨vp_in_nI (by omega) (by decide), fun M2 e2 => ?_⟩⟩
      all_goals
        rw [e2]
        try rw [pma_sa]
        refine ih (i + 1) (by omega) _ (fun j hj => ?_) (fun q hq => ?_) (fun q hq => ?_)
        · rw [upd_at, if_neg (by omega)]; exact r1 j hj
        · rw [upd_at]
          by_cases e : q = i
          · rw [if_pos (by omega)]
            subst e
            congr 1
            apply mk_cg
            intro l hl
            rw [hkn]
            first
            | (rw [Nat.testBit_two_pow]
               by_cases c2 : l = o
               · subst c2; simp [c]
               · have : ¬ o = l := fun z => c2 z.symm
                 simp [c2, this]; done)
            | (by_cases c2 : l = o
               · subst c2; subst c; simp [hk]
               · simp [c2]; done)
          · rw [if_neg (by omega)]; exact r2 q (by omega)
        · rw [upd_at, if_neg (by omega)]; exact r3 q (by omega)
  have k0 := key (nO σ) 0 (by omega) (M.1.2 7) (fun _ _ => rfl) (fun q hq => absurd hq (by omega)) (fun _ _ => rfl)
  rw [sa_self] at k0
  exact ⟨_, k0⟩
theorem m_changes (hV : VS σ) (h : RM σ M) (x y : Int32) {post : Int32 → Mo → Prop} (hp : ∀ M', RM (changesA σ x y).2 M' → post (changesA σ x y).1 M') : wp_X6_changes M x y post := by
  have hL := hV.2.1
  have hn := hV.1
  have hs : Vs (nO σ) (LO σ) (scO σ) := hV.2.2.2.1.1
  have hc : Ms (scO σ) (M.1.2 7) := h.2.2.2.1.1
  unfold wp_X6_changes
  refine m_isOne hV h (fun p hx hpn ex => t2 ?_) (fun hx => f2 ?_)
  · refine m_999 (fun k hy hk ey => t1 ?_) (fun hy => f1 ?_)
    · subst ex ey
      rw [hc.2.2.1]
      cases ho : opO (scO σ) with
      | none =>
        have e : changesA σ (nI p) (nI k) = (-2, σ) := by simp [changesA, hx, hy, ho]
        rw [e] at hp
        exact ⟨fun _ => hp M h, fun c => absurd rfl c⟩
      | some o =>
        have hoL := hs.2.1 o (hs.2.2.2.2.2 o ho)
        refine ⟨fun c => absurd c (n9 (by omega)), fun _ => ?_⟩
        refine m_kn hV h hpn hoL (fun hk1 => t1 ?_) (fun hk1 => f1 ?_)
        · have e : changesA σ (nI p) (nI k) = (nI (ct 6 fun q => knO (scO σ) q o && !decide (q = p)), scS (remS σ) (codeS (scO σ) p k)) := by simp [changesA, hx, hy, ho, hk1]
          rw [e] at hp
          refine m_note hV h (fun M1 hR hrow => ?_)
          have hc1 : Ms (scO σ) (M1.1.2 7) := by rw [hrow]; exact hc
          refine m_knowers hs hn hR.1 hc1 (l := o) (by omega) (on_ok (Nat.lt_of_lt_of_le (mk_6 _) (by decide)) ?_)
          rw [ct_mk6, ct_less (f := fun p => knO (scO σ) p o) (p := p) (by omega) hk1]
          intro y ey z ez
          rw [nI_pred] at ey
          subst ey ez
          exact m_changes_L (VS_rem hV) hR ho hpn hk1 hp
        · have e : changesA σ (nI p) (nI k) = (-2, σ) := by simp [changesA, hx, hy, ho, hk1]
          rw [e] at hp; exact hp M h
    · have e : changesA σ x y = (-1, σ) := by simp [changesA, hx, hy]
      rw [e] at hp; exact hp M h
  · have e : changesA σ x y = (-1, σ) := by simp [changesA, hx]
    rw [e] at hp; exact hp M h
end G
