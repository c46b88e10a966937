/-! ===== pure: deeds, by the model ===== -/
theorem pma7 (M : Mo) (i : Nat) (v : Int32) : (pma M 7 i v).1.2 7 = upd (M.1.2 7) i v := rfl
theorem pmak (M : Mo) (i : Nat) (v : Int32) {k : Nat} (hk : k ≠ 7) : (pma M 7 i v).1.2 k = M.1.2 k := by
  show sa M.1.2 7 _ k = _
  unfold sa
  rw [if_neg hk]
theorem upd_at (f : Nat → Int32) (k j : Nat) (v : Int32) : upd f k v j = if j = k then v else f j := rfl
theorem andm1 (a : Nat) : nI a &&& (-1) = nI a := b_ext fun i hi => by rw [b_and, b_m1 i hi, Bool.and_true]
section R
variable {n L : Nat} {s : SC} {R : Nat → Int32}
theorem Ms_opn (hV : Vs n L s) (hL : L ≤ 8) (h : Ms s R) {l : Nat} (hl : l < 8) : Ms (opnS s l) (upd (upd R (18 + l) (R (10 + l))) 9 (nI l)) := by
  obtain ⟨h1, h2, h3, h4, h5, h6⟩ := h
  have h8 := len8 hV.1 (fun x hx => hV.lt8 hL hx)
  refine ⟨fun k hk => ?_, ?_, ?_, fun y hy => ?_, fun y hy => ?_, fun p hp => ?_⟩
  · have hk : k < (rgO s).length := hk
    rw [upd_at, upd_at, if_neg (by omega), if_neg (by omega)]; exact h1 k hk
  · rw [upd_at, upd_at, if_neg (by omega), if_neg (by omega)]; exact h2
  · rw [upd_at, if_pos rfl]; rfl
  · rw [upd_at, upd_at, if_neg (by omega), if_neg (by omega)]; exact h4 y hy
  · rw [upd_at, upd_at, if_neg (by omega)]
    show _ = nI (upN (shO s) l (cdO s l) y)
    unfold upN
    by_cases e : y = l
    · rw [if_pos (by omega), if_pos e]; exact h4 l hl
    · rw [if_neg (by omega), if_neg e]; exact h5 y hy
  · rw [upd_at, upd_at, if_neg (by omega), if_neg (by omega)]; exact h6 p hp
theorem Ms_try (hV : Vs n L s) (hL : L ≤ 8) (h : Ms s R) {l x : Nat} {o : Option Nat} (hl : l < 8) : Ms (cdO s, upN (shO s) l x, knO s, rgO s, o) (upd (upd R (18 + l) (nI x)) 9 (oI o)) := by
  obtain ⟨h1, h2, h3, h4, h5, h6⟩ := h
  have h8 := len8 hV.1 (fun x hx => hV.lt8 hL hx)
  refine ⟨fun k hk => ?_, ?_, ?_, fun y hy => ?_, fun y hy => ?_, fun p hp => ?_⟩
  · have hk : k < (rgO s).length := hk
    rw [upd_at, upd_at, if_neg (by omega), if_neg (by omega)]; exact h1 k hk
  · rw [upd_at, upd_at, if_neg (by omega), if_neg (by omega)]; exact h2
  · rw [upd_at, if_pos rfl]
  · rw [upd_at, upd_at, if_neg (by omega), if_neg (by omega)]; exact h4 y hy
  · rw [upd_at, upd_at, if_neg (by omega)]
    show _ = nI (upN (shO s) l x y)
    unfold upN
    by_cases e : y = l
    · rw [if_pos (by omega), if_pos e]
    · rw [if_neg (by omega), if_neg e]; exact h5 y hy
  · rw [upd_at, upd_at, if_neg (by omega), if_neg (by omega)]; exact h6 p hp
theorem Ms_tel (hV : Vs n L s) (hL : L ≤ 8) (h : Ms s R) {q l : Nat} (hq : q < 6) (hl : l < 8) : Ms (telS s q l) (upd R (26 + q) (R (26 + q) ||| nI (2 ^ l))) := by
  obtain ⟨h1, h2, h3, h4, h5, h6⟩ := h
  have h8 := len8 hV.1 (fun x hx => hV.lt8 hL hx)
  refine ⟨fun k hk => ?_, ?_, ?_, fun y hy => ?_, fun y hy => ?_, fun p hp => ?_⟩
  · have hk : k < (rgO s).length := hk
    rw [upd_at, if_neg (by omega)]; exact h1 k hk
  · rw [upd_at, if_neg (by omega)]; exact h2
  · rw [upd_at, if_neg (by omega)]; exact h3
  · rw [upd_at, if_neg (by omega)]; exact h4 y hy
  · rw [upd_at, if_neg (by omega)]; exact h5 y hy
  · rw [upd_at]
    show _ = nI (mk 8 fun k => decide (p = q ∧ k = l) || knO s p k)
    by_cases e : p = q
    · rw [if_pos (by omega)]
      subst e
      rw [h6 p hp, fa_or, mk_set _ hl]
      congr 1
      exact mk_cg fun i _ => by simp
    · rw [if_neg (by omega), h6 p hp]
      congr 1
      exact mk_cg fun i _ => by simp [e]
end R
section G
variable {σ : St} {M : Mo}
/-- how a row's change comes into the state -/
theorem RM_row (h : RM σ M) {s : SC} {M' : Mo} {R : Nat → Int32} (e : M' = ((M.1.1, sa M.1.2 7 R), M.2)) (hs : Ms s R) : RM (scS σ s) M' := by
  subst e
  refine RM_sc h rfl (fun k hk => ?_) rfl hs
  show sa M.1.2 7 R k = _
  unfold sa
  rw [if_neg hk]
theorem sa_sa (A : Nat → Nat → Int32) (k : Nat) (f g : Nat → Int32) : sa (sa A k f) k g = sa A k g := by
  funext j
  unfold sa
  by_cases h : j = k
  · rw [if_pos h, if_pos h]
  · rw [if_neg h, if_neg h, if_neg h]
theorem pma2 (M : Mo) (i j : Nat) (u v : Int32) : pma (pma M 7 i u) 7 j v = ((M.1.1, sa M.1.2 7 (upd (upd (M.1.2 7) i u) j v)), M.2) := by
  show ((M.1.1, sa (sa M.1.2 7 _) 7 _), M.2) = _
  rw [sa_sa]
  rfl
theorem m_opens (hV : VS σ) (h : RM σ M) (x y : Int32) {post : Int32 → Mo → Prop} (hp : ∀ M', RM (opensA σ x y).2 M' → post (opensA σ x y).1 M') : wp_X6_opens M x y post := by
  have hL := hV.2.1
  have hn := hV.1
  have hs : Vs (nO σ) (LO σ) (scO σ) := hV.2.2.2.1.1
  have hc : Ms (scO σ) (M.1.2 7) := h.2.2.2.1.1
  unfold wp_X6_opens
  refine m_isOne hV h (fun p hx hpn ex => t2 ?_) (fun hx => f2 ?_)
  · refine m_isLock hV h (fun l hy hln ey => t1 ?_) (fun hy => f1 ?_)
    · subst ex ey
      rw [hc.2.2.1]
      cases ho : opO (scO σ) with
      | some o =>
        have ho8 := hs.lt8 hL (hs.2.2.2.2.2 o ho)
        have e : opensA σ (nI p) (nI l) = (-2, σ) := by simp [opensA, hx, hy, ho]
        rw [e] at hp
        exact ⟨fun _ => hp M h, fun c => absurd c (n9 (by omega))⟩
      | none =>
        refine ⟨fun c => absurd rfl c, fun _ => ?_⟩
        refine m_isRing hs hL hc (l := l) (by omega) (fun hm => t2 ?_) (fun hm => f2 ?_)
        · rw [show (26 : Int32) = nI 26 from rfl, nI_add, nI_clamp (by omega), hc.2.2.2.2.2 p (by omega)]
          refine ⟨vp_in_nI (by omega) (by decide), m_has (by have := mk_8 (knO (scO σ) p); omega) (by omega) (fun hk => t1 ?_) (fun hk => f1 ?_)⟩
          · rw [mk_tb] at hk
            have hk : knO (scO σ) p l = true := by simp at hk; exact hk.2
            have e : opensA σ (nI p) (nI l) = (nI (rgO (scO σ)).length, scS (remS σ) (opnS (scO σ) l)) := by simp [opensA, hx, hy, ho, hm, hk]
            rw [e] at hp
            refine m_note hV h (fun M1 hR hrow => ?_)
            rw [show (10 : Int32) = nI 10 from rfl, nI_add, show (18 : Int32) = nI 18 from rfl, nI_add, nI_clamp (by omega), nI_clamp (by omega)]
            refine ⟨vp_in_nI (by omega) (by decide), vp_in_nI (by omega) (by decide), fun M2 e2 => ?_⟩
            subst e2
            have hM := Ms_opn hs hL hc (l := l) (by omega)
            rw [← hrow] at hM
            have e8 : (pma (pma M1 7 (18 + l) (M1.1.2 7 (10 + l))) 7 9 (nI l)).1.2 7 8 = nI (rgO (scO σ)).length := hM.2.1
            rw [e8]
            exact hp _ (RM_row hR (pma2 _ _ _ _ _) hM)
          · rw [mk_tb] at hk
            have hk : knO (scO σ) p l = false := by
              have : l < 8 := by omega
              simp [this] at hk; exact hk
            have e : opensA σ (nI p) (nI l) = (-2, σ) := by simp [opensA, hx, hy, hk]
            rw [e] at hp; exact hp M h
        · have e : opensA σ (nI p) (nI l) = (-2, σ) := by simp [opensA, hx, hy, hm]
          rw [e] at hp; exact hp M h
    · have e : opensA σ x y = (-1, σ) := by simp [opensA, hx, hy]
      rw [e] at hp; exact hp M h
  · have e : opensA σ x y = (-1, σ) := by simp [opensA, hx]
    rw [e] at hp; exact hp M h
/-- a person's knowing a lock, in the row -/
theorem m_kn (hV : VS σ) (h : RM σ M) {p l : Nat} (hp : p < nO σ) (hl : l < LO σ) {post : Int32 → Prop} (h1 : knO (scO σ) p l = true → post 1) (h0 : knO (scO σ) p l = false → post 0) : vp_in (26 + nI p) 32 ∧ wp_X6_has (M.1.2 7 (26 + nI p).toNatClampNeg) (nI l) post := by
  have hn := hV.1
  have hL := hV.2.1
  have hc : Ms (scO σ) (M.1.2 7) := h.2.2.2.1.1
  rw [show (26 : Int32) = nI 26 from rfl, nI_add, nI_clamp (by omega), hc.2.2.2.2.2 p (by omega)]
  have e : (mk 8 (knO (scO σ) p)).testBit l = knO (scO σ) p l := by
    rw [mk_tb]
    have : l < 8 := by omega
    simp [this]
  refine ⟨vp_in_nI (by omega) (by decide), m_has (by have := mk_8 (knO (scO σ) p); omega) (by omega) (fun hk => h1 (e ▸ hk)) (fun hk => h0 (e ▸ hk))⟩
theorem m_999 {x : Int32} {post : Int32 → Prop} (h1 : ∀ j, pOf 1000 x = some j → j < 1000 → x = nI j → post 1) (h0 : pOf 1000 x = none → post 0) : wp_X6_in (x.toInt64) 0 999 post := m_in (n := 1000) (by decide) (by decide) h1 h0
theorem m_tries (hV : VS σ) (h : RM σ M) (x y : Int32) {post : Int32 → Mo → Prop} (hp : ∀ M', RM (triesA σ x y).2 M' → post (triesA σ x y).1 M') : wp_X6_tries M x y post := by
  have hL := hV.2.1
  have hs : Vs (nO σ) (LO σ) (scO σ) := hV.2.2.2.1.1
  have hc : Ms (scO σ) (M.1.2 7) := h.2.2.2.1.1
  unfold wp_X6_tries
  refine m_isLock hV h (fun l hx hln ex => t2 ?_) (fun hx => f2 ?_)
  · refine m_999 (fun k hy hk ey => t1 ?_) (fun hy => f1 ?_)
    · subst ex ey
      rw [hc.2.2.1]
      cases ho : opO (scO σ) with
      | some o =>
        have ho8 := hs.lt8 hL (hs.2.2.2.2.2 o ho)
        have e : triesA σ (nI l) (nI k) = (-2, σ) := by simp [triesA, hx, hy, ho]
        rw [e] at hp
        exact ⟨fun _ => hp M h, fun c => absurd c (n9 (by omega))⟩
      | none =>
        refine ⟨fun c => absurd rfl c, fun _ => ?_⟩
        refine m_isRing hs hL hc (l := l) (by omega) (fun hm => t1 ?_) (fun hm => f1 ?_)
        · have e : triesA σ (nI l) (nI k) = (nI (rw3 k (cdO (scO σ) l)), scS (remS σ) (tryS (scO σ) l k)) := by simp [triesA, hx, hy, ho, hm]
          rw [e] at hp
          refine m_note hV h (fun M1 hR hrow => ?_)
          rw [show (10 : Int32) = nI 10 from rfl, nI_add, show (18 : Int32) = nI 18 from rfl, nI_add, nI_clamp (by omega), nI_clamp (by omega)]
          refine ⟨vp_in_nI (by omega) (by decide), fun M2 e2 => ⟨vp_in_nI (by omega) (by decide), ?_⟩⟩
          subst e2
          have ec : (pma M1 7 (18 + l) (nI k)).1.2 7 (10 + l) = nI (cdO (scO σ) l) := by
            rw [pma7, hrow, upd_at, if_neg (by omega)]; exact hc.2.2.2.1 l (by omega)
          rw [ec]
          refine m_right hk (hs.2.2.2.1 l) ?_
          rw [show (3 : Int32) = nI 3 from rfl, nI_eq (Nat.lt_of_le_of_lt (rw3_le _ _) (by decide)) (by decide)]
          refine ⟨fun c => ?_, fun c => ?_⟩
          · have hM := Ms_try (o := none) (x := k) hs hL hc (l := l) (by omega)
            rw [← hrow] at hM
            refine hp _ (RM_row hR (pma2 _ _ _ _ _) ?_)
            have et : tryS (scO σ) l k = (cdO (scO σ), upN (shO (scO σ)) l k, knO (scO σ), rgO (scO σ), none) := by
              unfold tryS; rw [if_neg c]
            rw [et]; exact hM
          · have hM := Ms_try (o := some l) (x := k) hs hL hc (l := l) (by omega)
            rw [← hrow] at hM
            refine hp _ (RM_row hR (pma2 _ _ _ _ _) ?_)
            have et : tryS (scO σ) l k = (cdO (scO σ), upN (shO (scO σ)) l k, knO (scO σ), rgO (scO σ), some l) := by
              unfold tryS; rw [if_pos c]
            rw [et]; exact hM
        · have e : triesA σ (nI l) (nI k) = (-2, σ) := by simp [triesA, hx, hy, hm]
          rw [e] at hp; exact hp M h
    · have e : triesA σ x y = (-1, σ) := by simp [triesA, hx, hy]
      rw [e] at hp; exact hp M h
  · have e : triesA σ x y = (-1, σ) := by simp [triesA, hx]
    rw [e] at hp; exact hp M h
theorem m_tells (hV : VS σ) (h : RM σ M) (x y z : Int32) {post : Int32 → Mo → Prop} (hp : ∀ M', RM (tellsA σ x y z).2 M' → post (tellsA σ x y z).1 M') : wp_X6_tells M x y z post := by
  have hL := hV.2.1
  have hn := hV.1
  have hs : Vs (nO σ) (LO σ) (scO σ) := hV.2.2.2.1.1
  have hc : Ms (scO σ) (M.1.2 7) := h.2.2.2.1.1
  unfold wp_X6_tells
  refine m_isOne hV h (fun p hx hpn ex => t2 ?_) (fun hx => f2 ?_)
  · refine m_isOne hV h (fun q hy hqn ey => t2 ?_) (fun hy => f2 ?_)
    · subst ex ey
      rw [nI_eq (by omega) (by omega)]
      refine ⟨fun e0 => ?_, fun hpq => ?_⟩
      · have e : tellsA σ (nI p) (nI q) z = (-1, σ) := by
          unfold tellsA
          rw [hx, hy]
          cases pOf (LO σ) z with
          | none => rfl
          | some l => simp [e0]
        rw [e] at hp; exact hp M h
      · refine m_isLock hV h (fun l hz hln ez => t1 ?_) (fun hz => f1 ?_)
        · subst ez
          refine m_kn hV h hpn hln (fun hk => t2 ?_) (fun hk => f2 ?_)
          · refine m_kn hV h hqn hln (fun hk2 => ?_) (fun hk2 => f2 ?_)
            · have e : tellsA σ (nI p) (nI q) (nI l) = (-2, σ) := by simp [tellsA, hx, hy, hz, hpq, hk2]
              rw [e] at hp; exact t2 (hp M h)
            · have e : tellsA σ (nI p) (nI q) (nI l) = (nI (ct 6 fun i => knO (telS (scO σ) q l) i l), scS (remS σ) (telS (scO σ) q l)) := by simp [tellsA, hx, hy, hz, hpq, hk, hk2]
              rw [e] at hp
              refine m_note hV h (fun M1 hR hrow => ?_)
              rw [show (26 : Int32) = nI 26 from rfl, nI_add, nI_clamp (by omega), sh1 l (by omega)]
              refine ⟨vp_in_nI (by omega) (by decide), vp_in_nI (by omega) (by decide), fun M2 e2 => ?_⟩
              have hM := Ms_tel hs hL hc (q := q) (l := l) (by omega) (by omega)
              rw [← hrow] at hM
              have hR2 : RM (scS (remS σ) (telS (scO σ) q l)) M2 := RM_row hR e2 hM
              refine m_knowers (v_tel hs hqn hln) hn hR2.1 hR2.2.2.2.1.1 (l := l) (by omega) (on_ok (by have := mk_6 (fun p => knO (telS (scO σ) q l) p l); omega) ?_)
              rw [ct_mk6]
              exact hp _ hR2
          · have e : tellsA σ (nI p) (nI q) (nI l) = (-2, σ) := by simp [tellsA, hx, hy, hz, hpq, hk]
            rw [e] at hp; exact hp M h
        · have e : tellsA σ (nI p) (nI q) z = (-1, σ) := by simp [tellsA, hx, hy, hz]
          rw [e] at hp; exact hp M h
    · have e : tellsA σ x y z = (-1, σ) := by simp [tellsA, hx, hy]
      rw [e] at hp; exact hp M h
  · have e : tellsA σ x y z = (-1, σ) := by simp [tellsA, hx]
    rw [e] at hp; exact hp M h
theorem m_undoA (hV : VS σ) (h : RM σ M) {post : Int32 → Mo → Prop} (hp : ∀ M', RM (undoA σ).2 M' → post (undoA σ).1 M') : wp_X6_undo M post := by
  unfold undoA at hp
  refine m_undo hV h (fun c M' hM => ?_) (fun c => ?_)
  · rw [if_neg c] at hp; exact hp M' hM
  · rw [if_pos c] at hp; exact hp M h
/-! shutting: what stays -/
theorem m_shuts_L (hV : VS σ) (h : RM σ M) {l x : Nat} (hx : x < 1000) (hcs : csB (scO σ) l = true) {post : Int32 → Mo → Prop} (hp : ∀ M', RM (scS σ (shutS (scO σ) l x)) M' → post (nI (bwS (scO σ) l).length) M') : ∃ n, wp_X6_shuts_L49 post (nI l) (nI x) (nI (lm (bwS (scO σ) l))) n 0 0 M := by
  have hL := hV.2.1
  have hs : Vs (nO σ) (LO σ) (scO σ) := hV.2.2.2.1.1
  have hc : Ms (scO σ) (M.1.2 7) := h.2.2.2.1.1
  obtain ⟨o, ho, hm, h1⟩ := csB_t hcs
  have hor := hs.2.2.2.2.2 o ho
  have ho8 := hs.lt8 hL hor
  have h8 := len8 hs.1 (fun x hx => hs.lt8 hL hx)
  obtain ⟨hbs, hbn⟩ := bw_sub hs ho hm h1
  obtain ⟨g1, g2, g3, g4, g5, g6⟩ := hc
  let F : Nat → List Nat := fun i => ((rgO (scO σ)).take i).filter (fun y => !decide (y ∈ bwS (scO σ) l))
  have hF : ∀ i, i < (rgO (scO σ)).length → F (i + 1) = F i ++ (if (rgO (scO σ)).getD i 0 ∈ bwS (scO σ) l then [] else [(rgO (scO σ)).getD i 0]) := by
    intro i hi
    show (List.take (i + 1) _).filter _ = _
    rw [take_1 hi, List.filter_append]
    congr 1
    by_cases q : (rgO (scO σ)).getD i 0 ∈ bwS (scO σ) l
    · rw [if_pos q, List.filter_cons_of_neg (by simpa using q)]; rfl
    · rw [if_neg q, List.filter_cons_of_pos (by simpa using q)]; rfl
  have hFl : ∀ i, (F i).length ≤ i := fun i => Nat.le_trans (List.length_filter_le _ _) (by rw [List.length_take]; omega)
  have key : ∀ k i, i + k = (rgO (scO σ)).length → ∀ R : Nat → Int32, (∀ j, j < (F i).length → R j = nI ((F i).getD j 0)) → (∀ j, i ≤ j → R j = M.1.2 7 j) → wp_X6_shuts_L49 post (nI l) (nI x) (nI (lm (bwS (scO σ) l))) (k + 1) (nI (F i).length) (nI i) ((M.1.1, sa M.1.2 7 R), M.2) := by
    intro k
    induction k with
    | zero =>
      intro i hi R r1 r2
      have : i = (rgO (scO σ)).length := by omega
      subst this
      have hf := hFl (rgO (scO σ)).length
      rw [wp_X6_shuts_L49]
      have e8 : (((M.1.1, sa M.1.2 7 R), M.2) : Mo).1.2 7 8 = nI (rgO (scO σ)).length := (r2 8 h8).trans g2
      rw [e8]
      refine ⟨fun _ => ?_, fun c => absurd (nI_le (Nat.le_refl _) (by omega)) c⟩
      have e9 : (pma ((M.1.1, sa M.1.2 7 R), M.2) 7 8 (nI (F (rgO (scO σ)).length).length)).1.2 7 9 = nI o := by
        show R 9 = _
        rw [r2 9 (by omega), g3, ho]; rfl
      rw [e9, show (18 : Int32) = nI 18 from rfl, nI_add, nI_clamp (by omega)]
      refine ⟨vp_in_nI (by omega) (by decide), fun M2 e2 => on_ok (lm_8 _) ?_⟩
      have ec : ct 8 (lm (bwS (scO σ) l)).testBit = (bwS (scO σ) l).length := by
        rw [← ct_list hbn (fun y hy => hs.lt8 hL (hbs y hy))]
        exact ct_cg fun i hi => by rw [lm_tb]; simp [hi]
      rw [ec]
      refine hp _ (RM_row h (R := upd (upd (upd R 8 (nI (F (rgO (scO σ)).length).length)) (18 + o) (nI x)) 9 (-9)) ?_ ?_)
      · rw [e2, pma2]
        show ((M.1.1, sa (sa (sa M.1.2 7 R) 7 _) 7 _), M.2) = _
        rw [sa_sa, sa_sa]
        rfl
      · have hring : rgO (shutS (scO σ) l x) = F (rgO (scO σ)).length := by
          show (rgO (scO σ)).filter _ = (List.take _ _).filter _
          rw [List.take_length]
        have U : ∀ j, upd (upd (upd R 8 (nI (F (rgO (scO σ)).length).length)) (18 + o) (nI x)) 9 (-9) j = if j = 9 then -9 else if j = 18 + o then nI x else if j = 8 then nI (F (rgO (scO σ)).length).length else R j := fun j => rfl
        refine ⟨fun j hj => ?_, ?_, ?_, fun y hy => ?_, fun y hy => ?_, fun p hp => ?_⟩
        · rw [hring] at hj ⊢
          rw [U, if_neg (by omega), if_neg (by omega), if_neg (by omega)]; exact r1 j hj
        · rw [hring, U, if_neg (by decide), if_neg (by omega), if_pos rfl]
        · rfl
        · rw [U, if_neg (by omega), if_neg (by omega), if_neg (by omega), r2 _ (by omega)]; exact g4 y hy
        · rw [U, if_neg (by omega)]
          show _ = nI (upN (shO (scO σ)) ((opO (scO σ)).getD 0) x y)
          rw [ho]
          show _ = nI (upN (shO (scO σ)) o x y)
          unfold upN
          by_cases e : y = o
          · rw [if_pos (by omega), if_pos e]
          · rw [if_neg (by omega), if_neg e, if_neg (by omega), r2 _ (by omega)]; exact g5 y hy
        · rw [U, if_neg (by omega), if_neg (by omega), if_neg (by omega), r2 _ (by omega)]; exact g6 p hp
    | succ k ih =>
      intro i hi R r1 r2
      have hf := hFl i
      have hil : i < (rgO (scO σ)).length := by omega
      have hx8 := hs.lt8 hL (gd_mem hil)
      rw [wp_X6_shuts_L49]
      have e8 : (((M.1.1, sa M.1.2 7 R), M.2) : Mo).1.2 7 8 = nI (rgO (scO σ)).length := (r2 8 (by omega)).trans g2
      have ei : (((M.1.1, sa M.1.2 7 R), M.2) : Mo).1.2 7 i = nI ((rgO (scO σ)).getD i 0) := (r2 i (Nat.le_refl _)).trans (g1 i hil)
      rw [e8, nI_clamp (by omega), ei, nI_1]
      refine ⟨fun c => absurd c (nI_ge hil (by omega)), fun _ => ⟨vp_in_nI (by omega) (by decide), ?_⟩⟩
      have hFi := hF i hil
      refine m_has (by have := lm_8 (bwS (scO σ) l); omega) (by omega) (fun q => t1 ?_) (fun q => f1 ?_)
      · rw [lm_tb] at q
        have q : (rgO (scO σ)).getD i 0 ∈ bwS (scO σ) l := by simp [hx8] at q; exact q.2
        rw [if_pos q, List.append_nil] at hFi
        have := ih (i + 1) (by omega) R (by rw [hFi]; exact r1) (fun j hj => r2 j (by omega))
        rw [hFi] at this
        exact this
      · rw [lm_tb] at q
        have q : (rgO (scO σ)).getD i 0 ∉ bwS (scO σ) l := by
          intro z
          simp only [hx8, z, decide_true, Bool.and_true] at q
          exact absurd q (by decide)
        rw [if_neg q] at hFi
        rw [nI_clamp (by omega), nI_1]
        refine ⟨vp_in_nI (by omega) (by decide), fun M2 e2 => ?_⟩
        have e3 : M2 = ((M.1.1, sa M.1.2 7 (upd R (F i).length (nI ((rgO (scO σ)).getD i 0)))), M.2) := by
          rw [e2]
          show ((M.1.1, sa (sa M.1.2 7 R) 7 _), M.2) = _
          rw [sa_sa]; rfl
        rw [e3]
        have hlen : (F (i + 1)).length = (F i).length + 1 := by rw [hFi, List.length_append]; rfl
        have := ih (i + 1) (by omega) (upd R (F i).length (nI ((rgO (scO σ)).getD i 0))) (fun j hj => ?_) (fun j hj => ?_)
        · rw [hlen] at this; exact this
        · rw [hlen] at hj
          rw [hFi, upd_at]
          by_cases e : j = (F i).length
          · rw [if_pos e, e, gd_app2 (Nat.le_refl _), Nat.sub_self]; rfl
          · rw [if_neg e, gd_app1 (by omega)]; exact r1 j (by omega)
        · rw [upd_at, if_neg (by omega)]; exact r2 j (by omega)
  have e0 : M = ((M.1.1, sa M.1.2 7 (M.1.2 7)), M.2) := by
    have : sa M.1.2 7 (M.1.2 7) = M.1.2 := by
      funext j
      unfold sa
      by_cases q : j = 7
      · rw [if_pos q, q]
      · rw [if_neg q]
    rw [this]
  refine ⟨(rgO (scO σ)).length + 1, ?_⟩
  conv => arg 8; rw [e0]
  exact key _ 0 (by omega) _ (fun j hj => absurd hj (by show ¬ j < 0; omega)) (fun _ _ => rfl)
theorem m_shuts (hV : VS σ) (h : RM σ M) (x y : Int32) {post : Int32 → Mo → Prop} (hp : ∀ M', RM (shutsA σ x y).2 M' → post (shutsA σ x y).1 M') : wp_X6_shuts M x y post := by
  have hL := hV.2.1
  have hs : Vs (nO σ) (LO σ) (scO σ) := hV.2.2.2.1.1
  have hc : Ms (scO σ) (M.1.2 7) := h.2.2.2.1.1
  unfold wp_X6_shuts
  refine m_isLock hV h (fun l hx hln ex => t2 ?_) (fun hx => f2 ?_)
  · refine m_999 (fun k hy hk ey => t1 ?_) (fun hy => f1 ?_)
    · subst ex ey
      refine m_canShut hs hL hc (l := l) (by omega) (fun hcs => t1 ?_) (fun hcs => f1 ?_)
      · have e : shutsA σ (nI l) (nI k) = (nI (bwS (scO σ) l).length, scS (remS σ) (shutS (scO σ) l k)) := by simp [shutsA, hx, hy, hcs]
        rw [e] at hp
        refine m_note hV h (fun M1 hR hrow => ?_)
        obtain ⟨o, ho, hm, -⟩ := csB_t hcs
        refine m_besideBy (M := M1) hs hL (by rw [hrow]; exact hc) ho hm ?_
        exact m_shuts_L (VS_rem hV) hR hk hcs hp
      · have e : shutsA σ (nI l) (nI k) = (-2, σ) := by simp [shutsA, hx, hy, hcs]
        rw [e] at hp; exact hp M h
    · have e : shutsA σ x y = (-1, σ) := by simp [shutsA, hx, hy]
      rw [e] at hp; exact hp M h
  · have e : shutsA σ x y = (-1, σ) := by simp [shutsA, hx]
    rw [e] at hp; exact hp M h
end G
