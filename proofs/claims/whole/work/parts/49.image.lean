/-! ===== pure: images by the model; text, counts, the trace ===== -/
theorem sa_at (A : Nat → Nat → Int32) (k : Nat) (f : Nat → Int32) : sa A k f k = f := by unfold sa; rw [if_pos rfl]
theorem sa_ne (A : Nat → Nat → Int32) {k j : Nat} (f : Nat → Int32) (h : j ≠ k) : sa A k f j = A j := by unfold sa; rw [if_neg h]
theorem MN_cg {n L : Nat} {w : NW} {R R' Rs Rs' : Nat → Int32} {u u' : Int32} (hV : VN n L w) (hL : L ≤ 8) (e1 : ∀ j, j < 32 → R' j = R j) (e2 : u' = u) (e3 : ∀ j, j < 320 → Rs' j = Rs j) (h : MN w R u Rs) : MN w R' u' Rs' := by
  obtain ⟨h1, h2, h3⟩ := h
  refine ⟨Ms_cg hV.1 hL e1 h1, e2.trans h2, fun i hi => Ms_cg (hV.2.2 i hi) hL (fun j hj => e3 _ (by have := hV.2.1; omega)) (h3 i hi)⟩
section G
variable {σ : St} {M : Mo} {Z : GC}
theorem m_keep (hV : VS σ) (h : RM σ M) (x : Int32) {post : Int32 → Mo → Prop} (hp : ∀ M', RM (keepA σ x).2 M' → post (keepA σ x).1 M') : wp_X6_keep M x post := by
  have hL := hV.2.1
  unfold wp_X6_keep
  refine m_in (n := 2) (by decide) (by decide) (fun b hx hb ex => t1 ?_) (fun hx => f1 ?_)
  · subst ex
    have e : keepA σ (nI b) = (nI (rgO (scO σ)).length, imS σ b (wO σ)) := by simp [keepA, hx]
    rw [e] at hp
    have hb' : b = 0 ∨ b = 1 := by omega
    have k45 : ∀ (M1 : Mo), M1.1.1 = M.1.1 → (∀ j, j ≠ 11 → M1.1.2 j = M.1.2 j) → M1.2 = M.2 → (∀ j, j < 32 → M1.1.2 11 (32 * b + j) = M.1.2 7 j) → (∀ j, j < 32 * b ∨ 32 * b + 32 ≤ j → M1.1.2 11 j = M.1.2 11 j) → ∀ k i, i + k = 320 → ∀ R : Nat → Int32, (∀ j, j < i → R (320 * b + j) = M.1.2 8 j) → (∀ j, j < 320 * b ∨ 320 * b + 320 ≤ j → R j = M.1.2 13 j) → wp_X6_keep_L45 post (nI b) (k + 1) (nI i) ((M1.1.1, sa M1.1.2 13 R), M1.2) := by
      intro M1 b1 b2 b3 b4 b5 k
      induction k with
      | zero =>
        intro i hi R r1 r2
        have : i = 320 := by omega
        subst this
        rw [wp_X6_keep_L45]
        refine ⟨fun _ => ⟨vp_in_nI hb (by decide), ?_⟩, fun c => absurd (by decide) c⟩
        rw [nI_clamp (by omega)]
        intro M5 e5
        have a0 : ∀ j, j ≠ 10 → M5.1.1 j = M.1.1 j := fun j hj => by
          rw [e5]
          show upd M1.1.1 10 _ j = _
          rw [upd_at, if_neg hj, b1]
        have a10 : M5.1.1 10 = nI (mk 2 fun c => (imO (imS σ b (wO σ)) c).isSome) := by
          rw [e5]
          show M1.1.1 10 ||| (1 : Int32) <<< (nI b &&& 31) = _
          rw [b1, h.2.2.2.2.1, sh1 b (by omega), fa_or, mk_set _ hb]
          congr 1
          apply mk_cg
          intro c hc
          show _ = (if c = b then some (wO σ) else imO σ c).isSome
          by_cases q : c = b
          · simp [q]
          · simp [q]
        have a12 : ∀ j, M5.1.2 12 j = if j = b then M.1.1 9 else M.1.2 12 j := fun j => by
          rw [e5]
          show upd (sa M1.1.2 13 R 12) b (M1.1.1 9) j = _
          rw [sa_ne _ _ (by decide), b1, b2 12 (by decide)]; rfl
        have a13 : M5.1.2 13 = R := by
          rw [e5]; rfl
        have ak : ∀ j, j ≠ 12 → j ≠ 13 → M5.1.2 j = M1.1.2 j := fun j h1 h2 => by
          rw [e5]
          show sa (sa M1.1.2 13 R) 12 _ j = _
          rw [sa_ne _ _ h1, sa_ne _ _ h2]
        have a2 : M5.2 = M.2 := by rw [e5]; exact b3
        have ak' : ∀ j, j ≠ 11 → j ≠ 12 → j ≠ 13 → M5.1.2 j = M.1.2 j := fun j h0 h1 h2 => (ak j h1 h2).trans (b2 j h0)
        have e8 : M5.1.2 7 8 = nI (rgO (scO σ)).length := by rw [ak' 7 (by decide) (by decide) (by decide)]; exact h.2.2.2.1.1.2.1
        rw [e8]
        refine hp _ ?_
        have hvw := hV.2.2.2.1
        have hvi := hV.2.2.2.2.1
        obtain ⟨c1, c2, c3, c4, c5, c6, c7, c8, c9, c10⟩ := h
        have img : ∀ c w, (if c = b then some (wO σ) else imO σ c) = some w → c < 2 → (∀ w, imO σ c = some w → MN w (fun j => M.1.2 11 (32 * c + j)) (M.1.2 12 c) (fun j => M.1.2 13 (320 * c + j))) → MN w (fun j => M5.1.2 11 (32 * c + j)) (M5.1.2 12 c) (fun j => M5.1.2 13 (320 * c + j)) := by
          intro c w ew hc old
          rw [a13, ak 11 (by decide) (by decide)]
          by_cases q : c = b
          · rw [if_pos q] at ew
            have ew : wO σ = w := by simpa using ew
            rw [← ew, q]
            refine MN_cg hvw hL (fun j hj => b4 j hj) ?_ (fun j hj => r1 j hj) c4
            rw [a12, if_pos rfl]
          · rw [if_neg q] at ew
            refine MN_cg (hvi c w ew) hL (fun j hj => b5 _ (by omega)) ?_ (fun j hj => r2 _ (by omega)) (old w ew)
            rw [a12, if_neg q]
        refine ⟨?_, ?_, ?_, ?_, a10, fun w ew => ?_, fun w ew => ?_, ?_, ?_, ?_⟩
        · rw [a0 0 (by decide)]; exact c1
        · rw [a0 1 (by decide)]; exact c2
        · rw [ak' 2 (by decide) (by decide) (by decide)]; exact c3
        · rw [ak' 7 (by decide) (by decide) (by decide), a0 9 (by decide), ak' 8 (by decide) (by decide) (by decide)]; exact c4
        · have hw : VN (nO σ) (LO σ) w := by
            have ew : (if 0 = b then some (wO σ) else imO σ 0) = some w := ew
            split at ew
            · cases ew; exact hvw
            · exact hvi 0 w ew
          have := img 0 w ew (by decide) (fun w ew => MN_cg (hvi 0 w ew) hL (fun j hj => by show M.1.2 11 (32 * 0 + j) = _; rw [show 32 * 0 + j = j by omega]) rfl (fun j hj => by show M.1.2 13 (320 * 0 + j) = _; rw [show 320 * 0 + j = j by omega]) (c6 w ew))
          exact MN_cg hw hL (fun j hj => by show _ = M5.1.2 11 (32 * 0 + j); rw [show 32 * 0 + j = j by omega]) rfl (fun j hj => by show _ = M5.1.2 13 (320 * 0 + j); rw [show 320 * 0 + j = j by omega]) this
        · exact img 1 w ew (by decide) c7
        · rw [a0 14 (by decide), ak' 15 (by decide) (by decide) (by decide)]; exact c8
        · rw [a0 16 (by decide), ak' 17 (by decide) (by decide) (by decide), ak' 18 (by decide) (by decide) (by decide)]; exact c9
        · rw [a2]; exact c10
      | succ k ih =>
        intro i hi R r1 r2
        rw [wp_X6_keep_L45, show (320 : Int32) = nI 320 from rfl, pk_mul, nI_add, nI_clamp (by omega), nI_clamp (by omega), nI_clamp (by omega), nI_1]
        refine ⟨fun c => absurd c (nI_ge (by omega) (by decide)), fun _ => ⟨vp_in_nI (by omega) (by decide), vp_in_nI (by omega) (by decide), ?_⟩⟩
        rw [pma_sa]
        intro M6 e6
        rw [e6]
        have e8 : ((M1.1.1, sa M1.1.2 13 R), M1.2).1.2 8 i = M.1.2 8 i := by
          show sa M1.1.2 13 R 8 i = _
          rw [sa_ne _ _ (by decide), b2 8 (by decide)]
        rw [e8]
        refine ih (i + 1) (by omega) _ (fun j hj => ?_) (fun j hj => ?_)
        · rw [upd_at]
          by_cases q : j = i
          · rw [if_pos (by omega), q]
          · rw [if_neg (by omega)]; exact r1 j (by omega)
        · rw [upd_at, if_neg (by omega)]; exact r2 j hj
    have k14 : ∀ k i, i + k = 32 → ∀ R : Nat → Int32, (∀ j, j < i → R (32 * b + j) = M.1.2 7 j) → (∀ j, j < 32 * b ∨ 32 * b + 32 ≤ j → R j = M.1.2 11 j) → wp_X6_keep_L14 post (nI b) (k + 1) (nI i) ((M.1.1, sa M.1.2 11 R), M.2) := by
      intro k
      induction k with
      | zero =>
        intro i hi R r1 r2
        have : i = 32 := by omega
        subst this
        rw [wp_X6_keep_L14]
        refine ⟨fun _ => ?_, fun c => absurd (by decide) c⟩
        have k0 := k45 ((M.1.1, sa M.1.2 11 R), M.2) rfl (fun j hj => sa_ne _ _ hj) rfl (fun j hj => by show sa M.1.2 11 R 11 _ = _; rw [sa_at]; exact r1 j hj) (fun j hj => by show sa M.1.2 11 R 11 _ = _; rw [sa_at]; exact r2 j hj) 320 0 rfl (M.1.2 13) (fun j hj => absurd hj (by omega)) (fun _ _ => rfl)
        have e13 : ((M.1.1, sa M.1.2 11 R), M.2).1.2 13 = M.1.2 13 := rfl
        rw [← e13, sa_self] at k0
        exact ⟨_, k0⟩
      | succ k ih =>
        intro i hi R r1 r2
        rw [wp_X6_keep_L14, show (32 : Int32) = nI 32 from rfl, pk_mul, nI_add, nI_clamp (by omega), nI_clamp (by omega), nI_1]
        refine ⟨fun c => absurd c (nI_ge (by omega) (by decide)), fun _ => ⟨vp_in_nI (by omega) (by decide), vp_in_nI (by omega) (by decide), ?_⟩⟩
        rw [pma_sa]
        intro M6 e6
        rw [e6]
        have e8 : ((M.1.1, sa M.1.2 11 R), M.2).1.2 7 i = M.1.2 7 i := by
          show sa M.1.2 11 R 7 i = _
          rw [sa_ne _ _ (by decide)]
        rw [e8]
        refine ih (i + 1) (by omega) _ (fun j hj => ?_) (fun j hj => ?_)
        · rw [upd_at]
          by_cases q : j = i
          · rw [if_pos (by omega), q]
          · rw [if_neg (by omega)]; exact r1 j (by omega)
        · rw [upd_at, if_neg (by omega)]; exact r2 j hj
    have k0 := k14 32 0 rfl (M.1.2 11) (fun j hj => absurd hj (by omega)) (fun _ _ => rfl)
    rw [sa_self] at k0
    exact ⟨_, k0⟩
  · have e : keepA σ x = (-1, σ) := by simp [keepA, hx]
    rw [e] at hp; exact hp M h
theorem m_back (hV : VS σ) (h : RM σ M) (x : Int32) {post : Int32 → Mo → Prop} (hp : ∀ M', RM (backA σ x).2 M' → post (backA σ x).1 M') : wp_X6_back M x post := by
  have hL := hV.2.1
  unfold wp_X6_back
  refine m_in (n := 2) (by decide) (by decide) (fun b hx hb ex => t1 ?_) (fun hx => f1 ?_)
  · subst ex
    rw [h.2.2.2.2.1]
    have hb' : b = 0 ∨ b = 1 := by omega
    have et : (mk 2 fun b => (imO σ b).isSome).testBit b = (imO σ b).isSome := by rw [mk_tb]; simp [hb]
    refine m_has (Nat.lt_of_lt_of_le (mk_lt _ 2) (by decide)) (by omega) (fun hk => t1 ?_) (fun hk => f1 ?_)
    · rw [et] at hk
      obtain ⟨w, hw⟩ := Option.isSome_iff_exists.mp hk
      have e : backA σ (nI b) = (nI (rgO w.1).length, wS σ w) := by simp [backA, hx, hw]
      rw [e] at hp
      have hvw := hV.2.2.2.2.1 b w hw
      have hold : MN w (fun j => M.1.2 11 (32 * b + j)) (M.1.2 12 b) (fun j => M.1.2 13 (320 * b + j)) := by
        rcases hb' with rfl | rfl
        · exact MN_cg hvw hL (fun j hj => by show M.1.2 11 (32 * 0 + j) = _; rw [show 32 * 0 + j = j by omega]) rfl (fun j hj => by show M.1.2 13 (320 * 0 + j) = _; rw [show 320 * 0 + j = j by omega]) (h.2.2.2.2.2.1 w hw)
        · exact h.2.2.2.2.2.2.1 w hw
      have k59 : ∀ (M1 : Mo), M1.1.1 = M.1.1 → (∀ j, j ≠ 7 → M1.1.2 j = M.1.2 j) → M1.2 = M.2 → (∀ j, j < 32 → M1.1.2 7 j = M.1.2 11 (32 * b + j)) → ∀ k i, i + k = 320 → ∀ R : Nat → Int32, (∀ j, j < i → R j = M.1.2 13 (320 * b + j)) → wp_X6_back_L59 post (nI b) (k + 1) (nI i) ((M1.1.1, sa M1.1.2 8 R), M1.2) := by
        intro M1 b1 b2 b3 b4 k
        induction k with
        | zero =>
          intro i hi R r1
          have : i = 320 := by omega
          subst this
          rw [wp_X6_back_L59]
          refine ⟨fun _ => ⟨vp_in_nI hb (by decide), ?_⟩, fun c => absurd (by decide) c⟩
          rw [nI_clamp (by omega)]
          have e12 : ((M1.1.1, sa M1.1.2 8 R), M1.2).1.2 12 b = nI w.2.1 := by
            show sa M1.1.2 8 R 12 b = _
            rw [sa_ne _ _ (by decide), b2 12 (by decide)]; exact hold.2.1
          rw [e12]
          have hM : MN w (sa M1.1.2 8 R 7) (nI w.2.1) R := by
            rw [sa_ne _ _ (by decide)]
            exact MN_cg hvw hL b4 hold.2.1.symm r1 hold
          have e8 : (pmf ((M1.1.1, sa M1.1.2 8 R), M1.2) 9 (nI w.2.1)).1.2 7 8 = nI (rgO w.1).length := hM.1.2.1
          rw [e8]
          refine hp _ (RM_w h (fun j hj => ?_) (fun j h7 h8 => ?_) b3 ?_)
          · show upd M1.1.1 9 _ j = _
            rw [upd_at, if_neg hj, b1]
          · show sa M1.1.2 8 R j = _
            rw [sa_ne _ _ h8]; exact b2 j h7
          · show MN w (sa M1.1.2 8 R 7) (nI w.2.1) (sa M1.1.2 8 R 8)
            rw [sa_at]; exact hM
        | succ k ih =>
          intro i hi R r1
          rw [wp_X6_back_L59, show (320 : Int32) = nI 320 from rfl, pk_mul, nI_add, nI_clamp (by omega), nI_clamp (by omega), nI_clamp (by omega), nI_1]
          refine ⟨fun c => absurd c (nI_ge (by omega) (by decide)), fun _ => ⟨vp_in_nI (by omega) (by decide), vp_in_nI (by omega) (by decide), ?_⟩⟩
          rw [pma_sa]
          intro M6 e6
          rw [e6]
          have e8 : ((M1.1.1, sa M1.1.2 8 R), M1.2).1.2 13 (320 * b + i) = M.1.2 13 (320 * b + i) := by
            show sa M1.1.2 8 R 13 _ = _
            rw [sa_ne _ _ (by decide), b2 13 (by decide)]
          rw [e8]
          refine ih (i + 1) (by omega) _ (fun j hj => ?_)
          rw [upd_at]
          by_cases q : j = i
          · rw [if_pos q, q]
          · rw [if_neg q]; exact r1 j (by omega)
      have k28 : ∀ k i, i + k = 32 → ∀ R : Nat → Int32, (∀ j, j < i → R j = M.1.2 11 (32 * b + j)) → wp_X6_back_L28 post (nI b) (k + 1) (nI i) ((M.1.1, sa M.1.2 7 R), M.2) := by
        intro k
        induction k with
        | zero =>
          intro i hi R r1
          have : i = 32 := by omega
          subst this
          rw [wp_X6_back_L28]
          refine ⟨fun _ => ?_, fun c => absurd (by decide) c⟩
          have k0 := k59 ((M.1.1, sa M.1.2 7 R), M.2) rfl (fun j hj => sa_ne _ _ hj) rfl (fun j hj => by show sa M.1.2 7 R 7 _ = _; rw [sa_at]; exact r1 j hj) 320 0 rfl (M.1.2 8) (fun j hj => absurd hj (by omega))
          have e13 : ((M.1.1, sa M.1.2 7 R), M.2).1.2 8 = M.1.2 8 := rfl
          rw [← e13, sa_self] at k0
          exact ⟨_, k0⟩
        | succ k ih =>
          intro i hi R r1
          rw [wp_X6_back_L28, show (32 : Int32) = nI 32 from rfl, pk_mul, nI_add, nI_clamp (by omega), nI_clamp (by omega), nI_1]
          refine ⟨fun c => absurd c (nI_ge (by omega) (by decide)), fun _ => ⟨vp_in_nI (by omega) (by decide), vp_in_nI (by omega) (by decide), ?_⟩⟩
          rw [pma_sa]
          intro M6 e6
          rw [e6]
          have e8 : ((M.1.1, sa M.1.2 7 R), M.2).1.2 11 (32 * b + i) = M.1.2 11 (32 * b + i) := by
            show sa M.1.2 7 R 11 _ = _
            rw [sa_ne _ _ (by decide)]
          rw [e8]
          refine ih (i + 1) (by omega) _ (fun j hj => ?_)
          rw [upd_at]
          by_cases q : j = i
          · rw [if_pos q, q]
          · rw [if_neg q]; exact r1 j (by omega)
      have k0 := k28 32 0 rfl (M.1.2 7) (fun j hj => absurd hj (by omega))
      rw [sa_self] at k0
      exact ⟨_, k0⟩
    · rw [et] at hk
      have hi : imO σ b = none := by simpa using hk
      have e : backA σ (nI b) = (-2, σ) := by simp [backA, hx, hi]
      rw [e] at hp; exact hp M h
  · have e : backA σ x = (-1, σ) := by simp [backA, hx]
    rw [e] at hp; exact hp M h
/-! text -/
def txS (σ : St) (t : Nat × (Nat → Nat)) : St := (nO σ, LO σ, frO σ, wO σ, imO σ, t, heO σ, trO σ)
def typeA (σ : St) (x : Int32) : Int32 × St :=
  match pOf 256 x with
  | some c => if (txO σ).1 < 150 then (nI ((txO σ).1 + 1), txS σ ((txO σ).1 + 1, upN (txO σ).2 (txO σ).1 c)) else (-3, σ)
  | none => (-1, σ)
def clearA (σ : St) : Int32 × St := (nI (txO σ).1, txS σ (0, (txO σ).2))
theorem v_type (hV : VS σ) (x : Int32) : VS (typeA σ x).2 := by
  unfold typeA
  split
  · next c hc =>
    split
    · next hl =>
      obtain ⟨a1, a2, a3, a4, a5, a6, a7⟩ := hV
      exact ⟨a1, a2, a3, a4, a5, ⟨by show (txO σ).1 + 1 ≤ 150; omega, upN_lt a6.2 (pOf_of (by decide) hc).1⟩, a7⟩
    · exact hV
  · exact hV
theorem v_clear (hV : VS σ) : VS (clearA σ).2 := by
  obtain ⟨a1, a2, a3, a4, a5, a6, a7⟩ := hV
  exact ⟨a1, a2, a3, a4, a5, ⟨Nat.zero_le _, a6.2⟩, a7⟩
theorem TX_push {t : Nat × (Nat → Nat)} {u : Int32} {R : Nat → Int32} (h : TX t u R) (c : Nat) : TX (t.1 + 1, upN t.2 t.1 c) (nI (t.1 + 1)) (upd R t.1 (nI c)) := by
  refine ⟨rfl, fun i hi => ?_⟩
  have hi : i < t.1 + 1 := hi
  show upd R t.1 (nI c) i = nI (upN t.2 t.1 c i)
  unfold upd upN
  by_cases e : i = t.1
  · rw [if_pos e, if_pos e]
  · rw [if_neg e, if_neg e]; exact h.2 i (by omega)
theorem RC_tx (h : RC σ Z) {t : Nat × (Nat → Nat)} {S : Ob} (ht : TX t (S.1 1) (S.2 0)) : RC (txS σ t) (gx Z 1 S) := by
  obtain ⟨a1, a2, a3, a4, a5, a6, a7, a8, a9⟩ := h
  exact ⟨a1, a2, a3, a4, a5, a6, ht, a8, a9⟩
theorem RM_tx (h : RM σ M) {t : Nat × (Nat → Nat)} {M' : Mo} (e0 : ∀ k, k ≠ 14 → M'.1.1 k = M.1.1 k) (e1 : ∀ k, k ≠ 15 → M'.1.2 k = M.1.2 k) (e2 : M'.2 = M.2) (ht : TX t (M'.1.1 14) (M'.1.2 15)) : RM (txS σ t) M' := by
  obtain ⟨a1, a2, a3, a4, a5, a6, a7, a8, a9, a10⟩ := h
  refine ⟨?_, ?_, ?_, ?_, ?_, ?_, ?_, ht, ?_, ?_⟩
  · rw [e0 0 (by decide)]; exact a1
  · rw [e0 1 (by decide)]; exact a2
  · rw [e1 2 (by decide)]; exact a3
  · rw [e1 7 (by decide), e0 9 (by decide), e1 8 (by decide)]; exact a4
  · rw [e0 10 (by decide)]; exact a5
  · rw [e1 11 (by decide), e1 12 (by decide), e1 13 (by decide)]; exact a6
  · rw [e1 11 (by decide), e1 12 (by decide), e1 13 (by decide)]; exact a7
  · rw [e0 16 (by decide), e1 17 (by decide), e1 18 (by decide)]; exact a9
  · rw [e2]; exact a10
theorem c_type (hV : VS σ) (h : RC σ Z) (x : Int32) {post : Int32 → GC → Prop} (hp : ∀ Z', RC (typeA σ x).2 Z' → post (typeA σ x).1 Z') : wp_X5_type Z x post := by
  have ht := h.2.2.2.2.2.2.1
  have hl := hV.2.2.2.2.2.1.1
  unfold wp_X5_type
  refine c_in3 (n := 255) (by decide) (fun c hx hc ex => ?_) (fun hx => ?_)
  · subst ex
    unfold wp_X4_append
    rw [ht.1, show (150 : Int32) = nI 150 from rfl, nI_ltI (by omega) (by decide), nI_clamp (by omega)]
    refine ⟨fun q => ⟨vp_in_nI q (by decide), fun S2 e2 Z5 e5 => ?_⟩, fun q => ?_⟩
    · have e : typeA σ (nI c) = (nI ((txO σ).1 + 1), txS σ ((txO σ).1 + 1, upN (txO σ).2 (txO σ).1 c)) := by simp [typeA, hx, q]
      rw [e] at hp
      have e1 : S2.1 1 + 1 = nI ((txO σ).1 + 1) := by rw [e2]; show (Z.2.1 1).1 1 + 1 = _; rw [ht.1, nI_1]
      rw [e1] at e5 ⊢
      subst e5
      refine hp _ (RC_tx h ?_)
      rw [e2]
      exact TX_push ht c
    · have e : typeA σ (nI c) = (-3, σ) := by simp [typeA, hx, q]
      rw [e] at hp
      intro Z5 e5
      have : Z5 = Z := by
        rw [e5]
        unfold gx
        have : (fun j => if j = 1 then Z.2.1 1 else Z.2.1 j) = Z.2.1 := by
          funext j
          split
          · next q => rw [q]
          · rfl
        rw [this]
      rw [this]; exact hp Z h
  · have e : typeA σ x = (-1, σ) := by simp [typeA, hx]
    rw [e] at hp; exact hp Z h
theorem m_type (hV : VS σ) (h : RM σ M) (x : Int32) {post : Int32 → Mo → Prop} (hp : ∀ M', RM (typeA σ x).2 M' → post (typeA σ x).1 M') : wp_X6_type M x post := by
  have ht := h.2.2.2.2.2.2.2.1
  have hl := hV.2.2.2.2.2.1.1
  unfold wp_X6_type
  refine m_in (n := 256) (by decide) (by decide) (fun c hx hc ex => t1 ?_) (fun hx => f1 ?_)
  · subst ex
    rw [ht.1, show (150 : Int32) = nI 150 from rfl, nI_eq (by omega) (by decide), nI_clamp (by omega)]
    refine ⟨fun q => ⟨vp_in_nI (by omega) (by decide), fun M4 e4 => ?_⟩, fun q => ?_⟩
    · have e : typeA σ (nI c) = (nI ((txO σ).1 + 1), txS σ ((txO σ).1 + 1, upN (txO σ).2 (txO σ).1 c)) := by
        have : (txO σ).1 < 150 := by omega
        simp [typeA, hx, this]
      rw [e] at hp
      have e1 : M4.1.1 14 + 1 = nI ((txO σ).1 + 1) := by rw [e4]; show M.1.1 14 + 1 = _; rw [ht.1, nI_1]
      rw [e1]
      refine hp _ (RM_tx h (fun k hk => ?_) (fun k hk => ?_) ?_ ?_)
      · show upd M4.1.1 14 _ k = _
        rw [upd_at, if_neg hk, e4]; rfl
      · rw [e4]
        exact sa_ne _ _ hk
      · rw [e4]; rfl
      · rw [e4]
        exact TX_push ht c
    · have e : typeA σ (nI c) = (-3, σ) := by simp [typeA, hx, q]
      rw [e] at hp; exact hp M h
  · have e : typeA σ x = (-1, σ) := by simp [typeA, hx]
    rw [e] at hp; exact hp M h
theorem c_clear (hV : VS σ) (h : RC σ Z) {post : Int32 → GC → Prop} (hp : ∀ Z', RC (clearA σ).2 Z' → post (clearA σ).1 Z') : wp_X5_clear Z post := by
  have ht := h.2.2.2.2.2.2.1
  unfold wp_X5_clear wp_X4_empty
  intro Z3 e3
  subst e3
  rw [ht.1]
  exact hp _ (RC_tx h ⟨rfl, fun i hi => absurd hi (by show ¬ i < 0; omega)⟩)
theorem m_clear (hV : VS σ) (h : RM σ M) {post : Int32 → Mo → Prop} (hp : ∀ M', RM (clearA σ).2 M' → post (clearA σ).1 M') : wp_X6_clear M post := by
  have ht := h.2.2.2.2.2.2.2.1
  unfold wp_X6_clear
  rw [ht.1]
  refine hp _ (RM_tx h (fun k hk => ?_) (fun k hk => rfl) rfl ⟨rfl, fun i hi => absurd hi (by show ¬ i < 0; omega)⟩)
  show upd M.1.1 14 _ k = _
  rw [upd_at, if_neg hk]
end G
