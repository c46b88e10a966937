/-! ===== pure: what was heard ===== -/
theorem ps_nil : ps [] = List.range 1000 := by
  unfold ps
  rw [List.filter_eq_self]
  intro x _
  rfl
theorem ps_add (he : List (Nat × Nat)) (c r : Nat) : ps (he ++ [(c, r)]) = (ps he).filter (fun x => decide (rw3 x c = r)) := by
  unfold ps
  rw [List.filter_filter]
  apply List.filter_congr
  intro x _
  unfold fitB
  rw [List.all_append, Bool.and_comm]
  simp
theorem ps_len (he : List (Nat × Nat)) : (ps he).length ≤ 1000 := by
  have := List.length_filter_le (fitB he) (List.range 1000)
  rw [List.length_range] at this
  exact this
theorem ps_lt {he : List (Nat × Nat)} {x : Nat} (h : x ∈ ps he) : x < 1000 := List.mem_range.mp (List.mem_filter.mp h).1
theorem rg_gd {n i : Nat} (h : i < n) : (List.range n).getD i 0 = i := by
  rw [List.getD_eq_getElem?_getD, List.getElem?_range h]; rfl
theorem c_forgetAll {S : Ob} {post : Ob → Prop} (hp : ∀ S', RR [] S' → post S') : wp_X2_forgetAll S post := by
  have key : ∀ k i, i + k = 1000 → ∀ S1 : Ob, (∀ j, j < i → S1.2 0 j = nI j) → wp_X2_forgetAll_L2 post (k + 1) (nI i) S1 := by
    intro k
    induction k with
    | zero =>
      intro i hi S1 h1
      have : i = 1000 := by omega
      subst this
      rw [wp_X2_forgetAll_L2]
      refine ⟨fun _ S2 e2 => hp _ ?_, fun c => absurd (by decide) c⟩
      subst e2
      unfold RR
      rw [ps_nil, List.length_range]
      refine ⟨rfl, rfl, fun j hj => ?_⟩
      rw [rg_gd hj]
      exact h1 j hj
    | succ k ih =>
      intro i hi S1 h1
      rw [wp_X2_forgetAll_L2, nI_clamp (by omega), nI_1]
      refine ⟨fun c => absurd c (nI_ge (b := 1000) (by omega) (by decide)), fun _ => ⟨vp_in_nI (by omega) (by decide), ih (i + 1) (by omega) _ (fun j hj => ?_)⟩⟩
      show upd (S1.2 0) i (nI i) j = _
      rw [upd_at]
      by_cases e : j = i
      · rw [if_pos e, e]
      · rw [if_neg e]; exact h1 j (by omega)
  exact ⟨_, key 1000 0 rfl S (fun j hj => absurd hj (by omega))⟩
theorem c_add {he : List (Nat × Nat)} {S : Ob} (h : RR he S) {c r : Nat} (hc : c < 1000) (hr : r ≤ 3) {post : Ob → Prop} (hp : ∀ S', RR (he ++ [(c, r)]) S' → post S') : wp_X2_add S (nI c) (nI r) post := by
  obtain ⟨h1, h2, h3⟩ := h
  have hlen := ps_len he
  have hadd := ps_add he c r
  have hlt : ∀ x, x ∈ ps he → x < 1000 := fun x hx => ps_lt hx
  generalize ps he = P at *
  have hfl : ∀ i, i ≤ P.length → ((P.take i).filter (fun x => decide (rw3 x c = r))).length ≤ i := fun i hi => Nat.le_trans (List.length_filter_le _ _) (by rw [List.length_take]; omega)
  have key : ∀ k i, i + k = P.length → ∀ S1 : Ob, S1.1 = S.1 → (∀ j, j < ((P.take i).filter (fun x => decide (rw3 x c = r))).length → S1.2 0 j = nI (((P.take i).filter (fun x => decide (rw3 x c = r))).getD j 0)) → (∀ j, i ≤ j → S1.2 0 j = S.2 0 j) → wp_X2_add_L5 post (nI c) (nI r) (k + 1) (nI ((P.take i).filter (fun x => decide (rw3 x c = r))).length) (nI i) S1 := by
    intro k
    induction k with
    | zero =>
      intro i hi S1 a1 a2 a3
      have : i = P.length := by omega
      subst this
      rw [wp_X2_add_L5, a1, h1]
      refine ⟨fun _ S2 e2 => hp _ ?_, fun c => absurd (nI_le (Nat.le_refl _) (by omega)) c⟩
      rw [List.take_length, ← hadd] at a2 e2
      subst e2
      refine ⟨rfl, ?_, a2⟩
      show S1.1 2 + 1 = _
      rw [a1, h2, nI_1, List.length_append]
      rfl
    | succ k ih =>
      intro i hi S1 a1 a2 a3
      have hil : i < P.length := by omega
      have hf := hfl i (by omega)
      have hx := hlt _ (gd_mem hil)
      have er : S1.2 0 i = nI (P.getD i 0) := by rw [a3 i (Nat.le_refl _)]; exact h3 i hil
      have h3' := rw3_le (P.getD i 0) c
      rw [wp_X2_add_L5, a1, h1, nI_clamp (by omega), nI_clamp (by omega), er, nI_1]
      refine ⟨fun c => absurd c (nI_ge hil (by omega)), fun _ => ⟨fun c => absurd c (nI_ge (b := 1000) (by omega) (by decide)), fun _ => ⟨vp_in_nI (by omega) (by decide), c_right hx hc ?_⟩⟩⟩
      rw [nI_eq (by omega) (by omega)]
      have ih1 := ih (i + 1) (by omega)
      rw [take_1 hil, List.filter_append] at ih1
      refine ⟨fun q => ?_, fun q => ⟨vp_in_nI (by omega) (by decide), vp_in_nI (by omega) (by decide), fun S2 e2 => ?_⟩⟩
      · rw [List.filter_cons_of_neg (by simpa using q), List.filter_nil, List.append_nil] at ih1
        exact ih1 S1 a1 a2 (fun j hj => a3 j (by omega))
      · rw [List.filter_cons_of_pos (by simpa using q), List.filter_nil, List.length_append] at ih1
        subst e2
        rw [nI_1]
        refine ih1 _ a1 (fun j hj => ?_) (fun j hj => ?_)
        · show upd (S1.2 0) _ _ j = _
          rw [upd_at]
          have hj : j < ((P.take i).filter (fun x => decide (rw3 x c = r))).length + 1 := hj
          by_cases e : j = ((P.take i).filter (fun x => decide (rw3 x c = r))).length
          · rw [if_pos e, e, gd_app2 (Nat.le_refl _), Nat.sub_self]; rfl
          · rw [if_neg e, gd_app1 (by omega)]; exact a2 j (by omega)
        · show upd (S1.2 0) _ _ j = _
          rw [upd_at, if_neg (by omega)]; exact a3 j (by omega)
  have k0 := key P.length 0 (by omega) S rfl (fun j hj => absurd hj (by simp)) (fun _ _ => rfl)
  exact ⟨_, k0⟩
def heS (σ : St) (he : List (Nat × Nat)) : St := (nO σ, LO σ, frO σ, wO σ, imO σ, txO σ, he, trO σ)
def hearsA (σ : St) (x y : Int32) : Int32 × St :=
  match pOf 1000 x, pOf 4 y with
  | some c, some r => if (heO σ).length < 4 then (nI ((heO σ).length + 1), heS σ (heO σ ++ [(c, r)])) else (-3, σ)
  | _, _ => (-1, σ)
def forgetA (σ : St) : Int32 × St := (nI (heO σ).length, heS σ [])
def codesA (σ : St) (x : Int32) : Int32 :=
  match pOf 2 x with
  | some 0 => nI (ps (heO σ)).length
  | some 1 => if (ps (heO σ)).length = 0 then -9 else nI ((ps (heO σ)).getD 0 0)
  | _ => -1
section G
variable {σ : St} {Z : GC} {M : Mo}
theorem v_he (hV : VS σ) {he : List (Nat × Nat)} (h4 : he.length ≤ 4) (hb : ∀ e, e ∈ he → e.1 < 1000 ∧ e.2 ≤ 3) : VS (heS σ he) := by
  obtain ⟨a1, a2, a3, a4, a5, a6, a7⟩ := hV
  exact ⟨a1, a2, a3, a4, a5, a6, h4, hb⟩
theorem v_hears (hV : VS σ) (x y : Int32) : VS (hearsA σ x y).2 := by
  unfold hearsA
  split
  · next c r hc hr =>
    split
    · next hl =>
      refine v_he hV (by rw [List.length_append]; show (heO σ).length + 1 ≤ 4; omega) (fun e he => ?_)
      rcases List.mem_append.mp he with q | q
      · exact hV.2.2.2.2.2.2.2 e q
      · rw [List.mem_singleton.mp q]
        exact ⟨(pOf_of (by decide) hc).1, Nat.le_of_lt_succ (pOf_of (by decide) hr).1⟩
    · exact hV
  · exact hV
theorem v_forget (hV : VS σ) : VS (forgetA σ).2 := v_he hV (Nat.zero_le _) (fun e he => by cases he)
theorem RC_he (h : RC σ Z) {he : List (Nat × Nat)} {S : Ob} (hs : RR he S) : RC (heS σ he) (gx Z 6 S) := by
  obtain ⟨a1, a2, a3, a4, a5, a6, a7, a8, a9⟩ := h
  exact ⟨a1, a2, a3, a4, a5, a6, a7, hs, a9⟩
theorem RM_he (h : RM σ M) {he : List (Nat × Nat)} {M' : Mo} (e0 : ∀ k, k ≠ 16 → M'.1.1 k = M.1.1 k) (e1 : ∀ k, k ≠ 17 → k ≠ 18 → M'.1.2 k = M.1.2 k) (e2 : M'.2 = M.2) (ht : HM he (M'.1.1 16) (M'.1.2 17) (M'.1.2 18)) : RM (heS σ he) M' := by
  obtain ⟨a1, a2, a3, a4, a5, a6, a7, a8, a9, a10⟩ := h
  refine ⟨?_, ?_, ?_, ?_, ?_, ?_, ?_, ?_, ht, ?_⟩
  · rw [e0 0 (by decide)]; exact a1
  · rw [e0 1 (by decide)]; exact a2
  · rw [e1 2 (by decide) (by decide)]; exact a3
  · rw [e1 7 (by decide) (by decide), e0 9 (by decide), e1 8 (by decide) (by decide)]; exact a4
  · rw [e0 10 (by decide)]; exact a5
  · rw [e1 11 (by decide) (by decide), e1 12 (by decide) (by decide), e1 13 (by decide) (by decide)]; exact a6
  · rw [e1 11 (by decide) (by decide), e1 12 (by decide) (by decide), e1 13 (by decide) (by decide)]; exact a7
  · rw [e0 14 (by decide), e1 15 (by decide) (by decide)]; exact a8
  · rw [e2]; exact a10
theorem c_forget (hV : VS σ) (h : RC σ Z) {post : Int32 → GC → Prop} (hp : ∀ Z', RC (forgetA σ).2 Z' → post (forgetA σ).1 Z') : wp_X5_forget Z post := by
  unfold wp_X5_forget
  refine c_forgetAll (fun S' hS Z2 e2 => ?_)
  subst e2
  rw [h.2.2.2.2.2.2.2.1.2.1]
  exact hp _ (RC_he h hS)
theorem m_forget (hV : VS σ) (h : RM σ M) {post : Int32 → Mo → Prop} (hp : ∀ M', RM (forgetA σ).2 M' → post (forgetA σ).1 M') : wp_X6_forget M post := by
  unfold wp_X6_forget
  rw [h.2.2.2.2.2.2.2.2.1.1]
  refine hp _ (RM_he h (fun k hk => ?_) (fun _ _ _ => rfl) rfl ⟨rfl, fun i hi => absurd hi (by show ¬ i < 0; omega)⟩)
  show upd M.1.1 16 _ k = _
  rw [upd_at, if_neg hk]
theorem c_hears (hV : VS σ) (h : RC σ Z) (x y : Int32) {post : Int32 → GC → Prop} (hp : ∀ Z', RC (hearsA σ x y).2 Z' → post (hearsA σ x y).1 Z') : wp_X5_hears Z x y post := by
  have hr := h.2.2.2.2.2.2.2.1
  have h4 := hV.2.2.2.2.2.2.1
  unfold wp_X5_hears
  unfold hearsA at hp
  refine c_isNumber (fun c hx hc ex => t2 ?_) (fun hx => f2 ?_)
  · rw [hx] at hp
    subst ex
    refine c_in3 (n := 3) (by decide) (fun r hy hrr ey => ?_) (fun hy => by rw [hy] at hp; exact hp Z h)
    rw [hy] at hp
    subst ey
    rw [hr.2.1, show (4 : Int32) = nI 4 from rfl, nI_ltI (by omega) (by decide)]
    refine ⟨fun q => c_add hr hc (by omega) (fun S' hS Z7 e7 => ?_), fun q => ?_⟩
    · simp only [if_pos q] at hp
      subst e7
      have e : ((gx Z 6 S').2.1 6).1 2 = nI ((heO σ).length + 1) := by
        show S'.1 2 = _
        rw [hS.2.1, List.length_append]; rfl
      rw [e]
      exact hp _ (RC_he h hS)
    · simp only [if_neg q] at hp; exact hp Z h
  · rw [hx] at hp; exact hp Z h
theorem m_hears (hV : VS σ) (h : RM σ M) (x y : Int32) {post : Int32 → Mo → Prop} (hp : ∀ M', RM (hearsA σ x y).2 M' → post (hearsA σ x y).1 M') : wp_X6_hears M x y post := by
  have hr := h.2.2.2.2.2.2.2.2.1
  have h4 := hV.2.2.2.2.2.2.1
  unfold wp_X6_hears
  unfold hearsA at hp
  refine m_999 (fun c hx hc ex => t2 ?_) (fun hx => f2 ?_)
  · rw [hx] at hp
    subst ex
    refine m_in (n := 4) (by decide) (by decide) (fun r hy hrr ey => t1 ?_) (fun hy => f1 (by rw [hy] at hp; exact hp M h))
    rw [hy] at hp
    subst ey
    rw [hr.1, show (4 : Int32) = nI 4 from rfl, nI_eq (by omega) (by decide), nI_clamp (by omega)]
    refine ⟨fun q => ⟨vp_in_nI (by omega) (by decide), fun M6 e6 => ?_⟩, fun q => ?_⟩
    · have hl : (heO σ).length < 4 := by omega
      simp only [if_pos hl] at hp
      have e16 : M6.1.1 16 = nI (heO σ).length := by rw [e6]; exact hr.1
      rw [e16, nI_clamp (by omega)]
      refine ⟨vp_in_nI hl (by decide), fun M7 e7 => ?_⟩
      have e17 : M7.1.1 16 + 1 = nI ((heO σ).length + 1) := by rw [e7]; show M6.1.1 16 + 1 = _; rw [e16, nI_1]
      rw [e17]
      refine hp _ (RM_he h (fun k hk => ?_) (fun k h1 h2 => ?_) ?_ ⟨?_, fun i hi => ?_⟩)
      · show upd M7.1.1 16 _ k = _
        rw [upd_at, if_neg hk, e7, e6]; rfl
      · rw [e7, e6]
        show sa (sa M.1.2 17 _) 18 _ k = _
        rw [sa_ne _ _ h2, sa_ne _ _ h1]
      · rw [e7, e6]; rfl
      · show nI ((heO σ).length + 1) = _
        rw [List.length_append]; rfl
      · rw [e7, e6]
        show upd (M.1.2 17) (heO σ).length (nI c) i = _ ∧ upd (M.1.2 18) (heO σ).length (nI r) i = _
        rw [List.length_append] at hi
        have hi : i < (heO σ).length + 1 := hi
        rw [upd_at, upd_at]
        by_cases e : i = (heO σ).length
        · have : (heO σ ++ [(c, r)]).getD i (0, 0) = (c, r) := by
            rw [List.getD_eq_getElem?_getD, List.getElem?_append_right (by omega), e, Nat.sub_self]; rfl
          rw [if_pos e, if_pos e, this]
          exact ⟨rfl, rfl⟩
        · have : (heO σ ++ [(c, r)]).getD i (0, 0) = (heO σ).getD i (0, 0) := by
            rw [List.getD_eq_getElem?_getD, List.getElem?_append_left (by omega), List.getD_eq_getElem?_getD]
          rw [if_neg e, if_neg e, this]
          exact hr.2 i (by omega)
    · simp only [if_neg (show ¬ (heO σ).length < 4 by omega)] at hp; exact hp M h
  · rw [hx] at hp; exact hp M h
theorem p20 : pOf 2 0 = some 0 := by decide
theorem p21 : pOf 2 1 = some 1 := by decide
theorem c_codes (hV : VS σ) (h : RC σ Z) (x : Int32) {post : Int32 → Prop} (hp : post (codesA σ x)) : wp_X5_codes Z x post := by
  have hr := h.2.2.2.2.2.2.2.1
  have hl := ps_len (heO σ)
  unfold wp_X5_codes
  unfold codesA at hp
  rw [hr.1]
  refine ⟨fun e => ?_, fun e => ?_, fun e => ?_⟩
  · subst e; rw [p20] at hp; exact hp
  · subst e; rw [p21] at hp
    rw [show (0 : Int32) = nI 0 from rfl, nI_eq (by omega) (by decide)]
    refine ⟨fun q => ?_, fun q => ?_⟩
    · simp only [if_neg q] at hp
      rw [hr.2.2 0 (by omega)]; exact hp
    · simp only [if_pos q] at hp; exact hp
  · rw [pOf_out (n := 2) e] at hp; exact hp
/-- whether it can be this one, by the model -/
theorem m_fits (hV : VS σ) (h : RM σ M) {x : Nat} (hx : x < 1000) {post : Int32 → Prop} (h1 : fitB (heO σ) x = true → post 1) (h0 : fitB (heO σ) x = false → post 0) : wp_X6_fits M (nI x) post := by
  have hr := h.2.2.2.2.2.2.2.2.1
  have h4 := hV.2.2.2.2.2.2.1
  have hb := hV.2.2.2.2.2.2.2
  have key : ∀ k i, i + k = (heO σ).length → wp_X6_fits_L4 post (nI x) M (k + 1) (bI (fitB ((heO σ).take i) x)) (nI i) := by
    intro k
    induction k with
    | zero =>
      intro i hi
      have : i = (heO σ).length := by omega
      subst this
      rw [wp_X6_fits_L4, hr.1, List.take_length]
      refine ⟨fun _ => ?_, fun c => absurd (nI_le (Nat.le_refl _) (by omega)) c⟩
      cases q : fitB (heO σ) x with
      | true => exact ⟨nar1, h1 q⟩
      | false => exact ⟨nar0, h0 q⟩
    | succ k ih =>
      intro i hi
      have hil : i < (heO σ).length := by omega
      rw [wp_X6_fits_L4, hr.1, nI_clamp (by omega), nI_1, (hr.2 i hil).1, (hr.2 i hil).2]
      have ih1 := ih (i + 1) (by omega)
      have hm : (heO σ).getD i (0, 0) ∈ heO σ := by
        rw [List.getD_eq_getElem?_getD, List.getElem?_eq_getElem hil]; exact List.getElem_mem hil
      have et : (heO σ).take (i + 1) = (heO σ).take i ++ [(heO σ).getD i (0, 0)] := by
        rw [List.take_succ, List.getD_eq_getElem?_getD, List.getElem?_eq_getElem hil]
        rfl
      obtain ⟨b1, b2⟩ := hb _ hm
      have ef : fitB ((heO σ).take (i + 1)) x = (fitB ((heO σ).take i) x && decide (rw3 x ((heO σ).getD i (0, 0)).1 = ((heO σ).getD i (0, 0)).2)) := by
        unfold fitB
        rw [et, List.all_append]
        simp
      rw [ef] at ih1
      refine ⟨fun c => absurd c (nI_ge hil (by omega)), fun _ => ?_⟩
      cases q : fitB ((heO σ).take i) x with
      | false =>
        rw [q] at ih1
        exact f2 ih1
      | true =>
        rw [q] at ih1
        refine t2 ⟨vp_in_nI (by omega) (by decide), m_right hx b1 ⟨vp_in_nI (by omega) (by decide), ?_⟩⟩
        have h3 := rw3_le x ((heO σ).getD i (0, 0)).1
        rw [nI_eq (by omega) (by omega)]
        refine ⟨fun c => ?_, fun c => ?_⟩
        · simp only [c, decide_false, Bool.and_false] at ih1; exact ih1
        · simp only [c, decide_true, Bool.and_true] at ih1; exact ih1
  exact ⟨_, key (heO σ).length 0 (by omega)⟩
def sfx (he : List (Nat × Nat)) (i : Nat) : List Nat := (List.range' i (1000 - i)).filter (fitB he)
theorem sfx_0 (he : List (Nat × Nat)) : sfx he 0 = ps he := by
  unfold sfx ps
  rw [List.range_eq_range']
theorem sfx_s {he : List (Nat × Nat)} {i : Nat} (hi : i < 1000) : sfx he i = (if fitB he i = true then [i] else []) ++ sfx he (i + 1) := by
  unfold sfx
  rw [show 1000 - i = (1000 - (i + 1)) + 1 by omega, List.range'_succ, List.filter_cons]
  split <;> rfl
theorem sfx_len (he : List (Nat × Nat)) (i : Nat) : (sfx he i).length ≤ 1000 := by
  have := List.length_filter_le (fitB he) (List.range' i (1000 - i))
  rw [List.length_range'] at this
  exact Nat.le_trans this (by omega)
def hd9 : List Nat → Int32
  | [] => -9
  | x :: _ => nI x
theorem m_codes (hV : VS σ) (h : RM σ M) (x : Int32) {post : Int32 → Prop} (hp : post (codesA σ x)) : wp_X6_codes M x post := by
  unfold wp_X6_codes
  unfold codesA at hp
  refine m_in (n := 2) (by decide) (by decide) (fun b hx hb ex => t1 ?_) (fun hx => f1 (by rw [hx] at hp; exact hp))
  rw [hx] at hp
  subst ex
  have key : ∀ i, i ≤ 1000 → wp_X6_codes_L22 post (nI b) M (i + 1) (nI (sfx (heO σ) i).length) (hd9 (sfx (heO σ) i)) (nI i + (-1)) := by
    intro i
    induction i with
    | zero =>
      intro _
      rw [wp_X6_codes_L22, sfx_0]
      refine ⟨fun _ => ?_, fun c => absurd (by decide) c⟩
      rcases (show b = 0 ∨ b = 1 by omega) with rfl | rfl
      · exact ⟨fun c => absurd rfl c, fun _ => hp⟩
      · refine ⟨fun _ => ?_, fun c => absurd c (by decide)⟩
        cases q : ps (heO σ) with
        | nil =>
          rw [q] at hp
          exact hp
        | cons y ys =>
          rw [q] at hp
          exact hp
    | succ i ih =>
      intro hi
      rw [wp_X6_codes_L22, pk_m1]
      have ih1 := ih (by omega)
      rw [sfx_s (by omega)] at ih1
      refine ⟨fun c => absurd c (nI_pos (by omega)), fun _ => m_fits hV h (by omega) (fun q => t2 (t2 ?_)) (fun q => f2 (f2 ?_))⟩
      · rw [if_pos q] at ih1
        rw [nI_1]
        have el : ([i] ++ sfx (heO σ) (i + 1)).length = (sfx (heO σ) (i + 1)).length + 1 := by simp
        rw [el] at ih1
        exact ih1
      · rw [if_neg (by rw [q]; decide)] at ih1
        rw [show (0 : Int32) = nI 0 from rfl, nI_add]
        exact ih1
  have k0 := key 1000 (Nat.le_refl _)
  have e : sfx (heO σ) 1000 = [] := rfl
  rw [e] at k0
  exact ⟨_, k0⟩
end G
