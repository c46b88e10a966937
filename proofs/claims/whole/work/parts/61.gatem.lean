/-! ===== pure: the text is read, by the model ===== -/
def GEnd (post : Int32 → Mo → Prop) (r : Int32) (M : Mo) : Prop := ∀ M_6 : Mo, M_6 = (pma (pma M 6 8 (M.1.1 4)) 6 9 (-9)) → (∀ M_7 : Mo, M_7 = (pmf (pmf M_6 0 (M_6.1.1 3)) 1 ((pmf M_6 0 (M_6.1.1 3)).1.1 4)) → (∃ n142, wp_X6_gate_L142 post r n142 0 M_7))
theorem RM_re {σ : St} {M M' : Mo} (h : RM σ M) (e : RE M M') : RM σ M' := by
  obtain ⟨a1, a2, a3, a4, a5, a6, a7, a8, a9, a10⟩ := h
  obtain ⟨e0, e1, e2⟩ := e
  refine ⟨?_, ?_, ?_, ?_, ?_, ?_, ?_, ?_, ?_, ?_⟩
  · rw [e0 0 (by decide) (by decide) (by decide)]; exact a1
  · rw [e0 1 (by decide) (by decide) (by decide)]; exact a2
  · rw [e1 2 (by decide) (by decide)]; exact a3
  · rw [e1 7 (by decide) (by decide), e0 9 (by decide) (by decide) (by decide), e1 8 (by decide) (by decide)]; exact a4
  · rw [e0 10 (by decide) (by decide) (by decide)]; exact a5
  · rw [e1 11 (by decide) (by decide), e1 12 (by decide) (by decide), e1 13 (by decide) (by decide)]; exact a6
  · rw [e1 11 (by decide) (by decide), e1 12 (by decide) (by decide), e1 13 (by decide) (by decide)]; exact a7
  · rw [e0 14 (by decide) (by decide) (by decide), e1 15 (by decide) (by decide)]; exact a8
  · rw [e0 16 (by decide) (by decide) (by decide), e1 17 (by decide) (by decide), e1 18 (by decide) (by decide)]; exact a9
  · rw [e2]; exact a10
section G
variable {N : Nat} {b : Nat → Nat}
theorem m_gateL (hN : N ≤ 150) (hb : ∀ i, b i < 256) {post : Int32 → Mo → Prop} : ∀ (m : Nat) (π : PL) (k a : Nat) (M : Mo), N - a < m → k ≤ a → a ≤ N → TX (N, b) (M.1.1 14) (M.1.2 15) → MT (nx N b a) M → VP π → MR π M → (k = 0 → ∀ p l, π.2.2.2.1 p l = false) → (∀ p M', tl N b m π k a = .inl p → RE M M' → post (-10 - nI p) M') → (∀ e M', tl N b m π k a = .inr e → RE M M' → MR e.1 M' → GEnd post (nI e.2) M') → wp_X6_gate_L63 post m (nI k) M
  | 0, _, _, _, _, h, _, _, _, _, _, _, _, _, _ => absurd h (Nat.not_lt_zero _)
  | m + 1, π, k, a, M, hm, hk, ha, ht, hM, hv, hR, h0, hf, hs => by
    obtain ⟨n1, n2, n3, n4, n5, n6, n7, n8⟩ := nx_ok (b := b) ha
    have z : M.1.1 22 = 0 ↔ (nx N b a).1 = 0 := by rw [hM.1, show (0 : Int32) = nI 0 from rfl, kI_eq n8 (by decide)]
    rw [wp_X6_gate_L63]
    refine ⟨fun c => ?_, fun c => ?_⟩
    · exact hs (π, k) M (tl_end (z.mp c)) (RE_refl M) hR
    · have h : ¬ (nx N b a).1 = 0 := fun q => c (z.mpr q)
      have hlt := n5 h
      have ok := itm_ok (b := b) (f := decide (k = 0)) ha hv (fun z => h0 (of_decide_eq_true z))
      have Q : wp_X6_item M (bI (decide (k = 0))) (fun r_25 M_26 => ((¬ r_25 = 0 → (wp_X6_next M_26 (fun M_28 => (wp_X6_gate_L63 post m (nI k + 1) M_28)))) ∧ (r_25 = 0 → (post ((-10) - (M_26.1.1 21)) M_26)))) := by
        refine m_item hN hb ht ha hM hv hR _ (fun r M2 hr hE => ?_)
        cases he : itm N b π (decide (k = 0)) (nx N b a) with
        | inl p =>
          rw [he] at hr
          obtain ⟨e1, e2⟩ := hr
          subst e1
          refine f1 ?_
          rw [e2]
          exact hf p M2 (tl_f h he) hE
        | inr e =>
          rw [he] at hr
          obtain ⟨e1, e2, e3⟩ := hr
          subst e1
          obtain ⟨x1, x2, x3⟩ := ok.1 e he
          have et := tl_s (m := m) h he
          refine t1 (m_next hN hb (RE_tx hE ht) e2 x3 (fun M3 hM3 hT3 => ?_))
          rw [nI_1]
          refine m_gateL hN hb m e.1 (k + 1) e.2 M3 (by omega) (by omega) x3 (RE_tx (RE_TE hT3) (RE_tx hE ht)) hM3 x1 (MR_TE hT3 e3) (fun z => by omega) (fun p M' h1 h2 => hf p M' (et.trans h1) (RE_trans (RE_trans hE (RE_TE hT3)) h2)) (fun e' M' h1 h2 h3 => hs e' M' (et.trans h1) (RE_trans (RE_trans hE (RE_TE hT3)) h2) h3)
      refine ⟨fun c2 => ?_, fun c2 => ?_⟩
      · have hk0 : k ≠ 0 := fun q => c2 (by rw [q]; rfl)
        rw [decide_eq_false hk0] at Q
        exact Q
      · have hk0 : k = 0 := by
          rw [show (0 : Int32) = nI 0 from rfl, nI_eq (by omega) (by decide)] at c2
          exact c2
        rw [decide_eq_true hk0] at Q
        exact Q
end G
section H
variable {σ : St} {M : Mo} {π : PL}
theorem Ms_bg (hv : VP π) (hR : MR π M) : Ms (bgS π) (upd (upd (M.1.2 6) 8 (nI π.2.1)) 9 (-9)) := by
  obtain ⟨h1, h2, h3, h4, h5, h6, h7⟩ := hR
  have hv2 := hv.2.1
  have el : (rgO (bgS π)).length = π.2.1 := List.length_range
  refine ⟨fun k hk => ?_, ?_, ?_, fun y hy => ?_, fun y hy => ?_, fun q hq => ?_⟩
  · rw [el] at hk
    have e : (rgO (bgS π)).getD k 0 = k := rg_gd hk
    rw [upd_at, if_neg (by omega), upd_at, if_neg (by omega), e]
    exact h3 k hk
  · rw [el, upd_at, if_neg (by decide), upd_at, if_pos rfl]
  · rw [upd_at, if_pos rfl]; rfl
  · rw [upd_at, if_neg (by omega), upd_at, if_neg (by omega)]; exact h4 y hy
  · rw [upd_at, if_neg (by omega), upd_at, if_neg (by omega)]; exact h5 y hy
  · rw [upd_at, if_neg (by omega), upd_at, if_neg (by omega)]; exact h6 q hq
theorem m_gateE (h : RM σ M) (hv : VP π) (hR : MR π M) {r : Int32} {post : Int32 → Mo → Prop} (hp : ∀ M', RM (gtS σ π) M' → post r M') : GEnd post r M := by
  intro M6 e6 M7 e7
  have hMs := Ms_bg hv hR
  have b0 : M7.1.1 0 = nI π.1 := by rw [e7, e6]; exact hR.1
  have b1 : M7.1.1 1 = nI π.2.1 := by rw [e7, e6]; exact hR.2.1
  have b6 : M7.1.2 6 = upd (upd (M.1.2 6) 8 (nI π.2.1)) 9 (-9) := by
    rw [e7, e6, ← hR.2.1]
    rfl
  have b5 : M7.1.2 5 = M.1.2 5 := by rw [e7, e6]; rfl
  have bt : M7.2 = M.2 := by rw [e7, e6]; rfl
  clear e7 e6
  have L168 : ∀ k i, i + k = 32 → ∀ M1 : Mo, M1.1.1 = M7.1.1 → M1.1.2 6 = M7.1.2 6 → M1.2 = M7.2 → (∀ p, p < 6 → M1.1.2 2 p = M7.1.2 5 p) → (∀ j, j < i → M1.1.2 7 j = M7.1.2 6 j) → wp_X6_gate_L168 post r (k + 1) (nI i) M1 := by
    intro k
    induction k with
    | zero =>
      intro i hi M1 c0 c6 ct c2 c7
      have : i = 32 := by omega
      subst this
      rw [wp_X6_gate_L168]
      refine ⟨fun _ M10 e10 M11 e11 => hp _ ?_, fun c => absurd (by decide) c⟩
      subst e11 e10
      refine ⟨?_, ?_, fun p h6 => ?_, ⟨?_, rfl, fun i hi => absurd hi (Nat.not_lt_zero _)⟩, (by show (0 : Int32) = nI (mk 2 fun _ => false); rfl), fun w hw => (by cases hw), fun w hw => (by cases hw), ⟨rfl, fun i hi => absurd hi (Nat.not_lt_zero _)⟩, ⟨rfl, fun i hi => absurd hi (Nat.not_lt_zero _)⟩, ?_⟩
      · show M1.1.1 0 = _
        rw [c0]; exact b0
      · show M1.1.1 1 = _
        rw [c0]; exact b1
      · show M1.1.2 2 p = _
        rw [c2 p h6, b5]; exact hR.2.2.2.2.2.2 p h6
      · show Ms (bgS π) (M1.1.2 7)
        refine Ms_cg (v_bg hv) hv.2.1 (fun j hj => ?_) hMs
        rw [c7 j hj, b6]
      · show M1.2 = trO σ
        rw [ct, bt]
        exact h.2.2.2.2.2.2.2.2.2
    | succ k ih =>
      intro i hi M1 c0 c6 ct c2 c7
      rw [wp_X6_gate_L168, nI_clamp (by omega), nI_1]
      have hin : vp_in (nI i) 32 := vp_in_nI (by omega) (by decide)
      refine ⟨fun c => absurd c (nI_ge (b := 32) (by omega) (by decide)), fun _ => ⟨hin, hin, fun M2 e2 => ?_⟩⟩
      subst e2
      refine ih (i + 1) (by omega) _ c0 c6 ct c2 (fun j hj => ?_)
      show upd (M1.1.2 7) i (M1.1.2 6 i) j = _
      rw [upd_at]
      by_cases q : j = i
      · rw [if_pos q, q, c6]
      · rw [if_neg q]; exact c7 j (by omega)
  have L142 : ∀ k i, i + k = 6 → ∀ M1 : Mo, M1.1.1 = M7.1.1 → M1.1.2 6 = M7.1.2 6 → M1.1.2 5 = M7.1.2 5 → M1.2 = M7.2 → (∀ p, p < i → M1.1.2 2 p = M7.1.2 5 p) → wp_X6_gate_L142 post r (k + 1) (nI i) M1 := by
    intro k
    induction k with
    | zero =>
      intro i hi M1 c0 c6 c5 ct c2
      have : i = 6 := by omega
      subst this
      rw [wp_X6_gate_L142]
      exact ⟨fun _ => ⟨33, L168 32 0 rfl M1 c0 c6 ct c2 (fun j hj => absurd hj (Nat.not_lt_zero _))⟩, fun c => absurd (by decide) c⟩
    | succ k ih =>
      intro i hi M1 c0 c6 c5 ct c2
      rw [wp_X6_gate_L142, nI_clamp (by omega), nI_1]
      have hin : vp_in (nI i) 6 := vp_in_nI (by omega) (by decide)
      refine ⟨fun c => absurd c (nI_ge (b := 6) (by omega) (by decide)), fun _ => ⟨hin, hin, fun M2 e2 => ?_⟩⟩
      subst e2
      refine ih (i + 1) (by omega) _ c0 c6 c5 ct (fun j hj => ?_)
      show upd (M1.1.2 2) i (M1.1.2 5 i) j = _
      rw [upd_at]
      by_cases q : j = i
      · rw [if_pos q, q, c5]
      · rw [if_neg q]; exact c2 j (by omega)
  exact ⟨7, L142 6 0 rfl M7 rfl rfl rfl rfl (fun j hj => absurd hj (Nat.not_lt_zero _))⟩
theorem m_gate (hV : VS σ) (h : RM σ M) {post : Int32 → Mo → Prop} (hp : ∀ M', RM (gateA σ).2 M' → post (gateA σ).1 M') : wp_X6_gate M post := by
  have hN := hV.2.2.2.2.2.1.1
  have hb := hV.2.2.2.2.2.1.2
  have ht := h.2.2.2.2.2.2.2.1
  have ok := tl_ok0 (txO σ).1 (txO σ).2
  have fin : ∀ M1 : Mo, RE M M1 → MR pl0 M1 → wp_X6_next (pmf M1 20 0) (fun M_4 => (∃ n63, wp_X6_gate_L63 post n63 0 M_4)) := by
    intro M1 hE hR
    have hT0 : TE M1 (pmf M1 20 0) := TE_pmf (TE_refl M1) (by decide) (by decide) 0
    refine m_next hN hb (RE_tx (RE_TE hT0) (RE_tx hE ht)) (a := 0) rfl (Nat.zero_le _) (fun M2 hM2 hT2 => ⟨(txO σ).1 + 1, ?_⟩)
    have hE2 : RE M M2 := RE_trans hE (RE_TE (TE_trans hT0 hT2))
    refine m_gateL hN hb ((txO σ).1 + 1) pl0 0 0 M2 (by omega) (Nat.le_refl _) (Nat.zero_le _) (RE_tx hE2 ht) hM2 v_pl0 (MR_TE hT2 (MR_TE hT0 hR)) (fun _ _ _ => rfl) (fun p M3 he hE3 => ?_) (fun e M3 he hE3 hR3 => ?_)
    · have eA : gateA σ = (-10 - nI p, σ) := by unfold gateA; rw [he]
      rw [eA] at hp
      exact hp M3 (RM_re h (RE_trans hE2 hE3))
    · have eA : gateA σ = (nI e.2, gtS σ e.1) := by unfold gateA; rw [he]
      rw [eA] at hp
      exact m_gateE (RM_re h (RE_trans hE2 hE3)) (ok.1 e he).1 hR3 hp
  have L33 : ∀ k i, i + k = 32 → ∀ M1 : Mo, RE M M1 → M1.1.1 3 = nI 3 → M1.1.1 4 = nI 0 → (∀ p, p < 6 → M1.1.2 5 p = nI 0) → (∀ j, j < i → M1.1.2 6 j = nI 0) → wp_X6_gate_L33 post (k + 1) (nI i) M1 := by
    intro k
    induction k with
    | zero =>
      intro i hi M1 hE c3 c4 c5 c6
      have : i = 32 := by omega
      subst this
      rw [wp_X6_gate_L33]
      refine ⟨fun _ => fin M1 hE ⟨c3, c4, fun k hk => absurd hk (Nat.not_lt_zero _), fun l hl => c6 _ (by omega), fun l hl => c6 _ (by omega), fun p h6 => ?_, c5⟩, fun c => absurd (by decide) c⟩
      rw [c6 _ (by omega)]
      show nI 0 = nI (mk 8 fun _ => false)
      rfl
    | succ k ih =>
      intro i hi M1 hE c3 c4 c5 c6
      rw [wp_X6_gate_L33, nI_clamp (by omega), nI_1]
      refine ⟨fun c => absurd c (nI_ge (b := 32) (by omega) (by decide)), fun _ => ⟨vp_in_nI (by omega) (by decide), ih (i + 1) (by omega) _ (RE_pa hE (Or.inr rfl) _ _) c3 c4 c5 (fun j hj => ?_)⟩⟩
      show upd (M1.1.2 6) i 0 j = _
      rw [upd_at]
      by_cases q : j = i
      · rw [if_pos q]; rfl
      · rw [if_neg q]; exact c6 j (by omega)
  have L12 : ∀ k i, i + k = 6 → ∀ M1 : Mo, RE M M1 → M1.1.1 3 = nI 3 → M1.1.1 4 = nI 0 → (∀ p, p < i → M1.1.2 5 p = nI 0) → wp_X6_gate_L12 post (k + 1) (nI i) M1 := by
    intro k
    induction k with
    | zero =>
      intro i hi M1 hE c3 c4 c5
      have : i = 6 := by omega
      subst this
      rw [wp_X6_gate_L12]
      exact ⟨fun _ => ⟨33, L33 32 0 rfl M1 hE c3 c4 c5 (fun j hj => absurd hj (Nat.not_lt_zero _))⟩, fun c => absurd (by decide) c⟩
    | succ k ih =>
      intro i hi M1 hE c3 c4 c5
      rw [wp_X6_gate_L12, nI_clamp (by omega), nI_1]
      refine ⟨fun c => absurd c (nI_ge (b := 6) (by omega) (by decide)), fun _ => ⟨vp_in_nI (by omega) (by decide), ih (i + 1) (by omega) _ (RE_pa hE (Or.inl rfl) _ _) c3 c4 (fun j hj => ?_)⟩⟩
      show upd (M1.1.2 5) i 0 j = _
      rw [upd_at]
      by_cases q : j = i
      · rw [if_pos q]; rfl
      · rw [if_neg q]; exact c5 j (by omega)
  unfold wp_X6_gate
  intro M1 e1
  have hE : RE M M1 := by
    rw [e1]
    exact RE_pf (RE_pf (RE_refl M) (Or.inl rfl) _) (Or.inr rfl) _
  refine ⟨7, L12 6 0 rfl M1 hE ?_ ?_ (fun j hj => absurd hj (Nat.not_lt_zero _))⟩
  · rw [e1]; rfl
  · rw [e1]; rfl
end H
