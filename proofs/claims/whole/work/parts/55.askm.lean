/-! ===== pure: the next one to try, by the model ===== -/
def AE (M M' : Mo) : Prop := M'.1.1 = M.1.1 ∧ (∀ k, k ≠ 24 → k ≠ 25 → M'.1.2 k = M.1.2 k) ∧ M'.2 = M.2
theorem AE_refl (M : Mo) : AE M M := ⟨rfl, fun _ _ _ => rfl, rfl⟩
theorem AE_24 {M M' : Mo} (h : AE M M') (i : Nat) (v : Int32) : AE M (pma M' 24 i v) := ⟨h.1, fun k h1 h2 => (sa_ne _ _ h1).trans (h.2.1 k h1 h2), h.2.2⟩
theorem AE_25 {M M' : Mo} (h : AE M M') (i : Nat) (v : Int32) : AE M (pma M' 25 i v) := ⟨h.1, fun k h1 h2 => (sa_ne _ _ h2).trans (h.2.1 k h1 h2), h.2.2⟩
theorem rw3_comm (a b : Nat) : rw3 a b = rw3 b a := by
  unfold rw3
  apply sg_cg
  intro k _
  by_cases h : fg a k = fg b k
  · rw [if_pos h, if_pos h.symm]
  · rw [if_neg h, if_neg (fun q => h q.symm)]
theorem cN_push (l : List Nat) (q k p : Nat) : cN (l ++ [p]) q k = cN l q k + if rw3 p q = k then 1 else 0 := by
  unfold cN
  rw [List.countP_append, List.countP_cons, List.countP_nil]
  simp
theorem gp_push (l : List Nat) (q p : Nat) : gp (l ++ [p]) q = if cN l q (rw3 p q) + 1 ≤ gp l q then gp l q else cN l q (rw3 p q) + 1 := by
  have h3 := rw3_le p q
  unfold gp
  rw [cN_push, cN_push, cN_push, cN_push]
  rcases (show rw3 p q = 0 ∨ rw3 p q = 1 ∨ rw3 p q = 2 ∨ rw3 p q = 3 by omega) with e | e | e | e
  all_goals
    rw [e]
    simp only [if_true, Nat.add_zero, show ¬ (0 : Nat) = 1 by decide, show ¬ (0 : Nat) = 2 by decide, show ¬ (0 : Nat) = 3 by decide, show ¬ (1 : Nat) = 0 by decide, show ¬ (1 : Nat) = 2 by decide, show ¬ (1 : Nat) = 3 by decide, show ¬ (2 : Nat) = 0 by decide, show ¬ (2 : Nat) = 1 by decide, show ¬ (2 : Nat) = 3 by decide, show ¬ (3 : Nat) = 0 by decide, show ¬ (3 : Nat) = 1 by decide, show ¬ (3 : Nat) = 2 by decide, if_false]
    generalize cN l q 0 = a
    generalize cN l q 1 = b
    generalize cN l q 2 = c
    generalize cN l q 3 = d
    unfold mxN
    repeat' split
    all_goals omega
section G
variable {σ : St} {M : Mo}
theorem RM_ae (h : RM σ M) {M' : Mo} (e : AE M M') : RM σ M' := by
  obtain ⟨e0, e1, e2⟩ := e
  obtain ⟨a1, a2, a3, a4, a5, a6, a7, a8, a9, a10⟩ := h
  refine ⟨?_, ?_, ?_, ?_, ?_, ?_, ?_, ?_, ?_, ?_⟩
  · rw [e0]; exact a1
  · rw [e0]; exact a2
  · rw [e1 2 (by decide) (by decide)]; exact a3
  · rw [e0, e1 7 (by decide) (by decide), e1 8 (by decide) (by decide)]; exact a4
  · rw [e0]; exact a5
  · rw [e1 11 (by decide) (by decide), e1 12 (by decide) (by decide), e1 13 (by decide) (by decide)]; exact a6
  · rw [e1 11 (by decide) (by decide), e1 12 (by decide) (by decide), e1 13 (by decide) (by decide)]; exact a7
  · rw [e0, e1 15 (by decide) (by decide)]; exact a8
  · rw [e0, e1 17 (by decide) (by decide), e1 18 (by decide) (by decide)]; exact a9
  · rw [e2]; exact a10
/-- the parts of one number -/
theorem m_parts {P : List Nat} (hlen : P.length ≤ 250) (hlt : ∀ x, x ∈ P → x < 1000) {q : Nat} (hq : q < 1000) (M : Mo) {post : Int32 → Mo → Prop} {K : Int32 → Int32 → Int32 → Mo → Prop} {x2 x3 : Int32}
    (hK : ∀ M', AE M M' → M'.1.2 24 = M.1.2 24 → (x3 ≤ nI (gp P q) → K x2 x3 (nI (q + 1)) M') ∧ (¬ x3 ≤ nI (gp P q) → K (nI q) (nI (gp P q)) (nI (q + 1)) M')) (hM : ∀ i, i < P.length → M.1.2 24 i = nI (P.getD i 0)) : ∃ n, wp_X6_ask_L77 post K (nI P.length) x2 x3 (nI q) 0 n 0 M := by
  have k100 : ∀ k i, i + k = P.length → ∀ M1 : Mo, AE M M1 → M1.1.2 24 = M.1.2 24 → (∀ j, j < 4 → M1.1.2 25 j = nI (cN (P.take i) q j)) → wp_X6_ask_L100 post K (nI P.length) x2 x3 (nI q) (k + 1) (nI (gp (P.take i) q)) (nI i) M1 := by
    intro k
    induction k with
    | zero =>
      intro i hi M1 a1 a2 a3
      have : i = P.length := by omega
      subst this
      rw [wp_X6_ask_L100, List.take_length, nI_1]
      have := hK M1 a1 a2
      refine ⟨fun _ => ⟨fun c => ⟨fun _ => this.1 c, fun c2 => absurd c c2⟩, fun c => ⟨fun c2 => absurd c2 c, fun _ => this.2 c⟩⟩, fun c => absurd (nI_le (Nat.le_refl _) (by omega)) c⟩
    | succ k ih =>
      intro i hi M1 a1 a2 a3
      have hil : i < P.length := by omega
      have hx := hlt _ (gd_mem hil)
      have ih1 := ih (i + 1) (by omega)
      rw [take_1 hil, gp_push] at ih1
      rw [wp_X6_ask_L100, nI_clamp (by omega), nI_1, nI_1]
      have e24 : M1.1.2 24 i = nI (P.getD i 0) := by rw [a2]; exact hM i hil
      rw [e24]
      generalize P.getD i 0 = p at *
      refine ⟨fun c => absurd c (nI_ge hil (by omega)), fun _ => ⟨vp_in_nI (by omega) (by decide), m_right hq hx ?_⟩⟩
      rw [rw3_comm q p]
      have h3 := rw3_le p q
      have h4 : rw3 p q < 4 := by omega
      have hcn : cN (P.take i) q (rw3 p q) ≤ 250 := Nat.le_trans List.countP_le_length (by rw [List.length_take]; omega)
      have hgp : gp (P.take i) q ≤ 250 := Nat.le_trans (gp_le _ _) (by rw [List.length_take]; omega)
      rw [nI_clamp (by omega), a3 _ h4, nI_1]
      refine ⟨vp_in_nI h4 (by decide), vp_in_nI h4 (by decide), fun M2 e2 => ⟨vp_in_nI h4 (by decide), ?_⟩⟩
      have e25 : M2.1.2 25 (rw3 p q) = nI (cN (P.take i) q (rw3 p q) + 1) := by
        rw [e2]
        show upd (M1.1.2 25) _ _ _ = _
        rw [pk_us]
      have hA : AE M M2 := by rw [e2]; exact AE_25 a1 _ _
      have hB : M2.1.2 24 = M.1.2 24 := by rw [e2]; exact a2
      have hC : ∀ j, j < 4 → M2.1.2 25 j = nI (cN (P.take i ++ [p]) q j) := by
        intro j hj
        rw [e2]
        show upd (M1.1.2 25) _ _ j = _
        rw [upd_at, cN_push]
        by_cases e : j = rw3 p q
        · rw [if_pos e, if_pos e.symm, e]
        · rw [if_neg e, if_neg (fun z => e z.symm), a3 j hj]; rfl
      have ih2 := ih1 M2 hA hB hC
      rw [e25, nI_leI (by omega) (by omega)]
      refine ⟨fun c => ?_, fun c => ⟨vp_in_nI h4 (by decide), ?_⟩⟩
      · rw [if_pos c] at ih2; exact ih2
      · rw [if_neg c] at ih2; exact ih2
  have k77 : ∀ k i, i + k = 4 → ∀ M1 : Mo, AE M M1 → M1.1.2 24 = M.1.2 24 → (∀ j, j < i → M1.1.2 25 j = 0) → wp_X6_ask_L77 post K (nI P.length) x2 x3 (nI q) 0 (k + 1) (nI i) M1 := by
    intro k
    induction k with
    | zero =>
      intro i hi M1 a1 a2 a3
      have : i = 4 := by omega
      subst this
      rw [wp_X6_ask_L77]
      refine ⟨fun _ => ⟨P.length + 1, ?_⟩, fun c => absurd (by decide) c⟩
      exact k100 P.length 0 (by omega) M1 a1 a2 (fun j hj => a3 j hj)
    | succ k ih =>
      intro i hi M1 a1 a2 a3
      rw [wp_X6_ask_L77, nI_clamp (by omega), nI_1]
      refine ⟨fun c => absurd c (nI_ge (b := 4) (by omega) (by decide)), fun _ => ⟨vp_in_nI (by omega) (by decide), ih (i + 1) (by omega) _ (AE_25 a1 _ _) a2 (fun j hj => ?_)⟩⟩
      show upd (M1.1.2 25) i 0 j = _
      rw [upd_at]
      by_cases e : j = i
      · rw [if_pos e]
      · rw [if_neg e]; exact a3 j (by omega)
  exact ⟨5, k77 4 0 rfl M (AE_refl M) rfl (fun j hj => absurd hj (by omega))⟩
theorem m_ask (hV : VS σ) (h : RM σ M) {post : Int32 → Mo → Prop} (hp : ∀ M', RM σ M' → post (askA σ) M') : wp_X6_ask M post := by
  have hlt : ∀ x, x ∈ ps (heO σ) → x < 1000 := fun x hx => ps_lt hx
  have hsp : ∀ i, i ≤ 1000 → ps (heO σ) = pfx (heO σ) i ++ sfx (heO σ) i := fun i hi => pfx_sfx hi
  have hp1000 : pfx (heO σ) 1000 = ps (heO σ) := rfl
  have hask : askA σ = if (ps (heO σ)).length < 2 ∨ 250 < (ps (heO σ)).length then -9 else oB (bq (ps (heO σ)) 1000) := rfl
  generalize ps (heO σ) = P at *
  have k63 : P.length ≤ 250 → 2 ≤ P.length → ∀ k i, i + k = 1000 → ∀ M1 : Mo, AE M M1 → (∀ j, j < P.length → M1.1.2 24 j = nI (P.getD j 0)) → wp_X6_ask_L63 post (nI P.length) (k + 1) (oB (bq P i)) (nI (oL 251 (bq P i))) (nI i) M1 := by
    intro h250 h2 k
    induction k with
    | zero =>
      intro i hi M1 a1 a2
      have : i = 1000 := by omega
      subst this
      rw [wp_X6_ask_L63]
      refine ⟨fun _ => ?_, fun c => absurd (by decide) c⟩
      have := hp M1 (RM_ae h a1)
      rw [hask, if_neg (by omega)] at this
      exact this
    | succ k ih =>
      intro i hi M1 a1 a2
      rw [wp_X6_ask_L63]
      have ih1 := ih (i + 1) (by omega)
      have B := bq_step P i (d := 251) (by omega)
      have hol := bq_le P (d := 251) (by omega) i
      have hgp := gp_le P i
      refine ⟨fun c => absurd c (nI_ge (b := 1000) (by omega) (by decide)), fun _ => m_parts h250 hlt (by omega) M1 (fun M' b1 b2 => ?_) a2⟩
      have hA : AE M M' := ⟨b1.1.trans a1.1, fun k h1 h2 => (b1.2.1 k h1 h2).trans (a1.2.1 k h1 h2), b1.2.2.trans a1.2.2⟩
      have ih2 := ih1 M' hA (by rw [b2]; exact a2)
      rw [nI_leI (by omega) (by omega)]
      refine ⟨fun c => ?_, fun c => ?_⟩
      · rw [B.1 c] at ih2; exact ih2
      · rw [B.2 c] at ih2; exact ih2
  have k4 : ∀ k i, i + k = 1000 → (pfx (heO σ) i).length ≤ 250 → ∀ M1 : Mo, AE M M1 → (∀ j, j < (pfx (heO σ) i).length → M1.1.2 24 j = nI ((pfx (heO σ) i).getD j 0)) → wp_X6_ask_L4 post (k + 1) (nI (pfx (heO σ) i).length) (nI i) M1 := by
    intro k
    induction k with
    | zero =>
      intro i hi h250 M1 a1 a2
      have : i = 1000 := by omega
      subst this
      rw [hp1000] at a2 h250 ⊢
      rw [wp_X6_ask_L4, show (2 : Int32) = nI 2 from rfl, nI_leI (by decide) (by omega)]
      refine ⟨fun _ => ⟨fun c => ⟨1001, k63 h250 c 1000 0 rfl M1 a1 a2⟩, fun c => ?_⟩, fun c => absurd (by decide) c⟩
      have := hp M1 (RM_ae h a1)
      rw [hask, if_pos (by omega)] at this
      exact this
    | succ k ih =>
      intro i hi h250 M1 a1 a2
      have ih1 := ih (i + 1) (by omega)
      rw [wp_X6_ask_L4, nI_1]
      refine ⟨fun c => absurd c (nI_ge (b := 1000) (by omega) (by decide)), fun _ => m_fits hV (RM_ae h a1) (by omega) (fun q => t2 ?_) (fun q => f2 ?_)⟩
      · rw [pfx_s, if_pos q, List.length_append] at ih1
        have ih1 : (pfx (heO σ) i).length + 1 ≤ 250 → _ := ih1
        rw [show (250 : Int32) = nI 250 from rfl, nI_eq (by omega) (by decide), nI_clamp (by omega), nI_1]
        refine ⟨fun c => ⟨vp_in_nI (by omega) (by decide), ih1 (by omega) _ (AE_24 a1 _ _) (fun j hj => ?_)⟩, fun c => ?_⟩
        · show upd (M1.1.2 24) _ _ j = _
          have hj : j < (pfx (heO σ) i).length + 1 := hj
          rw [upd_at]
          by_cases e : j = (pfx (heO σ) i).length
          · rw [if_pos e, e, gd_app2 (Nat.le_refl _), Nat.sub_self]; rfl
          · rw [if_neg e, gd_app1 (by omega)]; exact a2 j (by omega)
        · have := hp M1 (RM_ae h a1)
          have hl : 250 < P.length := by
            rw [hsp (i + 1) (by omega), pfx_s, if_pos q]
            simp
            omega
          rw [hask, if_pos (Or.inr hl)] at this
          exact this
      · rw [pfx_s, if_neg (by rw [q]; decide), List.append_nil] at ih1
        exact ih1 h250 M1 a1 a2
  exact ⟨1001, k4 1000 0 rfl (Nat.zero_le _) M (AE_refl M) (fun j hj => absurd hj (by show ¬ j < 0; omega))⟩
end G
