/-! ===== pure: tokens, by the model ===== -/
def kI (k : Nat) : Int32 := if k = 4 then -1 else nI k
def MT (τ : Tk) (M : Mo) : Prop := M.1.1 22 = kI τ.1 ∧ M.1.1 21 = nI τ.2.2.1 ∧ (τ.1 = 1 ∨ τ.1 = 2 → M.1.1 23 = nI τ.2.1) ∧ (τ.1 ≠ 4 → M.1.1 20 = nI τ.2.2.2)
def TE (M M' : Mo) : Prop := (∀ k, k < 20 ∨ 23 < k → M'.1.1 k = M.1.1 k) ∧ M'.1.2 = M.1.2 ∧ M'.2 = M.2
theorem TE_refl (M : Mo) : TE M M := ⟨fun _ _ => rfl, rfl, rfl⟩
theorem TE_pmf {M M1 : Mo} (h : TE M M1) {k : Nat} (h1 : 20 ≤ k) (h2 : k ≤ 23) (v : Int32) : TE M (pmf M1 k v) := by
  refine ⟨fun j hj => ?_, h.2.1, h.2.2⟩
  show upd M1.1.1 k v j = _
  rw [upd_at, if_neg (by omega)]
  exact h.1 j hj
theorem TE_trans {M M1 M2 : Mo} (h : TE M M1) (h2 : TE M1 M2) : TE M M2 := ⟨fun k hk => (h2.1 k hk).trans (h.1 k hk), h2.2.1.trans h.2.1, h2.2.2.trans h.2.2⟩
theorem m_isLt {c : Nat} (hc : c < 256) {post : Int32 → Prop} (h1 : isLt c = true → post 1) (h0 : isLt c = false → post 0) : wp_X6_isLetter (nI c) post := by
  unfold wp_X6_isLetter
  exact in_mid (lo := 97) (hi := 122) (by omega) (by decide) (by decide) rfl rfl (fun a b => ⟨nar1, h1 (by simp [isLt]; omega)⟩) (fun a => ⟨nar0, h0 (by simp [isLt]; omega)⟩)
theorem m_isFg {c : Nat} (hc : c < 256) {post : Int32 → Prop} (h1 : isFg c = true → post 1) (h0 : isFg c = false → post 0) : wp_X6_isFigure (nI c) post := by
  unfold wp_X6_isFigure
  exact in_mid (lo := 48) (hi := 57) (by omega) (by decide) (by decide) rfl rfl (fun a b => ⟨nar1, h1 (by simp [isFg]; omega)⟩) (fun a => ⟨nar0, h0 (by simp [isFg]; omega)⟩)
section M
variable {N : Nat} {b : Nat → Nat} {M : Mo}
theorem m_letters (hN : N ≤ 150) (hb : ∀ i, b i < 256) (ht : TX (N, b) (M.1.1 14) (M.1.2 15)) {a : Nat} (ha : M.1.1 20 = nI a) (hp4 : M.1.1 21 = nI a) (haN : a < N) {post : Mo → Prop} (hp : ∀ M', M'.1.1 22 = nI 1 → M'.1.1 21 = nI a → M'.1.1 23 = nI (if sc isLt b (N - a) a - a = 1 then b a else 0) → M'.1.1 20 = nI (sc isLt b (N - a) a) → TE M M' → post M') : ∃ n, wp_X6_next_L85 post (nI (b a)) n M := by
  have ht1 : M.1.1 14 = nI N := ht.1
  have ht2 : ∀ i, i < N → M.1.2 15 i = nI (b i) := ht.2
  have key : ∀ k j, j + k = N → a ≤ j → ∀ M1 : Mo, TE M M1 → M1.1.1 21 = nI a → M1.1.1 20 = nI j → sc isLt b k j = sc isLt b (N - a) a → wp_X6_next_L85 post (nI (b a)) (k + 1) M1 := by
    intro k
    induction k with
    | zero =>
      intro j hj haj M1 a1 a4 a5 a6
      have a6 : j = sc isLt b (N - a) a := a6
      rw [← a6] at hp
      have e20 : (pmf M1 22 1).1.1 20 = nI j := a5
      have e21 : (pmf M1 22 1).1.1 21 = nI a := a4
      rw [wp_X6_next_L85, a1.1 14 (by decide), ht1, a5, e20, e21, pk_sub haj, show (1 : Int32) = nI 1 from rfl, nI_eq (by omega) (by decide)]
      have hT := TE_pmf (TE_pmf a1 (k := 22) (by decide) (by decide) (nI 1)) (k := 23) (by decide) (by decide)
      refine ⟨fun _ => ⟨fun c M3 e3 => ?_, fun c M3 e3 => ?_⟩, fun c => absurd (nI_le (by omega) (by omega)) c⟩
      · subst e3
        exact hp _ rfl a4 (by rw [if_neg c]; rfl) a5 (hT _)
      · subst e3
        exact hp _ rfl a4 (by rw [if_pos c]; rfl) a5 (hT _)
    | succ k ih =>
      intro j hj haj M1 a1 a4 a5 a6
      have hbj := hb j
      have e20 : (pmf M1 22 1).1.1 20 = nI j := a5
      have e21 : (pmf M1 22 1).1.1 21 = nI a := a4
      rw [wp_X6_next_L85, a1.1 14 (by decide), ht1, a5, e20, e21, pk_sub haj, nI_1, show (1 : Int32) = nI 1 from rfl, nI_eq (by omega) (by decide), nI_clamp (by omega), a1.2.1, ht2 j (by omega)]
      have hT := TE_pmf (TE_pmf a1 (k := 22) (by decide) (by decide) (nI 1)) (k := 23) (by decide) (by decide)
      refine ⟨fun c => absurd c (nI_ge (by omega) (by omega)), fun _ => ⟨vp_in_nI (by omega) (by decide), m_isLt hbj (fun hf => t2 ?_) (fun hf => f2 ?_)⟩⟩
      · rw [sc_t hf] at a6
        exact ih (j + 1) (by omega) (by omega) _ (TE_pmf a1 (by decide) (by decide) _) a4 rfl a6
      · rw [sc_f hf] at a6
        rw [← a6] at hp
        refine ⟨fun c M3 e3 => ?_, fun c M3 e3 => ?_⟩
        · subst e3
          exact hp _ rfl a4 (by rw [if_neg c]; rfl) a5 (hT _)
        · subst e3
          exact hp _ rfl a4 (by rw [if_pos c]; rfl) a5 (hT _)
  exact ⟨N - a + 1, key (N - a) a (by omega) (Nat.le_refl _) M (TE_refl M) hp4 ha rfl⟩
theorem m_number (hN : N ≤ 150) (hb : ∀ i, b i < 256) (ht : TX (N, b) (M.1.1 14) (M.1.2 15)) {a : Nat} (ha : M.1.1 20 = nI a) (hp4 : M.1.1 21 = nI a) (hp5 : M.1.1 23 = 0) (haN : a < N) (hfa : isFg (b a) = true) {post : Mo → Prop}
    (hp : ∀ M', M'.1.1 21 = nI a → M'.1.1 20 = nI (sc isFg b (N - a) a) → TE M M' → (if 4 ≤ sc isFg b (N - a) a - a ∨ (b a = 48 ∧ sc isFg b (N - a) a - a ≠ 1) then M'.1.1 22 = -1 else M'.1.1 22 = nI 2 ∧ M'.1.1 23 = nI (cvf b (sc isFg b (N - a) a - a) a 0)) → post M') : ∃ n, wp_X6_next_L161 post (nI (b a)) n M := by
  have ht1 : M.1.1 14 = nI N := ht.1
  have ht2 : ∀ i, i < N → M.1.2 15 i = nI (b i) := ht.2
  have hlen := sc_le isFg b (N - a) a
  have hall := sc_all isFg b (N - a) a
  have fin : ∀ M1 : Mo, TE M M1 → M1.1.1 21 = nI a → M1.1.1 20 = nI (sc isFg b (N - a) a) → M1.1.1 23 = nI (mvf b (sc isFg b (N - a) a - a) a 0 0) → wp_X6_next_J244 post (nI (b a)) M1 := by
    intro M1 a1 a3 a4 a5
    generalize sc isFg b (N - a) a = e at *
    have hba := hb a
    have good : ¬ (4 ≤ e - a ∨ (b a = 48 ∧ e - a ≠ 1)) → post (pmf M1 22 2) := fun c => by
      refine hp _ a3 a4 (TE_pmf a1 (by decide) (by decide) _) ?_
      rw [if_neg c]
      refine ⟨rfl, ?_⟩
      show M1.1.1 23 = _
      rw [a5, (mvf_cvf (b := b) (a := a) (m := e - a) (by omega) (fun i h1 h2 => hall i h1 (by omega))).1]
    have bad : (4 ≤ e - a ∨ (b a = 48 ∧ e - a ≠ 1)) → post (pmf M1 22 (-1)) := fun c => by
      refine hp _ a3 a4 (TE_pmf a1 (by decide) (by decide) _) ?_
      rw [if_pos c]
      rfl
    unfold wp_X6_next_J244
    rw [a4, a3, pk_sub (by omega), show (4 : Int32) = nI 4 from rfl, nI_leI (by decide) (by omega), show (48 : Int32) = nI 48 from rfl, nI_eq (by omega) (by decide), show (1 : Int32) = nI 1 from rfl, nI_eq (by omega) (by decide)]
    refine ⟨fun c => bad (Or.inl c), fun c => ⟨fun c2 => good (by omega), fun c2 => ⟨fun c3 => bad (Or.inr ⟨c2, c3⟩), fun c3 => good (by omega)⟩⟩⟩
  have key : ∀ k j v, j + k = N → a ≤ j → v < 1000000 → (3 ≤ j - a ∨ v < 10 ^ (j - a)) → ∀ M1 : Mo, TE M M1 → M1.1.1 21 = nI a → M1.1.1 20 = nI j → M1.1.1 23 = nI v → sc isFg b k j = sc isFg b (N - a) a → mvf b (sc isFg b (N - a) a - j) j (j - a) v = mvf b (sc isFg b (N - a) a - a) a 0 0 → wp_X6_next_L161 post (nI (b a)) (k + 1) M1 := by
    intro k
    induction k with
    | zero =>
      intro j v hj haj hv hv2 M1 a1 a3 a4 a5 a6 a7
      have a6 : j = sc isFg b (N - a) a := a6
      rw [wp_X6_next_L161, a1.1 14 (by decide), ht1, a4]
      refine ⟨fun _ => fin M1 a1 a3 (by rw [← a6]; exact a4) ?_, fun c => absurd (nI_le (by omega) (by omega)) c⟩
      rw [← a7, ← a6, Nat.sub_self]; exact a5
    | succ k ih =>
      intro j v hj haj hv hv2 M1 a1 a3 a4 a5 a6 a7
      have hbj := hb j
      rw [wp_X6_next_L161, a1.1 14 (by decide), ht1, a4, a3, pk_sub haj, nI_clamp (by omega), a1.2.1, ht2 j (by omega), show (3 : Int32) = nI 3 from rfl, nI_leI (a := 3) (b := j - a) (by decide) (by omega)]
      refine ⟨fun c => absurd c (nI_ge (by omega) (by omega)), fun _ => ⟨vp_in_nI (by omega) (by decide), m_isFg hbj (fun hf => t2 ?_) (fun hf => f2 ?_)⟩⟩
      · have hd := fgd hf
        rw [sc_t hf] at a6
        have hl := sc_le isFg b k (j + 1)
        obtain ⟨m, hm⟩ : ∃ m, sc isFg b (N - a) a - j = m + 1 := ⟨sc isFg b (N - a) a - j - 1, by omega⟩
        rw [hm] at a7
        have a7 : mvf b m (j + 1) (j - a + 1) (if 3 ≤ j - a then v else 10 * v + (b j - 48)) = _ := a7
        rw [show m = sc isFg b (N - a) a - (j + 1) by omega, show j - a + 1 = j + 1 - a by omega] at a7
        refine ⟨fun c M2 e2 => ?_, fun c => ⟨vp_in_nI (by omega) (by decide), fun M2 e2 => ?_⟩⟩
        · rw [if_pos c] at a7
          have e3 : M2 = pmf (pmf M1 23 (M1.1.1 23)) 20 (nI (j + 1)) := by
            rw [e2]
            have : (pmf M1 23 (M1.1.1 23)).1.1 20 = nI j := a4
            rw [this, nI_1]
          rw [e3]
          exact ih (j + 1) v (by omega) (by omega) hv (Or.inl (by omega)) _ (TE_pmf (TE_pmf a1 (k := 23) (by decide) (by decide) _) (k := 20) (by decide) (by decide) _) a3 rfl a5 a6 a7
        · rw [if_neg c] at a7
          have e3 : M2 = pmf M1 23 (nI (10 * v + (b j - 48))) := by
            rw [e2, a5, show (10 : Int32) = nI 10 from rfl, pk_mul, nI_add, show (48 : Int32) = nI 48 from rfl, pk_sub (by omega), show 10 * v + b j - 48 = 10 * v + (b j - 48) by omega]
          have e4 : M2.1.1 20 + 1 = nI (j + 1) := by
            rw [e3]
            show M1.1.1 20 + 1 = _
            rw [a4, nI_1]
          rw [e4, e3]
          have hvv : v < 10 ^ (j - a) := by
            rcases hv2 with q | q
            · omega
            · exact q
          have h10 : 10 ^ (j - a) ≤ 100 := by
            have : 10 ^ (j - a) ≤ 10 ^ 2 := Nat.pow_le_pow_right (by decide) (by omega)
            simpa using this
          refine ih (j + 1) (10 * v + (b j - 48)) (by omega) (by omega) (by omega) (Or.inr ?_) _ (TE_pmf (TE_pmf a1 (k := 23) (by decide) (by decide) _) (k := 20) (by decide) (by decide) _) a3 rfl rfl a6 a7
          rw [show j + 1 - a = (j - a) + 1 by omega, Nat.pow_succ]
          omega
      · rw [sc_f hf] at a6
        refine fin M1 a1 a3 (by rw [← a6]; exact a4) ?_
        rw [← a7, ← a6, Nat.sub_self]; exact a5
  exact ⟨N - a + 1, key (N - a) a 0 (by omega) (Nat.le_refl _) (by decide) (Or.inr (by rw [Nat.sub_self]; decide)) M (TE_refl M) hp4 ha hp5 rfl (by rw [Nat.sub_self])⟩
theorem m_next1 (hN : N ≤ 150) (hb : ∀ i, b i < 256) (ht : TX (N, b) (M.1.1 14) (M.1.2 15)) {a : Nat} (ha : M.1.1 20 = nI a) (haN : a ≤ N) {post : Mo → Prop} (hp : ∀ M', MT (nx1 N b a) M' → TE M M' → post M') : wp_X6_next_J38 post M := by
  intro M7 e7
  have hT : TE M (pmf M7 23 0) := by
    rw [e7]
    exact TE_pmf (TE_pmf (TE_pmf (TE_refl M) (k := 21) (by decide) (by decide) _) (k := 22) (by decide) (by decide) _) (k := 23) (by decide) (by decide) _
  have a20 : (pmf M7 23 0).1.1 20 = nI a := by rw [e7]; exact ha
  have a21 : (pmf M7 23 0).1.1 21 = nI a := by rw [e7]; exact ha
  have a22 : (pmf M7 23 0).1.1 22 = 0 := by rw [e7]; rfl
  have a23 : (pmf M7 23 0).1.1 23 = 0 := rfl
  generalize pmf M7 23 0 = M8 at *
  have ht1 : M.1.1 14 = nI N := ht.1
  have ht2 : ∀ i, i < N → M.1.2 15 i = nI (b i) := ht.2
  have htS : TX (N, b) (M8.1.1 14) (M8.1.2 15) := by rw [hT.1 14 (by decide), hT.2.1]; exact ht
  rw [hT.1 14 (by decide), ht1, a20, nI_eq (by omega) (by omega), nI_clamp (by omega), hT.2.1]
  unfold nx1 at hp
  refine ⟨fun c => ?_, fun c => ?_⟩
  · rw [if_neg (by omega)] at hp
    have hba := hb a
    have hlt : a < N := by omega
    rw [ht2 a hlt]
    refine ⟨vp_in_nI (by omega) (by decide), fun y9 e9 => ?_⟩
    subst e9
    refine m_isLt hba (fun hl => t2 ?_) (fun hl => f2 ?_)
    · rw [if_pos hl] at hp
      exact m_letters hN hb htS a20 a21 hlt (fun M' b1 b2 b3 b4 b5 => hp _ ⟨b1, b2, fun _ => b3, fun _ => b4⟩ (TE_trans hT b5))
    · rw [if_neg (by rw [hl]; decide)] at hp
      refine m_isFg hba (fun hf => t2 ?_) (fun hf => f2 ?_)
      · rw [if_pos hf] at hp
        refine m_number hN hb htS a20 a21 a23 hlt hf (fun M' b1 b2 b3 b5 => ?_)
        by_cases q : 4 ≤ sc isFg b (N - a) a - a ∨ (b a = 48 ∧ sc isFg b (N - a) a - a ≠ 1)
        · rw [if_pos q] at hp b5
          exact hp _ ⟨b5, b1, fun z => (by rcases z with z | z <;> cases z), fun z => absurd rfl z⟩ (TE_trans hT b3)
        · rw [if_neg q] at hp b5
          exact hp _ ⟨b5.1, b1, fun _ => b5.2, fun _ => b2⟩ (TE_trans hT b3)
      · rw [if_neg (by rw [hf]; decide)] at hp
        intro M14 e14
        rw [nI_1] at e14
        have hT2 : TE M M14 := by rw [e14]; exact TE_pmf hT (k := 20) (by decide) (by decide) _
        have b21 : M14.1.1 21 = nI a := by rw [e14]; exact a21
        have b20 : M14.1.1 20 = nI (a + 1) := by rw [e14]; rfl
        rw [show (59 : Int32) = nI 59 from rfl, nI_eq (by omega) (by decide)]
        refine ⟨fun c2 => ?_, fun c2 => ?_⟩
        · rw [if_neg c2] at hp
          exact hp _ ⟨rfl, b21, fun z => (by rcases z with z | z <;> cases z), fun z => absurd rfl z⟩ (TE_pmf hT2 (k := 22) (by decide) (by decide) _)
        · rw [if_pos c2] at hp
          exact hp _ ⟨rfl, b21, fun z => (by rcases z with z | z <;> cases z), fun _ => b20⟩ (TE_pmf hT2 (k := 22) (by decide) (by decide) _)
  · rw [if_pos (by omega)] at hp
    exact hp _ ⟨a22, a21, fun z => (by rcases z with z | z <;> cases z), fun _ => a20⟩ hT
theorem m_next (hN : N ≤ 150) (hb : ∀ i, b i < 256) (ht : TX (N, b) (M.1.1 14) (M.1.2 15)) {a : Nat} (ha : M.1.1 20 = nI a) (haN : a ≤ N) {post : Mo → Prop} (hp : ∀ M', MT (nx N b a) M' → TE M M' → post M') : wp_X6_next M post := by
  have ht1 : M.1.1 14 = nI N := ht.1
  have ht2 : ∀ i, i < N → M.1.2 15 i = nI (b i) := ht.2
  have key : ∀ k j, j + k = N → ∀ M1 : Mo, TE M M1 → M1.1.1 20 = nI j → sc isSp b k j = sc isSp b (N - a) a → wp_X6_next_L0 post (k + 1) M1 := by
    intro k
    induction k with
    | zero =>
      intro j hj M1 a1 a3 a4
      have a4 : j = sc isSp b (N - a) a := a4
      rw [wp_X6_next_L0, a1.1 14 (by decide), ht1, a3]
      refine ⟨fun _ => m_next1 hN hb (by rw [a1.1 14 (by decide), a1.2.1]; exact ht) a3 (by omega) (fun M' b1 b2 => ?_), fun c => absurd (nI_le (by omega) (by omega)) c⟩
      unfold nx at hp
      rw [← a4] at hp
      exact hp _ b1 (TE_trans a1 b2)
    | succ k ih =>
      intro j hj M1 a1 a3 a4
      have hbj := hb j
      rw [wp_X6_next_L0, a1.1 14 (by decide), ht1, a3, nI_clamp (by omega), a1.2.1, ht2 j (by omega), show (32 : Int32) = nI 32 from rfl, nI_eq (by omega) (by decide), nI_1]
      refine ⟨fun c => absurd c (nI_ge (by omega) (by omega)), fun _ => ⟨vp_in_nI (by omega) (by decide), fun c => ?_, fun c => ?_⟩⟩
      · rw [sc_f (by simp [isSp, c])] at a4
        unfold nx at hp
        rw [← a4] at hp
        exact m_next1 hN hb (by rw [a1.1 14 (by decide), a1.2.1]; exact ht) a3 (by omega) (fun M' b1 b2 => hp _ b1 (TE_trans a1 b2))
      · rw [sc_t (by simp [isSp, c])] at a4
        exact ih (j + 1) (by omega) _ (TE_pmf a1 (by decide) (by decide) _) rfl a4
  exact ⟨N - a + 1, key (N - a) a (by omega) M (TE_refl M) ha rfl⟩
end M
