/-! ===== pure: items ===== -/
/-- persons, locks, codes, who knows what, friends -/
abbrev PL : Type := Nat × Nat × (Nat → Nat) × (Nat → Nat → Bool) × (Nat → Nat)
def VP (π : PL) : Prop := π.1 ≤ 6 ∧ π.2.1 ≤ 8 ∧ (∀ l, π.2.2.1 l < 1000) ∧ (∀ p l, π.2.2.2.1 p l = true → p < π.1 ∧ l < π.2.1) ∧ ∀ p, π.2.2.2.2 p < 64
def pl0 : PL := (3, 0, fun _ => 0, fun _ _ => false, fun _ => 0)
def plN (π : PL) (v : Nat) : PL := (v, π.2)
def plL (π : PL) (v : Nat) : PL := (π.1, π.2.1 + 1, upN π.2.2.1 π.2.1 v, π.2.2.2)
def plK (π : PL) (p l : Nat) : PL := (π.1, π.2.1, π.2.2.1, (fun q k => decide (q = p ∧ k = l) || π.2.2.2.1 q k), π.2.2.2.2)
def plF (π : PL) (a b : Nat) : PL := (π.1, π.2.1, π.2.2.1, π.2.2.2.1, upN (upN π.2.2.2.2 a (π.2.2.2.2 a ||| 2 ^ b)) b (π.2.2.2.2 b ||| 2 ^ a))
abbrev Rs : Type := Sum Nat (PL × Nat)
def enI (N : Nat) (b : Nat → Nat) (π : PL) (a : Nat) : Rs := if (nx N b a).1 = 3 then .inr (π, (nx N b a).2.2.2) else .inl (nx N b a).2.2.1
def itN (N : Nat) (b : Nat → Nat) (π : PL) (u : Tk) : Rs := if u.1 = 2 ∧ 1 ≤ u.2.1 ∧ u.2.1 ≤ 6 then enI N b (plN π u.2.1) u.2.2.2 else .inl u.2.2.1
def itL (N : Nat) (b : Nat → Nat) (π : PL) (u : Tk) : Rs := if u.1 = 2 then enI N b (plL π u.2.1) u.2.2.2 else .inl u.2.2.1
def itK (N : Nat) (b : Nat → Nat) (π : PL) (u : Tk) : Rs := if u.1 = 2 ∧ u.2.1 < π.1 then (if (nx N b u.2.2.2).1 = 2 ∧ (nx N b u.2.2.2).2.1 < π.2.1 then enI N b (plK π u.2.1 (nx N b u.2.2.2).2.1) (nx N b u.2.2.2).2.2.2 else .inl (nx N b u.2.2.2).2.2.1) else .inl u.2.2.1
def itF (N : Nat) (b : Nat → Nat) (π : PL) (u : Tk) : Rs := if u.1 = 2 ∧ u.2.1 < π.1 then (if (nx N b u.2.2.2).1 = 2 ∧ (nx N b u.2.2.2).2.1 < π.1 ∧ (nx N b u.2.2.2).2.1 ≠ u.2.1 then enI N b (plF π u.2.1 (nx N b u.2.2.2).2.1) (nx N b u.2.2.2).2.2.2 else .inl (nx N b u.2.2.2).2.2.1) else .inl u.2.2.1
def itm (N : Nat) (b : Nat → Nat) (π : PL) (f : Bool) (τ : Tk) : Rs :=
  if τ.1 = 1 then
    if τ.2.1 = 110 then (if f = true then itN N b π (nx N b τ.2.2.2) else .inl τ.2.2.1)
    else if τ.2.1 = 108 then (if π.2.1 < 8 then itL N b π (nx N b τ.2.2.2) else .inl τ.2.2.1)
    else if τ.2.1 = 107 then itK N b π (nx N b τ.2.2.2)
    else if τ.2.1 = 102 then itF N b π (nx N b τ.2.2.2)
    else .inl τ.2.2.1
  else .inl τ.2.2.1
theorem v_plN {π : PL} (h : VP π) (h0 : ∀ p l, π.2.2.2.1 p l = false) {v : Nat} (hv : v ≤ 6) : VP (plN π v) := ⟨hv, h.2.1, h.2.2.1, fun p l e => (by have e : π.2.2.2.1 p l = true := e; rw [h0] at e; cases e), h.2.2.2.2⟩
theorem v_plL {π : PL} (h : VP π) (hL : π.2.1 < 8) {v : Nat} (hv : v < 1000) : VP (plL π v) := ⟨h.1, hL, upN_lt h.2.2.1 hv, fun p l e => ⟨(h.2.2.2.1 p l e).1, Nat.lt_succ_of_lt (h.2.2.2.1 p l e).2⟩, h.2.2.2.2⟩
theorem v_plK {π : PL} (h : VP π) {p l : Nat} (hp : p < π.1) (hl : l < π.2.1) : VP (plK π p l) := by
  refine ⟨h.1, h.2.1, h.2.2.1, fun q k e => ?_, h.2.2.2.2⟩
  have e : (decide (q = p ∧ k = l) || π.2.2.2.1 q k) = true := e
  simp only [Bool.or_eq_true, decide_eq_true_eq] at e
  rcases e with ⟨rfl, rfl⟩ | e
  · exact ⟨hp, hl⟩
  · exact h.2.2.2.1 q k e
theorem or64 {a p : Nat} (ha : a < 64) (hp : p < 6) : a ||| 2 ^ p < 64 := Nat.or_lt_two_pow (n := 6) ha (Nat.pow_lt_pow_right (by decide) hp)
theorem v_plF {π : PL} (h : VP π) {a c : Nat} (ha : a < π.1) (hc : c < π.1) : VP (plF π a c) := ⟨h.1, h.2.1, h.2.2.1, h.2.2.2.1, upN_lt (upN_lt h.2.2.2.2 (or64 (h.2.2.2.2 a) (by have := h.1; omega))) (or64 (h.2.2.2.2 c) (by have := h.1; omega))⟩
/-- what comes of an item -/
theorem enI_ok {N : Nat} {b : Nat → Nat} {π : PL} {a : Nat} (ha : a ≤ N) (hv : VP π) : (∀ e, enI N b π a = .inr e → VP e.1 ∧ a < e.2 ∧ e.2 ≤ N) ∧ ∀ p, enI N b π a = .inl p → p ≤ N := by
  obtain ⟨h1, h2, h3, h4, h5, h6, h7, h8⟩ := nx_ok (b := b) ha
  unfold enI
  by_cases c : (nx N b a).1 = 3
  · rw [if_pos c]
    refine ⟨fun e h => ?_, fun p h => by cases h⟩
    cases h
    exact ⟨hv, by have := h6 (Or.inr (Or.inr c)); show a < (nx N b a).2.2.2; omega, h3⟩
  · rw [if_neg c]
    exact ⟨fun e h => (by cases h), fun p h => by cases h; exact h2⟩
theorem itm_ok {N : Nat} {b : Nat → Nat} {π : PL} {f : Bool} {a : Nat} (ha : a ≤ N) (hv : VP π) (h0 : f = true → ∀ p l, π.2.2.2.1 p l = false) : (∀ e, itm N b π f (nx N b a) = .inr e → VP e.1 ∧ (nx N b a).2.2.1 < e.2 ∧ e.2 ≤ N) ∧ ∀ p, itm N b π f (nx N b a) = .inl p → p ≤ N := by
  obtain ⟨h1, h2, h3, h4, h5, h6, h7, h8⟩ := nx_ok (b := b) ha
  obtain ⟨u1, u2, u3, u4, u5, u6, u7, u8⟩ := nx_ok (b := b) h3
  have fail : ∀ q, q ≤ N → (∀ e : PL × Nat, (Sum.inl q : Rs) = .inr e → VP e.1 ∧ (nx N b a).2.2.1 < e.2 ∧ e.2 ≤ N) ∧ ∀ p, (Sum.inl q : Rs) = .inl p → p ≤ N := fun q hq => ⟨fun e h => (by cases h), fun p h => by cases h; exact hq⟩
  have ok : ∀ π' c, VP π' → (nx N b a).2.2.1 ≤ c → c ≤ N → (∀ e, enI N b π' c = .inr e → VP e.1 ∧ (nx N b a).2.2.1 < e.2 ∧ e.2 ≤ N) ∧ ∀ p, enI N b π' c = .inl p → p ≤ N := fun π' c hv' h1 h2 => ⟨fun e h => by
    obtain ⟨x1, x2, x3⟩ := (enI_ok h2 hv').1 e h
    exact ⟨x1, by omega, x3⟩, (enI_ok h2 hv').2⟩
  unfold itm
  by_cases c1 : (nx N b a).1 = 1
  · have hlt := h6 (Or.inl c1)
    rw [if_pos c1]
    by_cases c2 : (nx N b a).2.1 = 110
    · rw [if_pos c2]
      by_cases c3 : f = true
      · rw [if_pos c3]
        unfold itN
        by_cases c4 : (nx N b (nx N b a).2.2.2).1 = 2 ∧ 1 ≤ (nx N b (nx N b a).2.2.2).2.1 ∧ (nx N b (nx N b a).2.2.2).2.1 ≤ 6
        · rw [if_pos c4]
          exact ok _ _ (v_plN hv (h0 c3) c4.2.2) (by have := u6 (Or.inr (Or.inl c4.1)); omega) u3
        · rw [if_neg c4]; exact fail _ u2
      · rw [if_neg c3]; exact fail _ h2
    · rw [if_neg c2]
      by_cases c3 : (nx N b a).2.1 = 108
      · rw [if_pos c3]
        by_cases c4 : π.2.1 < 8
        · rw [if_pos c4]
          unfold itL
          by_cases c5 : (nx N b (nx N b a).2.2.2).1 = 2
          · rw [if_pos c5]
            exact ok _ _ (v_plL hv c4 (u7 c5)) (by have := u6 (Or.inr (Or.inl c5)); omega) u3
          · rw [if_neg c5]; exact fail _ u2
        · rw [if_neg c4]; exact fail _ h2
      · rw [if_neg c3]
        obtain ⟨w1, w2, w3, w4, w5, w6, w7, w8⟩ := nx_ok (b := b) u3
        by_cases c4 : (nx N b a).2.1 = 107
        · rw [if_pos c4]
          unfold itK
          by_cases c5 : (nx N b (nx N b a).2.2.2).1 = 2 ∧ (nx N b (nx N b a).2.2.2).2.1 < π.1
          · rw [if_pos c5]
            by_cases c6 : (nx N b (nx N b (nx N b a).2.2.2).2.2.2).1 = 2 ∧ (nx N b (nx N b (nx N b a).2.2.2).2.2.2).2.1 < π.2.1
            · rw [if_pos c6]
              exact ok _ _ (v_plK hv c5.2 c6.2) (by have := u6 (Or.inr (Or.inl c5.1)); have := w6 (Or.inr (Or.inl c6.1)); omega) w3
            · rw [if_neg c6]; exact fail _ w2
          · rw [if_neg c5]; exact fail _ u2
        · rw [if_neg c4]
          by_cases c7 : (nx N b a).2.1 = 102
          · rw [if_pos c7]
            unfold itF
            by_cases c5 : (nx N b (nx N b a).2.2.2).1 = 2 ∧ (nx N b (nx N b a).2.2.2).2.1 < π.1
            · rw [if_pos c5]
              by_cases c6 : (nx N b (nx N b (nx N b a).2.2.2).2.2.2).1 = 2 ∧ (nx N b (nx N b (nx N b a).2.2.2).2.2.2).2.1 < π.1 ∧ (nx N b (nx N b (nx N b a).2.2.2).2.2.2).2.1 ≠ (nx N b (nx N b a).2.2.2).2.1
              · rw [if_pos c6]
                exact ok _ _ (v_plF hv c5.2 c6.2.1) (by have := u6 (Or.inr (Or.inl c5.1)); have := w6 (Or.inr (Or.inl c6.1)); omega) w3
              · rw [if_neg c6]; exact fail _ w2
            · rw [if_neg c5]; exact fail _ u2
          · rw [if_neg c7]; exact fail _ h2
  · rw [if_neg c1]; exact fail _ h2
theorem nx_let {N a : Nat} {b : Nat → Nat} (hb : ∀ i, b i < 256) (c1 : (nx N b a).1 = 1) : (nx N b a).2.1 < 256 := by
  revert c1
  unfold nx nx1
  generalize sc isSp b (N - a) a = a1
  by_cases h0 : N ≤ a1
  · rw [if_pos h0]; intro z; cases z
  · rw [if_neg h0]
    by_cases h1 : isLt (b a1) = true
    · rw [if_pos h1]
      intro _
      have := hb a1
      show (if sc isLt b (N - a1) a1 - a1 = 1 then b a1 else 0) < 256
      split
      · exact this
      · decide
    · rw [if_neg h1]
      by_cases h2 : isFg (b a1) = true
      · rw [if_pos h2]
        by_cases h3 : 4 ≤ sc isFg b (N - a1) a1 - a1 ∨ (b a1 = 48 ∧ sc isFg b (N - a1) a1 - a1 ≠ 1)
        · rw [if_pos h3]; intro z; cases z
        · rw [if_neg h3]; intro z; cases z
      · rw [if_neg h2]
        by_cases h3 : b a1 = 59
        · rw [if_pos h3]; intro z; cases z
        · rw [if_neg h3]; intro z; cases z
/-! the class -/
def PR (π : PL) (P : Ob) : Prop := P.1 3 = nI π.1 ∧ P.1 4 = nI π.2.1 ∧ (∀ l, l < 8 → P.2 0 l = nI (π.2.2.1 l)) ∧ (∀ l, l < 8 → P.2 1 l = nI (mk 6 fun p => π.2.2.2.1 p l)) ∧ ∀ p, p < 6 → P.2 2 p = nI (π.2.2.2.2 p)
def FT (S S' : Ob) : Prop := S'.1 1 = S.1 1 ∧ S'.2 = S.2
theorem FT_trans {A B C : Ob} (h : FT A B) (g : FT B C) : FT A C := ⟨g.1.trans h.1, g.2.trans h.2⟩
theorem FT_tx {t : Nat × (Nat → Nat)} {A B : Ob} (h : FT A B) (ht : TX t (A.1 1) (A.2 0)) : TX t (B.1 1) (B.2 0) := by rw [h.1, h.2]; exact ht
def IC2 (res : Rs) (r : Int32) (S P : Ob) : Prop :=
  match res with
  | .inl p => r = 0 ∧ S.1 4 = nI p
  | .inr e => r = 1 ∧ S.1 2 = nI e.2 ∧ PR e.1 P
section C
variable {N : Nat} {b : Nat → Nat} {S P : Ob} {π : PL}
theorem c_num (hN : N ≤ 150) (hb : ∀ i, b i < 256) (ht : TX (N, b) (S.1 1) (S.2 0)) {a : Nat} (ha : S.1 2 = nI a) (haN : a ≤ N) {lo h : Nat} (hlo : lo < 1000) {x2 : Int32} (hx2 : ∀ v, v < 1000 → (x2 < nI v ↔ h ≤ v)) {post : Int32 → Ob → Prop} (h1 : ∀ S', CT (nx N b a) S' → FT S S' → (nx N b a).1 = 2 → lo ≤ (nx N b a).2.1 → (nx N b a).2.1 < h → S'.1 5 = nI (nx N b a).2.1 → post 1 S') (h0 : ∀ S', CT (nx N b a) S' → FT S S' → ¬ ((nx N b a).1 = 2 ∧ lo ≤ (nx N b a).2.1 ∧ (nx N b a).2.1 < h) → post 0 S') : wp_X4_readNumber S (nI lo) x2 post := by
  unfold wp_X4_readNumber
  obtain ⟨n1, n2, n3, n4, n5, n6, n7, n8⟩ := nx_ok (b := b) haN
  refine c_advance hN hb ht ha haN (fun S' hC f1 f2 => ?_)
  rw [hC.1, show (2 : Int32) = nI 2 from rfl, nI_eq (by omega) (by decide)]
  refine ⟨fun c => h0 S' hC ⟨f1, f2⟩ (fun q => c q.1), fun c => ?_⟩
  have hv := n7 c
  have h5 := hC.2.2.1 (Or.inr c)
  rw [h5, nI_ltI (by omega) (by omega), hx2 _ hv]
  refine ⟨fun c2 => h0 S' hC ⟨f1, f2⟩ (fun q => by omega), fun c2 => ⟨fun c3 => h0 S' hC ⟨f1, f2⟩ (fun q => by omega), fun c3 => h1 S' hC ⟨f1, f2⟩ c (by omega) (by omega) h5⟩⟩
theorem lt_pred {h : Nat} (hh : h < 1000) : ∀ v, v < 1000 → (nI h - 1 < nI v ↔ h ≤ v) := by
  intro v hv
  by_cases q : h = 0
  · subst q
    have : nI 0 - 1 = -1 := by decide
    rw [this, Int32.lt_iff_toInt_lt, nI_toInt (by omega)]
    have : (-1 : Int32).toInt = -1 := by decide
    omega
  · rw [show (1 : Int32) = nI 1 from rfl, pk_sub (by omega), nI_ltI (by omega) (by omega)]
    omega
theorem c_end (hN : N ≤ 150) (hb : ∀ i, b i < 256) (ht : TX (N, b) (S.1 1) (S.2 0)) {a : Nat} (ha : S.1 2 = nI a) (haN : a ≤ N) (hP : PR π P) {post : Int32 → Ob → Prop} (hp : ∀ r S', IC2 (enI N b π a) r S' P → FT S S' → (r = 0 ∨ r = 1) → post r S') : wp_X4_readEnd S post := by
  unfold wp_X4_readEnd
  obtain ⟨n1, n2, n3, n4, n5, n6, n7, n8⟩ := nx_ok (b := b) haN
  refine c_advance hN hb ht ha haN (fun S' hC f1 f2 => ?_)
  rw [hC.1, show (3 : Int32) = nI 3 from rfl, nI_eq (by omega) (by decide)]
  unfold enI at hp
  refine ⟨fun c => ?_, fun c => ?_⟩
  · rw [if_neg c] at hp
    exact hp 0 S' ⟨rfl, hC.2.1⟩ ⟨f1, f2⟩ (Or.inl rfl)
  · rw [if_pos c] at hp
    exact hp 1 S' ⟨rfl, hC.2.2.2 (by omega), hP⟩ ⟨f1, f2⟩ (Or.inr rfl)
theorem PR_K (hP : PR π P) {p l : Nat} (hp : p < 6) : PR (plK π p l) (pa P 1 l (P.2 1 l ||| nI (2 ^ p))) := by
  obtain ⟨h1, h2, h3, h4, h5⟩ := hP
  refine ⟨h1, h2, h3, fun y hy => ?_, h5⟩
  show upd (P.2 1) l (P.2 1 l ||| nI (2 ^ p)) y = nI (mk 6 fun q => decide (q = p ∧ y = l) || π.2.2.2.1 q y)
  rw [upd_at]
  by_cases e : y = l
  · rw [if_pos e]
    subst e
    rw [h4 y hy, fa_or, mk_set _ hp]
    congr 1
    exact mk_cg fun i _ => by simp
  · rw [if_neg e, h4 y hy]
    congr 1
    exact mk_cg fun i _ => by simp [e]
theorem c_item (hN : N ≤ 150) (hb : ∀ i, b i < 256) (ht : TX (N, b) (S.1 1) (S.2 0)) {a0 : Nat} (ha0 : a0 ≤ N) (hC : CT (nx N b a0) S) (hv : VP π) (hP : PR π P) {k : Nat} (hk : k < 1000) {post : Int32 → Ob → Ob → Prop} (hp : ∀ r S' P', IC2 (itm N b π (decide (k = 0)) (nx N b a0)) r S' P' → FT S S' → post r S' P') : wp_X4_readItem S P (nI k) post := by
  obtain ⟨n1, n2, n3, n4, n5, n6, n7, n8⟩ := nx_ok (b := b) ha0
  have hv1 := hv.1
  have hv2 := hv.2.1
  unfold wp_X4_readItem
  rw [hC.1, show (1 : Int32) = nI 1 from rfl, nI_eq (by omega) (by decide)]
  unfold itm at hp
  refine ⟨fun c1 => ?_, fun c1 => ?_⟩
  · rw [if_pos c1] at hp
    have h5 := hC.2.2.1 (Or.inl c1)
    have h2 := hC.2.2.2 (by omega)
    have hvl := nx_let hb c1
    generalize hτ : nx N b a0 = τ at *
    have fl : post 0 S P → post 0 S P := id
    have E : ∀ m : Nat, m < 256 → (S.1 5 = nI m ↔ τ.2.1 = m) := fun m hm => by rw [h5]; exact nI_eq (by omega) (by omega)
    have no : τ.2.1 ≠ 110 → τ.2.1 ≠ 108 → τ.2.1 ≠ 107 → τ.2.1 ≠ 102 → post 0 S P := fun e1 e2 e3 e4 => by
      rw [if_neg e1, if_neg e2, if_neg e3, if_neg e4] at hp
      exact hp 0 S P ⟨rfl, hC.2.1⟩ ⟨rfl, rfl⟩
    refine ⟨fun c => ?_, fun c => ?_, fun c => ?_, fun c => ?_, fun c => ?_, fun c => ?_, fun c => ?_, fun c => ?_, fun c => ?_, fun c => ?_⟩
    · -- friends
      have e := (E 102 (by decide)).mp c
      rw [if_neg (by omega), if_neg (by omega), if_neg (by omega), if_pos e] at hp
      unfold itF at hp
      unfold wp_X4_readFriends
      refine c_num hN hb ht h2 n3 (lo := 0) (by decide) (h := π.1) (by rw [hP.1]; exact lt_pred (by omega)) (fun S1 hC1 w1 q1 _ q2 v1 => t1 ?_) (fun S1 hC1 w1 q => f1 ?_)
      · rw [if_pos ⟨q1, q2⟩] at hp
        obtain ⟨m1, m2, m3, m4, m5, m6, m7, m8⟩ := nx_ok (b := b) n3
        refine c_num hN hb (FT_tx w1 ht) (hC1.2.2.2 (by omega)) m3 (lo := 0) (by decide) (h := π.1) (by rw [hP.1]; exact lt_pred (by omega)) (fun S2 hC2 f2' q3 _ q4 v2 => t2 ?_) (fun S2 hC2 f2' q => f2 ?_)
        · obtain ⟨o1, o2, o3, o4, o5, o6, o7, o8⟩ := nx_ok (b := b) m3
          rw [v1, v2, nI_eq (by omega) (by omega)]
          refine ⟨fun q5 => ?_, fun q5 => ?_⟩
          · rw [if_pos ⟨q3, q4, q5⟩] at hp
            unfold wp_X1_befriend
            rw [nI_clamp (by omega), nI_clamp (by omega), sh1 _ (by omega), sh1 _ (by omega)]
            refine ⟨vp_in_nI (by omega) (by decide), vp_in_nI (by omega) (by decide), fun P1 e1 => ⟨vp_in_nI (by omega) (by decide), vp_in_nI (by omega) (by decide), fun P2 e2 => ?_⟩⟩
            have hP2 : PR (plF π (nx N b τ.2.2.2).2.1 (nx N b (nx N b τ.2.2.2).2.2.2).2.1) P2 := by
              obtain ⟨g1, g2, g3, g4, g5⟩ := hP
              rw [e2, e1]
              refine ⟨g1, g2, g3, g4, fun y hy => ?_⟩
              show upd (upd (P.2 2) _ _) _ (upd (P.2 2) _ _ _ ||| _) y = nI (upN (upN π.2.2.2.2 _ _) _ _ y)
              rw [upd_at, upd_at, upd_at, if_neg q5]
              unfold upN
              by_cases z : y = (nx N b (nx N b τ.2.2.2).2.2.2).2.1
              · rw [if_pos z, if_pos z, g5 _ (by omega), fa_or]
              · rw [if_neg z, if_neg z]
                by_cases z2 : y = (nx N b τ.2.2.2).2.1
                · rw [if_pos z2, if_pos z2, g5 _ (by omega), fa_or]
                · rw [if_neg z2, if_neg z2]; exact g5 y hy
            refine c_end hN hb (FT_tx (FT_trans w1 f2') ht) (hC2.2.2.2 (by omega)) o3 hP2 (fun r S3 hr f3 hrr => ?_)
            have := hp r S3 P2 hr (FT_trans (FT_trans w1 f2') f3)
            rcases hrr with rfl | rfl
            · exact ⟨nar0, nar0, this⟩
            · exact ⟨nar1, nar1, this⟩
          · rw [if_neg (fun z => z.2.2 q5)] at hp
            exact ⟨nar0, hp 0 S2 P ⟨rfl, hC2.2.1⟩ (FT_trans w1 f2')⟩
        · rw [if_neg (fun z => q ⟨z.1, Nat.zero_le _, z.2.1⟩)] at hp
          exact ⟨nar0, hp 0 S2 P ⟨rfl, hC2.2.1⟩ (FT_trans w1 f2')⟩
      · rw [if_neg (fun z => q ⟨z.1, Nat.zero_le _, z.2⟩)] at hp
        exact ⟨nar0, hp 0 S1 P ⟨rfl, hC1.2.1⟩ w1⟩
    · have e := (E 103 (by decide)).mp c; exact no (by omega) (by omega) (by omega) (by omega)
    · have e := (E 104 (by decide)).mp c; exact no (by omega) (by omega) (by omega) (by omega)
    · have e := (E 105 (by decide)).mp c; exact no (by omega) (by omega) (by omega) (by omega)
    · have e := (E 106 (by decide)).mp c; exact no (by omega) (by omega) (by omega) (by omega)
    · -- who knows it
      have e := (E 107 (by decide)).mp c
      rw [if_neg (by omega), if_neg (by omega), if_pos e] at hp
      unfold itK at hp
      unfold wp_X4_readKnows
      refine c_num hN hb ht h2 n3 (lo := 0) (by decide) (h := π.1) (by rw [hP.1]; exact lt_pred (by omega)) (fun S1 hC1 w1 q1 _ q2 v1 => t1 ?_) (fun S1 hC1 w1 q => f1 ?_)
      · rw [if_pos ⟨q1, q2⟩] at hp
        obtain ⟨m1, m2, m3, m4, m5, m6, m7, m8⟩ := nx_ok (b := b) n3
        refine c_num hN hb (FT_tx w1 ht) (hC1.2.2.2 (by omega)) m3 (lo := 0) (by decide) (h := π.2.1) (by rw [hP.2.1]; exact lt_pred (by omega)) (fun S2 hC2 f2' q3 _ q4 v2 => t1 ?_) (fun S2 hC2 f2' q => f1 ?_)
        · obtain ⟨o1, o2, o3, o4, o5, o6, o7, o8⟩ := nx_ok (b := b) m3
          rw [if_pos ⟨q3, q4⟩] at hp
          rw [v1, v2, nI_clamp (by omega), sh1 _ (by omega)]
          refine ⟨vp_in_nI (by omega) (by decide), vp_in_nI (by omega) (by decide), fun P1 e1 => ?_⟩
          have hP2 : PR (plK π (nx N b τ.2.2.2).2.1 (nx N b (nx N b τ.2.2.2).2.2.2).2.1) P1 := by
            rw [e1]
            exact PR_K hP (by omega)
          refine c_end hN hb (FT_tx (FT_trans w1 f2') ht) (hC2.2.2.2 (by omega)) o3 hP2 (fun r S3 hr f3 hrr => ?_)
          have := hp r S3 P1 hr (FT_trans (FT_trans w1 f2') f3)
          rcases hrr with rfl | rfl
          · exact ⟨nar0, nar0, this⟩
          · exact ⟨nar1, nar1, this⟩
        · rw [if_neg (fun z => q ⟨z.1, Nat.zero_le _, z.2⟩)] at hp
          exact ⟨nar0, hp 0 S2 P ⟨rfl, hC2.2.1⟩ (FT_trans w1 f2')⟩
      · rw [if_neg (fun z => q ⟨z.1, Nat.zero_le _, z.2⟩)] at hp
        exact ⟨nar0, hp 0 S1 P ⟨rfl, hC1.2.1⟩ w1⟩
    · -- a lock
      have e := (E 108 (by decide)).mp c
      rw [if_neg (by omega), if_pos e] at hp
      rw [hP.2.1, show (8 : Int32) = nI 8 from rfl, nI_leI (by decide) (by omega)]
      refine ⟨fun q0 => ?_, fun q0 => ?_⟩
      · rw [if_neg (by omega)] at hp
        exact hp 0 S P ⟨rfl, hC.2.1⟩ ⟨rfl, rfl⟩
      · rw [if_pos (by omega)] at hp
        unfold itL at hp
        unfold wp_X4_readLock
        refine c_num hN hb ht h2 n3 (lo := 0) (by decide) (h := 1000) (fun v hv => by rw [show (999 : Int32) = nI 999 from rfl, nI_ltI (by decide) (by omega)]; omega) (fun S1 hC1 w1 q1 _ q2 v1 => t1 ?_) (fun S1 hC1 w1 q => f1 ?_)
        · rw [if_pos q1] at hp
          obtain ⟨m1, m2, m3, m4, m5, m6, m7, m8⟩ := nx_ok (b := b) n3
          unfold wp_X1_addLock
          rw [v1, hP.2.1, nI_clamp (by omega)]
          refine ⟨fun q => absurd q (nI_ge (b := 8) (by omega) (by decide)), fun _ => ⟨vp_in_nI (by omega) (by decide), fun P1 e1 => ?_⟩⟩
          have hP2 : PR (plL π (nx N b τ.2.2.2).2.1) (pf P1 4 (P1.1 4 + 1)) := by
            obtain ⟨g1, g2, g3, g4, g5⟩ := hP
            rw [e1]
            refine ⟨g1, ?_, fun y hy => ?_, g4, g5⟩
            · show P.1 4 + 1 = nI (π.2.1 + 1)
              rw [g2, nI_1]
            · show upd (P.2 0) _ _ y = nI (upN π.2.2.1 π.2.1 _ y)
              rw [upd_at]
              unfold upN
              by_cases z : y = π.2.1
              · rw [if_pos z, if_pos z]
              · rw [if_neg z, if_neg z]; exact g3 y hy
          refine c_end hN hb (FT_tx w1 ht) (hC1.2.2.2 (by omega)) m3 hP2 (fun r S3 hr f3 hrr => ?_)
          have := hp r S3 _ hr (FT_trans w1 f3)
          rcases hrr with rfl | rfl
          · exact ⟨nar0, f2 this⟩
          · exact ⟨nar1, t2 this⟩
        · rw [if_neg (fun z => q ⟨z, Nat.zero_le _, by
            obtain ⟨m1, m2, m3, m4, m5, m6, m7, m8⟩ := nx_ok (b := b) n3
            exact m7 z⟩)] at hp
          exact f2 (hp 0 S1 P ⟨rfl, hC1.2.1⟩ w1)
    · have e := (E 109 (by decide)).mp c; exact no (by omega) (by omega) (by omega) (by omega)
    · -- persons
      have e := (E 110 (by decide)).mp c
      rw [if_pos e] at hp
      rw [show (0 : Int32) = nI 0 from rfl, nI_eq (a := k) (by omega) (by decide)]
      refine ⟨fun q0 => ?_, fun q0 => ?_⟩
      · rw [if_neg (by simpa using q0)] at hp
        exact hp 0 S P ⟨rfl, hC.2.1⟩ ⟨rfl, rfl⟩
      · rw [if_pos (by simpa using q0)] at hp
        unfold itN at hp
        unfold wp_X4_readPersons
        refine c_num hN hb ht h2 n3 (lo := 1) (by decide) (h := 7) (fun v hv => by rw [show (6 : Int32) = nI 6 from rfl, nI_ltI (by decide) (by omega)]; omega) (fun S1 hC1 w1 q1 q2 q3 v1 => t1 ?_) (fun S1 hC1 w1 q => f1 ?_)
        · rw [if_pos ⟨q1, q2, by omega⟩] at hp
          obtain ⟨m1, m2, m3, m4, m5, m6, m7, m8⟩ := nx_ok (b := b) n3
          have hP2 : PR (plN π (nx N b τ.2.2.2).2.1) (pf P 3 (S1.1 5)) := by
            obtain ⟨g1, g2, g3, g4, g5⟩ := hP
            exact ⟨v1, g2, g3, g4, g5⟩
          refine c_end hN hb (FT_tx w1 ht) (hC1.2.2.2 (by omega)) m3 hP2 (fun r S3 hr f3 hrr => ?_)
          have := hp r S3 _ hr (FT_trans w1 f3)
          rcases hrr with rfl | rfl
          · exact ⟨nar0, f2 this⟩
          · exact ⟨nar1, t2 this⟩
        · rw [if_neg (fun z => q ⟨z.1, z.2.1, by omega⟩)] at hp
          exact f2 (hp 0 S1 P ⟨rfl, hC1.2.1⟩ w1)
    · rw [h5, nI_toInt (by omega)] at c
      exact no (by omega) (by omega) (by omega) (by omega)
  · rw [if_neg c1] at hp
    exact hp 0 S P ⟨rfl, hC.2.1⟩ ⟨rfl, rfl⟩
end C
