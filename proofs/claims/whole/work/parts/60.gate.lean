/-! ===== pure: the text is read, by the class ===== -/
def tl (N : Nat) (b : Nat → Nat) : Nat → PL → Nat → Nat → Rs
  | 0, _, _, _ => .inl 0
  | m + 1, π, k, a => if (nx N b a).1 = 0 then .inr (π, k) else
    match itm N b π (decide (k = 0)) (nx N b a) with
    | .inl p => .inl p
    | .inr e => tl N b m e.1 (k + 1) e.2
section T
variable {N : Nat} {b : Nat → Nat} {m k a : Nat} {π : PL}
theorem tl_end (h : (nx N b a).1 = 0) : tl N b (m + 1) π k a = .inr (π, k) := by rw [tl, if_pos h]
theorem tl_f (h : ¬ (nx N b a).1 = 0) {p : Nat} (e : itm N b π (decide (k = 0)) (nx N b a) = .inl p) : tl N b (m + 1) π k a = .inl p := by rw [tl, if_neg h, e]
theorem tl_s (h : ¬ (nx N b a).1 = 0) {q : PL × Nat} (e : itm N b π (decide (k = 0)) (nx N b a) = .inr q) : tl N b (m + 1) π k a = tl N b m q.1 (k + 1) q.2 := by rw [tl, if_neg h, e]
theorem v_pl0 : VP pl0 := ⟨by decide, by decide, fun _ => by show 0 < 1000; decide, fun p l e => absurd (show false = true from e) (by decide), fun _ => by show 0 < 64; decide⟩
theorem tl_ok {N : Nat} {b : Nat → Nat} : ∀ (m : Nat) (π : PL) (k a : Nat), N - a < m → k ≤ a → a ≤ N → VP π → (k = 0 → ∀ p l, π.2.2.2.1 p l = false) → (∀ e, tl N b m π k a = .inr e → VP e.1 ∧ e.2 ≤ N) ∧ ∀ p, tl N b m π k a = .inl p → p ≤ N
  | 0, _, _, _, h, _, _, _, _ => absurd h (Nat.not_lt_zero _)
  | m + 1, π, k, a, hm, hk, ha, hv, h0 => by
    obtain ⟨n1, n2, n3, n4, n5, n6, n7, n8⟩ := nx_ok (b := b) ha
    by_cases h : (nx N b a).1 = 0
    · rw [tl_end h]
      exact ⟨fun e q => by cases q; exact ⟨hv, by show k ≤ N; omega⟩, fun p q => by cases q⟩
    · have ok := itm_ok (b := b) (f := decide (k = 0)) ha hv (fun z => h0 (of_decide_eq_true z))
      cases he : itm N b π (decide (k = 0)) (nx N b a) with
      | inl p =>
        rw [tl_f h he]
        exact ⟨fun e q => (by cases q), fun p' q => by cases q; exact ok.2 p he⟩
      | inr e =>
        rw [tl_s h he]
        obtain ⟨x1, x2, x3⟩ := ok.1 e he
        exact tl_ok m e.1 (k + 1) e.2 (by omega) (by omega) x3 x1 (fun z => by omega)
end T
def TR (res : Rs) (r : Int32) (P : Ob) : Prop :=
  match res with
  | .inl p => r = -10 - nI p
  | .inr e => r = nI e.2 ∧ PR e.1 P
section C
variable {N : Nat} {b : Nat → Nat}
theorem c_tellL (hN : N ≤ 150) (hb : ∀ i, b i < 256) {post : Int32 → Ob → Ob → Prop} : ∀ (m : Nat) (π : PL) (k a : Nat) (S P : Ob), N - a < m → k ≤ a → a ≤ N → TX (N, b) (S.1 1) (S.2 0) → CT (nx N b a) S → VP π → PR π P → (k = 0 → ∀ p l, π.2.2.2.1 p l = false) → (∀ r S' P', TR (tl N b m π k a) r P' → FT S S' → post r S' P') → wp_X4_tellAll_L15 post m (nI k) S P
  | 0, _, _, _, _, _, h, _, _, _, _, _, _, _, _ => absurd h (Nat.not_lt_zero _)
  | m + 1, π, k, a, S, P, hm, hk, ha, ht, hC, hv, hP, h0, hp => by
    obtain ⟨n1, n2, n3, n4, n5, n6, n7, n8⟩ := nx_ok (b := b) ha
    have z : S.1 3 = 0 ↔ (nx N b a).1 = 0 := by rw [hC.1, show (0 : Int32) = nI 0 from rfl, nI_eq (by omega) (by decide)]
    rw [wp_X4_tellAll_L15]
    refine ⟨fun c => ?_, fun c => ?_⟩
    · rw [tl_end (z.mp c)] at hp
      exact hp _ S P ⟨rfl, hP⟩ ⟨rfl, rfl⟩
    · have h : ¬ (nx N b a).1 = 0 := fun q => c (z.mpr q)
      have hlt := n5 h
      have ok := itm_ok (b := b) (f := decide (k = 0)) ha hv (fun z => h0 (of_decide_eq_true z))
      refine ⟨fun c2 => absurd c2 (nI_ge (b := 150) (by omega) (by decide)), fun _ => c_item hN hb ht ha hC hv hP (k := k) (by omega) (fun r S' P' hr hf => ?_)⟩
      cases he : itm N b π (decide (k = 0)) (nx N b a) with
      | inl p =>
        rw [he] at hr
        rw [tl_f h he] at hp
        obtain ⟨e1, e2⟩ := hr
        subst e1
        refine f1 ?_
        rw [e2]
        exact hp _ S' P' rfl hf
      | inr e =>
        rw [he] at hr
        rw [tl_s h he] at hp
        obtain ⟨e1, e2, e3⟩ := hr
        subst e1
        obtain ⟨x1, x2, x3⟩ := ok.1 e he
        refine t1 (c_advance hN hb (FT_tx hf ht) e2 x3 (fun S2 hC2 g1 g2 => ?_))
        rw [nI_1]
        exact c_tellL hN hb m e.1 (k + 1) e.2 S2 P' (by omega) (by omega) x3 (FT_tx ⟨g1, g2⟩ (FT_tx hf ht)) hC2 x1 e3 (fun z => by omega) (fun r S3 P3 h1 h2 => hp r S3 P3 h1 (FT_trans (FT_trans hf ⟨g1, g2⟩) h2))
theorem c_reset {P : Ob} {post : Ob → Prop} (hp : ∀ P', PR pl0 P' → post P') : wp_X1_reset P post := by
  unfold wp_X1_reset
  intro S1 e1
  refine hp _ ?_
  subst e1
  refine ⟨rfl, rfl, fun l hl => ?_, fun l hl => ?_, fun p h6 => ?_⟩
  · show afill 8 _ 0 l = nI 0
    unfold afill
    rw [if_pos hl]
    rfl
  · show afill 8 _ 0 l = nI (mk 6 fun _ => false)
    unfold afill
    rw [if_pos hl]
    rfl
  · show afill 6 _ 0 p = nI 0
    unfold afill
    rw [if_pos h6]
    rfl
theorem c_tellAll (hN : N ≤ 150) (hb : ∀ i, b i < 256) {S P : Ob} (ht : TX (N, b) (S.1 1) (S.2 0)) {post : Int32 → Ob → Ob → Prop} (hp : ∀ r S' P', TR (tl N b (N + 1) pl0 0 0) r P' → FT S S' → post r S' P') : wp_X4_tellAll S P post := by
  unfold wp_X4_tellAll
  refine c_reset (fun P1 hP1 => ?_)
  refine c_advance hN hb (S := pf S 2 0) ht (a := 0) rfl (Nat.zero_le _) (fun S2 hC g1 g2 => ⟨N + 1, ?_⟩)
  exact c_tellL hN hb (N + 1) pl0 0 0 S2 P1 (by omega) (Nat.le_refl _) (Nat.zero_le _) (FT_tx (A := S) ⟨g1, g2⟩ ht) hC v_pl0 hP1 (fun _ _ _ => rfl) (fun r S' P' h1 h2 => hp r S' P' h1 (FT_trans (A := S) ⟨g1, g2⟩ h2))
end C
/-- as it is told -/
def bgS (π : PL) : SC := (π.2.2.1, fun _ => 0, π.2.2.2.1, List.range π.2.1, none)
theorem v_bg {π : PL} (hv : VP π) : Vs π.1 π.2.1 (bgS π) := ⟨List.nodup_range, fun l h => List.mem_range.mp h, hv.2.2.2.1, hv.2.2.1, fun _ => by show 0 < 1000; decide, fun o h => by cases h⟩
theorem c_begin {π : PL} {S P : Ob} (hv : VP π) (hP : PR π P) {post : Ob → Ob → Prop} (hp : ∀ S', Cs (bgS π) S' → post S' P) : wp_X3_begin S P post := by
  obtain ⟨p1, p2, p3, p4, p5⟩ := hP
  have hv2 := hv.2.1
  have key : ∀ k i, i + k = 8 → ∀ S1 : Ob, (∀ l, l < i → S1.2 0 l = nI (π.2.2.1 l)) → (∀ l, l < i → S1.2 1 l = nI 0) → (∀ l, l < i → S1.2 2 l = nI (mk 6 fun p => π.2.2.2.1 p l)) → (∀ l, l < i → S1.2 3 l = if l < π.2.1 then nI (l + 1) else -9) → wp_X3_begin_L2 post (k + 1) (nI i) S1 P := by
    intro k
    induction k with
    | zero =>
      intro i hi S1 a0 a1 a2 a3
      have : i = 8 := by omega
      subst this
      rw [wp_X3_begin_L2, p2]
      refine ⟨fun _ => ⟨fun c => hp _ ?_, fun c => ?_⟩, fun c => absurd (by decide) c⟩
      · have hL : π.2.1 = 0 := by
          have := (nI_leI (b := 0) (by omega) (by decide)).mp c
          omega
        refine ⟨a0, a1, a2, ⟨fun k hk => ?_, fun l hl _ => ?_⟩, rfl⟩
        · have hk : k < (List.range π.2.1).length := hk
          rw [List.length_range] at hk
          omega
        · show S1.2 3 l = -9
          rw [a3 l hl, if_neg (by omega)]
      · have hL : 0 < π.2.1 := by
          by_cases q : π.2.1 = 0
          · exact absurd (by rw [q]; decide) c
          · omega
        rw [show (1 : Int32) = nI 1 from rfl, pk_sub (by omega), nI_clamp (by omega)]
        refine ⟨vp_in_nI (by omega) (by decide), fun S3 e3 => hp _ ?_⟩
        subst e3
        refine ⟨a0, a1, a2, ⟨fun k hk => ?_, fun l hl hm => ?_⟩, rfl⟩
        · have hk : k < (List.range π.2.1).length := hk
          rw [List.length_range] at hk
          show upd (S1.2 3) (π.2.1 - 1) 0 ((List.range π.2.1).getD k 0) = nI ((List.range π.2.1).getD ((k + 1) % (List.range π.2.1).length) 0)
          rw [List.length_range, rg_gd hk, rg_gd (Nat.mod_lt _ hL), upd_at]
          by_cases q : k = π.2.1 - 1
          · rw [if_pos q, show k + 1 = π.2.1 by omega, Nat.mod_self]
            rfl
          · rw [if_neg q, Nat.mod_eq_of_lt (by omega), a3 k (by omega), if_pos hk]
        · have hm : ¬ l < π.2.1 := fun q => hm (List.mem_range.mpr q)
          show upd (S1.2 3) (π.2.1 - 1) 0 l = -9
          rw [upd_at, if_neg (by omega), a3 l hl, if_neg hm]
    | succ k ih =>
      intro i hi S1 a0 a1 a2 a3
      rw [wp_X3_begin_L2, nI_clamp (by omega), nI_1, p2, p3 i (by omega), p4 i (by omega)]
      have hin : vp_in (nI i) 8 := vp_in_nI (by omega) (by decide)
      refine ⟨fun c => absurd c (nI_ge (b := 8) (by omega) (by decide)), fun _ => ⟨hin, hin, fun S4 e4 => ⟨hin, hin, hin, fun S5 e5 => ?_⟩⟩⟩
      subst e5 e4
      have step : ∀ v, v = (if i < π.2.1 then nI (i + 1) else -9) → wp_X3_begin_L2 post (k + 1) (nI (i + 1)) (pa (pa (pa (pa S1 0 i (nI (π.2.2.1 i))) 1 i 0) 2 i (nI (mk 6 fun p => π.2.2.2.1 p i))) 3 i v) P := fun v hv => by
        refine ih (i + 1) (by omega) _ (fun l hl => ?_) (fun l hl => ?_) (fun l hl => ?_) (fun l hl => ?_)
        · show upd (S1.2 0) i _ l = _
          rw [upd_at]
          by_cases q : l = i
          · rw [if_pos q, q]
          · rw [if_neg q]; exact a0 l (by omega)
        · show upd (S1.2 1) i 0 l = _
          rw [upd_at]
          by_cases q : l = i
          · rw [if_pos q]; rfl
          · rw [if_neg q]; exact a1 l (by omega)
        · show upd (S1.2 2) i _ l = _
          rw [upd_at]
          by_cases q : l = i
          · rw [if_pos q, q]
          · rw [if_neg q]; exact a2 l (by omega)
        · show upd (S1.2 3) i v l = _
          rw [upd_at]
          by_cases q : l = i
          · rw [if_pos q, q, hv]
          · rw [if_neg q]; exact a3 l (by omega)
      rw [nI_leI (by omega) (by omega)]
      exact ⟨fun c => ⟨hin, step _ (by rw [if_neg (by omega)])⟩, fun c => ⟨hin, step _ (by rw [if_pos (by omega)])⟩⟩
  exact ⟨9, key 8 0 rfl S (fun l hl => absurd hl (by omega)) (fun l hl => absurd hl (by omega)) (fun l hl => absurd hl (by omega)) (fun l hl => absurd hl (by omega))⟩
/-! the gate as told -/
def gtS (σ : St) (π : PL) : St := (π.1, π.2.1, π.2.2.2.2, (bgS π, 0, (wO σ).2.2), (fun _ => none), (0, (txO σ).2), [], trO σ)
def gateA (σ : St) : Int32 × St :=
  match tl (txO σ).1 (txO σ).2 ((txO σ).1 + 1) pl0 0 0 with
  | .inl p => (-10 - nI p, σ)
  | .inr e => (nI e.2, gtS σ e.1)
theorem v_gt {σ : St} (hV : VS σ) {π : PL} (hv : VP π) : VS (gtS σ π) := ⟨hv.1, hv.2.1, hv.2.2.2.2, ⟨v_bg hv, Nat.zero_le _, fun i hi => absurd hi (Nat.not_lt_zero _)⟩, fun b w h => (by cases h), ⟨Nat.zero_le _, hV.2.2.2.2.2.1.2⟩, Nat.zero_le _, fun e h => by cases h⟩
theorem tl_ok0 (N : Nat) (b : Nat → Nat) : (∀ e, tl N b (N + 1) pl0 0 0 = .inr e → VP e.1 ∧ e.2 ≤ N) ∧ ∀ p, tl N b (N + 1) pl0 0 0 = .inl p → p ≤ N := tl_ok (N + 1) pl0 0 0 (by omega) (Nat.le_refl _) (Nat.zero_le _) v_pl0 (fun _ _ _ => rfl)
theorem v_gate {σ : St} (hV : VS σ) : VS (gateA σ).2 := by
  unfold gateA
  cases he : tl (txO σ).1 (txO σ).2 ((txO σ).1 + 1) pl0 0 0 with
  | inl p => exact hV
  | inr e => exact v_gt hV ((tl_ok0 _ _).1 e he).1
theorem neg10 : ∀ p, p < 151 → ¬ (0 : Int32) ≤ -10 - nI p := by decide +kernel
theorem c_gate {σ : St} {Z : GC} (hV : VS σ) (h : RC σ Z) {post : Int32 → GC → Prop} (hp : ∀ Z', RC (gateA σ).2 Z' → post (gateA σ).1 Z') : wp_X5_gate Z post := by
  obtain ⟨a1, a2, a3, a4, a5, a6, a7, a8, a9⟩ := h
  have hN := hV.2.2.2.2.2.1.1
  have hb := hV.2.2.2.2.2.1.2
  have ok := tl_ok0 (txO σ).1 (txO σ).2
  unfold wp_X5_gate
  refine c_tellAll hN hb a7 (fun r S2 P2 hr hf Z4 e4 => ?_)
  cases he : tl (txO σ).1 (txO σ).2 ((txO σ).1 + 1) pl0 0 0 with
  | inl p =>
    have eA : gateA σ = (-10 - nI p, σ) := by unfold gateA; rw [he]
    rw [he] at hr
    rw [eA] at hp
    have hr : r = -10 - nI p := hr
    have hpN := ok.2 p he
    subst hr
    subst e4
    refine ⟨fun c => absurd c (neg10 p (by omega)), fun _ => hp _ ?_⟩
    exact ⟨a1, a2, a3, a4, a5, a6, FT_tx hf a7, a8, a9⟩
  | inr e =>
    have eA : gateA σ = (nI e.2, gtS σ e.1) := by unfold gateA; rw [he]
    rw [he] at hr
    rw [eA] at hp
    obtain ⟨hr, hP⟩ := hr
    obtain ⟨hv, hk⟩ := ok.1 e he
    subst hr
    subst e4
    refine ⟨fun _ Z6 e6 => ?_, fun c => absurd (nI_pos' (by omega)) c⟩
    unfold wp_X4_empty
    intro Z9 e9
    subst e6
    unfold wp_X0_begin
    have hP9 : PR e.1 (Z9.2.1 4) := by rw [e9]; exact hP
    refine c_begin hv hP9 (fun S' hS Z14 e14 => ?_)
    refine c_forgetAll (fun S15 hR Z16 e16 => ⟨3, ?_⟩)
    show wp_X5_gate_L64 post (nI e.2) 3 (nI 0) Z16
    rw [wp_X5_gate_L64, nI_clamp (by decide), nI_1]
    refine ⟨fun c => absurd c (by decide), fun _ => ⟨vp_in_nI (by decide) (by decide), fun Z18 e18 => ?_⟩⟩
    rw [wp_X5_gate_L64, nI_clamp (by decide), nI_1]
    refine ⟨fun c => absurd c (by decide), fun _ => ⟨vp_in_nI (by decide) (by decide), fun Z19 e19 => ?_⟩⟩
    rw [wp_X5_gate_L64]
    refine ⟨fun _ => hp _ ?_, fun c => absurd (by decide) c⟩
    subst e19 e18 e16 e14 e9
    exact ⟨hP.1, hP.2.1, hP.2.2.2.2, ⟨hS, rfl, fun i hi => absurd hi (Nat.not_lt_zero _)⟩, ⟨rfl, fun w h => by cases h⟩, ⟨rfl, fun w h => by cases h⟩, ⟨rfl, fun i hi => absurd hi (Nat.not_lt_zero _)⟩, hR, a9⟩
