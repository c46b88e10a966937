/-! ===== pure: wheels; the rest of the scene ===== -/
def sg (f : Nat → Nat) : Nat → Nat
  | 0 => 0
  | n + 1 => sg f n + f n
/-- the figures of a number -/
def fg (x : Nat) : Nat → Nat
  | 0 => x % 10
  | 1 => x / 10 % 10
  | _ => x / 100
theorem fg_lt {x : Nat} (hx : x < 1000) : ∀ k, fg x k < 10
  | 0 => by show x % 10 < 10; omega
  | 1 => by show x / 10 % 10 < 10; omega
  | _ + 2 => by show x / 100 < 10; omega
def tn (a b : Nat) : Nat := if a ≤ b then (if b - a ≤ 5 then b - a else 10 - (b - a)) else (if a - b ≤ 5 then a - b else 10 - (a - b))
def st (a b : Nat) : Nat := sg (fun k => tn (fg a k) (fg b k)) 3
def rw3 (a b : Nat) : Nat := sg (fun k => if fg a k = fg b k then 1 else 0) 3
theorem d1 {a : Nat} (h : a < 1000) : nI a - nI a / 10 * 10 = nI (fg a 0) := pk_rem (d := 10) (by omega) (by decide) (by decide)
theorem d3 {a : Nat} (h : a < 1000) : nI a / 100 = nI (fg a 2) := pk_div (d := 100) (by omega) (by decide) (by decide)
theorem d2 {a : Nat} (h : a < 1000) : nI a / 10 - nI a / 10 / 10 * 10 = nI (fg a 1) := by
  have e : nI a / 10 = nI (a / 10) := pk_div (d := 10) (by omega) (by decide) (by decide)
  rw [e]
  exact pk_rem (d := 10) (by omega) (by decide) (by decide)
theorem tn_tab : ∀ a, a < 10 → ∀ b, b < 10 → (if (10 - (if 0 ≤ (nI a - nI b) then (nI a - nI b) else 0 - (nI a - nI b))) < (if 0 ≤ (nI a - nI b) then (nI a - nI b) else 0 - (nI a - nI b)) then (10 - (if 0 ≤ (nI a - nI b) then (nI a - nI b) else 0 - (nI a - nI b))) else (if 0 ≤ (nI a - nI b) then (nI a - nI b) else 0 - (nI a - nI b))) = nI (tn a b) := by decide +kernel
theorem tnA : ∀ a, a < 10 → ∀ b, b < 10 → 0 ≤ (nI a - nI b) → (nI a - nI b) ≤ 5 → (nI a - nI b) = nI (tn a b) := by decide +kernel
theorem tnB : ∀ a, a < 10 → ∀ b, b < 10 → 0 ≤ (nI a - nI b) → ¬ (nI a - nI b) ≤ 5 → 10 - (nI a - nI b) = nI (tn a b) := by decide +kernel
theorem tnC : ∀ a, a < 10 → ∀ b, b < 10 → ¬ 0 ≤ (nI a - nI b) → -(nI a - nI b) ≤ 5 → -(nI a - nI b) = nI (tn a b) := by decide +kernel
theorem tnD : ∀ a, a < 10 → ∀ b, b < 10 → ¬ 0 ≤ (nI a - nI b) → ¬ -(nI a - nI b) ≤ 5 → 10 - -(nI a - nI b) = nI (tn a b) := by decide +kernel
theorem tn_tab2 : ∀ a, a < 10 → ∀ b, b < 10 → (0 ≤ (nI a - nI b) → ((nI a - nI b) ≤ 5 → (nI a - nI b) = nI (tn a b)) ∧ (¬ (nI a - nI b) ≤ 5 → 10 - (nI a - nI b) = nI (tn a b))) ∧ (¬ 0 ≤ (nI a - nI b) → (-(nI a - nI b) ≤ 5 → -(nI a - nI b) = nI (tn a b)) ∧ (¬ -(nI a - nI b) ≤ 5 → 10 - -(nI a - nI b) = nI (tn a b))) := fun a ha b hb => ⟨fun c => ⟨tnA a ha b hb c, tnB a ha b hb c⟩, fun c => ⟨tnC a ha b hb c, tnD a ha b hb c⟩⟩
theorem c_turns {a b : Nat} (ha : a < 10) (hb : b < 10) {post : Int32 → Prop} (hp : post (nI (tn a b))) : wp_X5_turns (nI a) (nI b) post := by
  intro y e
  subst e
  exact (congrArg post (tn_tab a ha b hb)).mpr hp
theorem c_stepsBetween {a b : Nat} (ha : a < 1000) (hb : b < 1000) {post : Int32 → Prop} (hp : post (nI (st a b))) : wp_X5_stepsBetween (nI a) (nI b) post := by
  unfold wp_X5_stepsBetween
  rw [d1 ha, d1 hb, d2 ha, d2 hb, d3 ha, d3 hb]
  refine c_turns (fg_lt ha 0) (fg_lt hb 0) (c_turns (fg_lt ha 1) (fg_lt hb 1) (c_turns (fg_lt ha 2) (fg_lt hb 2) ?_))
  rw [nI_add, nI_add]
  unfold st at hp
  simp only [sg, Nat.zero_add] at hp
  exact hp
theorem c_right {a b : Nat} (ha : a < 1000) (hb : b < 1000) {post : Int32 → Prop} (hp : post (nI (rw3 a b))) : wp_X5_rightWheels (nI a) (nI b) post := by
  have l : ∀ x k, x < 1000 → fg x k < 2 ^ 31 := fun x k h => by have := fg_lt h k; omega
  unfold wp_X5_rightWheels wp_X5_rightWheels_J16
  rw [d1 ha, d1 hb, d2 ha, d2 hb, d3 ha, d3 hb, nI_eq (l a 0 ha) (l b 0 hb), nI_eq (l a 1 ha) (l b 1 hb), nI_eq (l a 2 ha) (l b 2 hb)]
  unfold rw3 at hp
  simp only [sg] at hp
  refine ⟨fun h1 => ⟨fun h2 => ⟨fun h3 => ?_, fun h3 => ?_⟩, fun h2 => ⟨fun h3 => ?_, fun h3 => ?_⟩⟩, fun h1 => ⟨fun h2 => ⟨fun h3 => ?_, fun h3 => ?_⟩, fun h2 => ⟨fun h3 => ?_, fun h3 => ?_⟩⟩⟩
  all_goals
    simp only [h1, h2, h3, if_true, if_false] at hp
    exact hp
theorem m_fig {a k : Nat} (ha : a < 1000) (hk : k < 3) {post : Int32 → Prop} (hp : post (nI (fg a k))) : wp_X6_figure (nI a) (nI k) post := by
  unfold wp_X6_figure
  rcases (show k = 0 ∨ k = 1 ∨ k = 2 by omega) with rfl | rfl | rfl
  · exact ⟨fun c => absurd rfl c, fun _ => by rw [d1 ha]; exact hp⟩
  · exact ⟨fun _ => ⟨fun c => absurd rfl c, fun _ => by rw [d2 ha]; exact hp⟩, fun c => absurd c (by decide)⟩
  · exact ⟨fun _ => ⟨fun _ => by rw [d3 ha]; exact hp, fun c => absurd c (by decide)⟩, fun c => absurd c (by decide)⟩
theorem m_steps {a b : Nat} (ha : a < 1000) (hb : b < 1000) {post : Int32 → Prop} (hp : post (nI (st a b))) : wp_X6_stepsOf (nI a) (nI b) post := by
  have key : ∀ k i, i + k = 3 → wp_X6_stepsOf_L4 post (nI a) (nI b) (k + 1) (nI (sg (fun k => tn (fg a k) (fg b k)) i)) (nI i) := by
    intro k
    induction k with
    | zero =>
      intro i hi
      have : i = 3 := by omega
      subst this
      rw [wp_X6_stepsOf_L4]
      exact ⟨fun _ => hp, fun c => absurd (by decide) c⟩
    | succ k ih =>
      intro i hi
      rw [wp_X6_stepsOf_L4]
      refine ⟨fun c => absurd c (nI_ge (b := 3) (by omega) (by decide)), fun _ => m_fig ha (by omega) (m_fig hb (by omega) ?_)⟩
      have T := tn_tab2 _ (fg_lt ha i) _ (fg_lt hb i)
      have ih1 := ih (i + 1) (by omega)
      unfold wp_X6_stepsOf_J35
      refine ⟨fun c => ⟨fun c2 => ?_, fun c2 => ?_⟩, fun c => ⟨fun c2 => ?_, fun c2 => ?_⟩⟩
      · rw [(T.1 c).1 c2, nI_add, nI_1]; exact ih1
      · rw [(T.1 c).2 c2, nI_add, nI_1]; exact ih1
      · rw [(T.2 c).1 c2, nI_add, nI_1]; exact ih1
      · rw [(T.2 c).2 c2, nI_add, nI_1]; exact ih1
  exact ⟨4, key 3 0 rfl⟩
theorem m_right {a b : Nat} (ha : a < 1000) (hb : b < 1000) {post : Int32 → Prop} (hp : post (nI (rw3 a b))) : wp_X6_rightOf (nI a) (nI b) post := by
  have l : ∀ x k, x < 1000 → fg x k < 2 ^ 31 := fun x k h => by have := fg_lt h k; omega
  have key : ∀ k i, i + k = 3 → wp_X6_rightOf_L4 post (nI a) (nI b) (k + 1) (nI (sg (fun k => if fg a k = fg b k then 1 else 0) i)) (nI i) := by
    intro k
    induction k with
    | zero =>
      intro i hi
      have : i = 3 := by omega
      subst this
      rw [wp_X6_rightOf_L4]
      exact ⟨fun _ => hp, fun c => absurd (by decide) c⟩
    | succ k ih =>
      intro i hi
      rw [wp_X6_rightOf_L4]
      refine ⟨fun c => absurd c (nI_ge (b := 3) (by omega) (by decide)), fun _ => m_fig ha (by omega) (m_fig hb (by omega) ?_)⟩
      have ih1 := ih (i + 1) (by omega)
      simp only [sg] at ih1
      rw [nI_eq (l a i ha) (l b i hb)]
      refine ⟨fun c => ?_, fun c => ?_⟩
      · rw [if_neg c] at ih1
        rw [show (0 : Int32) = nI 0 from rfl, nI_add, nI_1]; exact ih1
      · rw [if_pos c] at ih1
        rw [nI_1, nI_1]; exact ih1
  exact ⟨4, key 3 0 rfl⟩
theorem rw3_le (a b : Nat) : rw3 a b ≤ 3 := by
  unfold rw3
  simp only [sg]
  split <;> split <;> split <;> omega
theorem bnot6 (f : Nat → Bool) (b : Nat) : nI (mk 6 f) &&& (nI b ^^^ (-1)) = nI (mk 6 fun i => f i && !b.testBit i) := by
  rw [bnot (by have := mk_6 f; omega)]
  congr 1
  apply mk_eq
  intro i
  rw [mk_tb, mk_tb]
  by_cases h : i < 6
  · have : i < 8 := by omega
    simp [h, this]
  · simp [h]
theorem bnot8 (f : Nat → Bool) (b : Nat) : nI (mk 8 f) &&& (nI b ^^^ (-1)) = nI (mk 8 fun i => f i && !b.testBit i) := by
  rw [bnot (mk_8 f)]
  congr 1
  apply mk_cg
  intro i hi
  rw [mk_tb]
  simp [hi]
/-- without those that come beside -/
def rsB (s : SC) (l : Nat) : Nat → Bool := fun x => inR s x && !decide (x ∈ bwS s l)
/-- who does not get in any more -/
def lfB (s : SC) (l : Nat) : Nat → Bool := fun p => giB s (inR s) p && !giB s (rsB s l) p
theorem csB_t {s : SC} {l : Nat} (h : csB s l = true) : ∃ o, opO s = some o ∧ l ∈ rgO s ∧ (l = o → (rgO s).length = 1) := by
  unfold csB at h
  simp only [Bool.and_eq_true, Bool.or_eq_true, decide_eq_true_eq, Bool.not_eq_true', decide_eq_false_iff_not] at h
  obtain ⟨⟨h1, h2⟩, h3⟩ := h
  obtain ⟨o, ho⟩ := Option.isSome_iff_exists.mp h1
  refine ⟨o, ho, h2, fun e => ?_⟩
  rcases h3 with q | q
  · exact absurd (by rw [ho, e]) q
  · exact q
def upN (f : Nat → Nat) (k v : Nat) : Nat → Nat := fun j => if j = k then v else f j
def shutS (s : SC) (l x : Nat) : SC := (cdO s, upN (shO s) ((opO s).getD 0) x, knO s, (rgO s).filter (fun y => !decide (y ∈ bwS s l)), none)
theorem bw_cases {r : List Nat} {o l : Nat} (ho : o ∈ r) (hl : l ∈ r) (h1 : l = o → r.length = 1) : ∃ w, rt r o = bwl r o l ++ w ∧ ((∃ v, w = l :: v) ∨ (bwl r o l = [] ∧ w = [] ∧ l = o)) := by
  obtain ⟨v, e, -⟩ := bw_split ho hl
  rcases List.eq_nil_or_concat v with rfl | ⟨v', x, rfl⟩
  · obtain ⟨e1, e2⟩ := List.append_inj' e rfl
    have e2 : o = l := by simpa using e2
    have h2 := h1 e2.symm
    have h3 := rt_len ho
    have h4 : rt r o = [] := List.length_eq_zero_iff.mp (by omega)
    rw [h4] at e1
    exact ⟨[], by rw [h4, ← e1]; rfl, Or.inr ⟨e1.symm, rfl, e2.symm⟩⟩
  · rw [show bwl r o l ++ l :: (v'.concat x) = (bwl r o l ++ l :: v') ++ [x] by simp] at e
    obtain ⟨e1, e2⟩ := List.append_inj' e rfl
    exact ⟨l :: v', e1, Or.inl ⟨v', rfl⟩⟩
/-- what stays of the ring -/
theorem cut_ring {r : List Nat} {o l : Nat} (hn : r.Nodup) (ho : o ∈ r) {w : List Nat} (e : rt r o = bwl r o l ++ w) : ∃ a b, r.filter (fun y => !decide (y ∈ bwl r o l)) = a ++ o :: b ∧ b ++ a = w ∧ o ∉ bwl r o l := by
  have hnd := rt_nd ho hn
  rw [e] at hnd
  have hou : o ∉ bwl r o l := fun q => (List.nodup_cons.mp hnd).1 (List.mem_append_left _ q)
  refine ⟨(r.take (r.idxOf o)).filter (fun y => !decide (y ∈ bwl r o l)), (r.drop (r.idxOf o + 1)).filter (fun y => !decide (y ∈ bwl r o l)), ?_, ?_, hou⟩
  · generalize bwl r o l = u at hou ⊢
    conv => lhs; rw [rt_split ho]
    rw [List.filter_append, List.filter_cons_of_pos (by simp [hou])]
  · rw [← List.filter_append]
    show (rt r o).filter _ = w
    rw [e, List.filter_append]
    have h1 : (bwl r o l).filter (fun y => !decide (y ∈ bwl r o l)) = [] := by
      rw [List.filter_eq_nil_iff]
      intro x hx
      simp [hx]
    have h2 : w.filter (fun y => !decide (y ∈ bwl r o l)) = w := by
      rw [List.filter_eq_self]
      intro x hx
      have := (List.nodup_append.mp (List.nodup_cons.mp hnd).2).2.2
      have hx2 : x ∉ bwl r o l := fun q => this x q x hx rfl
      simp [hx2]
    rw [h1, h2]; rfl
def hangS (s : SC) (l : Nat) : SC := (cdO s, shO s, knO s, (rgO s).take ((rgO s).idxOf ((opO s).getD 0) + 1) ++ l :: (rgO s).drop ((rgO s).idxOf ((opO s).getD 0) + 1), opO s)
theorem take_o {r : List Nat} {o : Nat} (ho : o ∈ r) : r.take (r.idxOf o + 1) = r.take (r.idxOf o) ++ [o] := by
  have hi : r.idxOf o < r.length := List.idxOf_lt_length_of_mem ho
  rw [List.take_succ, List.getElem?_eq_getElem hi]
  simp
def codeS (s : SC) (p x : Nat) : SC := (upN (cdO s) ((opO s).getD 0) x, upN (shO s) ((opO s).getD 0) x, fun q l => if l = (opO s).getD 0 then decide (q = p) else knO s q l, rgO s, opO s)
/-- two scenes' objects alike -/
def eqS (A B : Ob) : Prop := (∀ k l, k < 4 → l < 8 → A.2 k l = B.2 k l) ∧ A.1 4 = B.1 4
section C
variable {n L : Nat} {s : SC} {S : Ob}
theorem Cs_eq {A B : Ob} (hV : Vs n L s) (hL : L ≤ 8) (e : eqS A B) (h : Cs s B) : Cs s A := by
  obtain ⟨h1, h2, h3, ⟨h4, h5⟩, h6⟩ := h
  refine ⟨fun l hl => (e.1 0 l (by decide) hl).trans (h1 l hl), fun l hl => (e.1 1 l (by decide) hl).trans (h2 l hl), fun l hl => (e.1 2 l (by decide) hl).trans (h3 l hl), ⟨fun k hk => (e.1 3 _ (by decide) (hV.lt8 hL (gd_mem hk))).trans (h4 k hk), fun l hl hm => (e.1 3 l (by decide) hl).trans (h5 l hl hm)⟩, e.2.trans h6⟩
theorem c_copyFrom {A B : Ob} {post : Ob → Ob → Prop} (hp : ∀ S', eqS S' B → post S' B) : wp_X3_copyFrom A B post := by
  intro S' e
  subst e
  refine hp _ ⟨fun k l hk hl => ?_, rfl⟩
  rcases (show k = 0 ∨ k = 1 ∨ k = 2 ∨ k = 3 by omega) with rfl | rfl | rfl | rfl <;> simp [pf, pw, sa, va_cpy, hl]
theorem c_stepsOf (hV : Vs n L s) (h : Cs s S) {l : Nat} (hl : l < 8) {post : Int32 → Prop} (hp : post (nI (st (shO s l) (cdO s l)))) : wp_X3_stepsOf S (nI l) post := by
  unfold wp_X3_stepsOf
  refine ⟨vp_in_nI hl (by decide), vp_in_nI hl (by decide), ?_⟩
  rw [nI_clamp (by omega), h.1 l hl, h.2.1 l hl]
  exact c_stepsBetween (hV.2.2.2.2.1 l) (hV.2.2.2.1 l) hp
theorem rs_mk (s : SC) (l : Nat) : nI (mk 8 (inR s)) &&& (nI (lm (bwS s l)) ^^^ (-1)) = nI (mk 8 (rsB s l)) := by
  rw [bnot8]
  congr 1
  apply mk_cg
  intro i hi
  rw [lm_tb]
  simp [rsB, hi]
theorem lf_mk (s : SC) (l : Nat) : nI (mk 6 (giB s (inR s))) &&& (nI (mk 6 (giB s (rsB s l))) ^^^ (-1)) = nI (mk 6 (lfB s l)) := by
  rw [bnot6]
  congr 1
  apply mk_cg
  intro i hi
  rw [mk_tb]
  simp [lfB, hi]
theorem c_leftBy (hV : Vs n L s) (hL : L ≤ 8) (h : Cs s S) {l : Nat} (hl : l < 8) {post : Int32 → Prop} (h1 : csB s l = true → post (nI (mk 6 (lfB s l)))) (h0 : csB s l = false → post (-9)) : wp_X3_leftBy S (nI l) post := by
  unfold wp_X3_leftBy
  refine c_canShutOn hV hL h hl (fun hc => ⟨fun _ => ?_, fun c => absurd c (by decide)⟩) (fun hc => ⟨fun c => absurd rfl c, fun _ => h0 hc⟩)
  obtain ⟨o, ho, hm, -⟩ := csB_t hc
  refine c_whoGetsIn hV hL h (c_ringBits hV hL h (c_between hV hL h ho hm ?_))
  rw [rs_mk]
  refine c_whoKnowsAny h (mk_8 _) ?_
  have e : mk 6 (giB s (mk 8 (rsB s l)).testBit) = mk 6 (giB s (rsB s l)) := mk_cg fun p _ => giB_cg (fun l hl => by rw [mk_tb]; simp [hl]) p
  rw [e, lf_mk]
  exact h1 hc
theorem bw_sub (hV : Vs n L s) {o l : Nat} (ho : opO s = some o) (hm : l ∈ rgO s) (h1 : l = o → (rgO s).length = 1) : (∀ x ∈ bwS s l, x ∈ rgO s) ∧ (bwS s l).Nodup := by
  have hor := hV.2.2.2.2.2 o ho
  obtain ⟨w, e, -⟩ := bw_cases hor hm h1
  have hb : bwS s l = bwl (rgO s) o l := by simp [bwS, ho]
  rw [hb]
  have hnd := rt_nd hor hV.1
  rw [e] at hnd
  refine ⟨fun x hx => (rt_mem hor).mpr (Or.inr (by rw [e]; exact List.mem_append_left _ hx)), (List.nodup_append.mp (List.nodup_cons.mp hnd).2).1⟩
theorem c_shutOn (hV : Vs n L s) (hL : L ≤ 8) (h : Cs s S) {l x : Nat} (hc : csB s l = true) {post : Int32 → Ob → Prop} (hp : ∀ S', Cs (shutS s l x) S' → post (nI (bwS s l).length) S') : wp_X3_shutOn S (nI l) (nI x) post := by
  obtain ⟨o, ho, hm, h1⟩ := csB_t hc
  have hor := hV.2.2.2.2.2 o ho
  have h8 : ∀ y ∈ rgO s, y < 8 := fun y hy => hV.lt8 hL hy
  have hb : bwS s l = bwl (rgO s) o l := by simp [bwS, ho]
  have hso : S.1 4 = nI o := by rw [h.2.2.2.2, ho]; rfl
  obtain ⟨hbs, hbn⟩ := bw_sub hV ho hm h1
  unfold wp_X3_shutOn
  refine c_between hV hL h ho hm ?_
  have key : ∀ k i, i + k = 8 → ∀ S1 : Ob, S1.1 = S.1 → (∀ j, j ≠ 3 → S1.2 j = S.2 j) → (∀ y, S1.2 3 y = if y < i ∧ y ∈ bwS s l then -9 else S.2 3 y) → wp_X3_shutOn_L9 post (nI l) (nI x) (nI (lm (bwS s l))) (k + 1) (nI i) S1 := by
    intro k
    induction k with
    | zero =>
      intro i hi S1 a1 a2 a3
      have : i = 8 := by omega
      subst this
      rw [wp_X3_shutOn_L9]
      refine ⟨fun _ => ?_, fun c => absurd (by decide) c⟩
      have e4 : S1.1 4 = nI o := by rw [a1, hso]
      have ho8 := h8 o hor
      refine ⟨by rw [e4]; exact vp_in_nI ho8 (by decide), ?_⟩
      intro S3 e3
      have e4' : S3.1 4 = nI o := by rw [e3]; exact e4
      refine ⟨by rw [e4']; exact vp_in_nI ho8 (by decide), ?_⟩
      intro S4 e5
      rw [e4', nI_clamp (by omega)] at e5
      rw [e4, nI_clamp (by omega)] at e3
      refine bc_ok (lm_8 _) ?_
      have ec : ct 8 (lm (bwS s l)).testBit = (bwS s l).length := by
        rw [← ct_list hbn (fun y hy => h8 y (hbs y hy))]
        exact ct_cg fun i hi => by rw [lm_tb]; simp [hi]
      rw [ec]
      refine hp _ ?_
      obtain ⟨g1, g2, g3, g4, g5⟩ := h
      have E0 : ∀ y, (pf S4 4 (-9)).2 0 y = S.2 0 y := fun y => by rw [e5, e3]; simp [pf, pa, sa, a2]
      have E1 : ∀ y, (pf S4 4 (-9)).2 1 y = if y = o then nI x else S.2 1 y := fun y => by rw [e5, e3]; simp [pf, pa, sa, a2, upd]
      have E2 : ∀ y, (pf S4 4 (-9)).2 2 y = S.2 2 y := fun y => by rw [e5, e3]; simp [pf, pa, sa, a2]
      have E3 : ∀ y, (pf S4 4 (-9)).2 3 y = if y = o then nI l else if y < 8 ∧ y ∈ bwS s l then -9 else S.2 3 y := fun y => by rw [e5, e3]; simp [pf, pa, sa, upd, a3]
      refine ⟨fun y hy => by rw [E0]; exact g1 y hy, fun y hy => ?_, fun y hy => by rw [E2]; exact g3 y hy, ?_, ?_⟩
      · rw [E1]
        show _ = nI (upN (shO s) ((opO s).getD 0) x y)
        rw [ho]
        by_cases q : y = o
        · simp [upN, q]
        · simp [upN, q]; exact g2 y hy
      · show BH ((rgO s).filter _) _
        obtain ⟨w, ew, hw⟩ := bw_cases hor hm h1
        obtain ⟨a, b, ef, eb, hou⟩ := cut_ring hV.1 hor ew
        rw [hb, ef]
        refine BH_of ?_
        rw [eb]
        have hB := BH_to hor g4
        have hnd := rt_nd hor hV.1
        rw [ew] at hB hnd
        refine BH_cut hnd hB hw (fun y hy => ?_) ?_ (fun y hy hy2 => ?_)
        · rw [E3, hb, if_neg (fun (q : y = o) => hou (q ▸ hy)), if_pos ⟨h8 y (hbs y (hb ▸ hy)), hy⟩]
        · rw [E3, if_pos rfl]
        · rw [E3, hb, if_neg hy2, if_neg (fun q => hy q.2)]
      · rfl
    | succ k ih =>
      intro i hi S1 a1 a2 a3
      rw [wp_X3_shutOn_L9]
      refine ⟨fun c => absurd c (nI_ge (b := 8) (by omega) (by decide)), fun _ => ?_⟩
      have hi8 : i < 8 := by omega
      refine c_hasBit (by have := lm_8 (bwS s l); omega) (by omega) (fun q => ⟨fun c => absurd c (by decide), fun _ => ⟨vp_in_nI hi8 (by decide), ?_⟩⟩) (fun q => ⟨fun _ => ?_, fun c => absurd rfl c⟩)
      · rw [nI_1, nI_clamp (by omega)]
        rw [lm_tb] at q
        simp [hi8] at q
        refine ih (i + 1) (by omega) _ a1 (fun j hj => by simp [pa, sa, hj, a2 j hj]) (fun y => ?_)
        show upd (S1.2 3) i (-9) y = _
        unfold upd
        by_cases e : y = i
        · rw [if_pos e, if_pos ⟨by omega, e ▸ q⟩]
        · rw [if_neg e, a3]
          have : (y < i + 1) ↔ (y < i) := by omega
          simp [this]
      · rw [nI_1]
        rw [lm_tb] at q
        simp [hi8] at q
        refine ih (i + 1) (by omega) S1 a1 a2 (fun y => ?_)
        rw [a3]
        by_cases e : y = i
        · subst e; simp [q]
        · have : (y < i + 1) ↔ (y < i) := by omega
          simp [this]
  exact ⟨9, key 8 0 rfl S rfl (fun _ _ => rfl) (fun y => by simp)⟩
theorem c_hangIn (hV : Vs n L s) (hL : L ≤ 8) (h : Cs s S) {o l : Nat} (ho : opO s = some o) (hl : l < 8) (hm : l ∉ rgO s) {post : Ob → Prop} (hp : ∀ S', Cs (hangS s l) S' → post S') : wp_X3_hangIn S (nI l) post := by
  have hor := hV.2.2.2.2.2 o ho
  have ho8 := hV.lt8 hL hor
  have hso : S.1 4 = nI o := by rw [h.2.2.2.2, ho]; rfl
  unfold wp_X3_hangIn
  refine ⟨by rw [hso]; exact vp_in_nI ho8 (by decide), vp_in_nI hl (by decide), ?_⟩
  intro S1 e1
  have hso1 : S1.1 4 = nI o := by rw [e1]; exact hso
  refine ⟨by rw [hso1]; exact vp_in_nI ho8 (by decide), ?_⟩
  intro S2 e2
  rw [hso1, nI_clamp (by omega)] at e2
  rw [hso, nI_clamp (by omega), nI_clamp (by omega)] at e1
  refine hp _ ?_
  obtain ⟨g1, g2, g3, g4, g5⟩ := h
  have Ek : ∀ k y, k ≠ 3 → S2.2 k y = S.2 k y := fun k y hk => by rw [e2, e1]; simp [pa, sa, hk]
  have E3 : ∀ y, S2.2 3 y = if y = o then nI l else if y = l then S.2 3 o else S.2 3 y := fun y => by rw [e2, e1]; simp [pa, sa, upd]
  have hlo : l ≠ o := fun q => hm (q ▸ hor)
  refine ⟨fun y hy => by rw [Ek 0 y (by decide)]; exact g1 y hy, fun y hy => by rw [Ek 1 y (by decide)]; exact g2 y hy, fun y hy => by rw [Ek 2 y (by decide)]; exact g3 y hy, ?_, ?_⟩
  · show BH ((rgO s).take ((rgO s).idxOf ((opO s).getD 0) + 1) ++ l :: (rgO s).drop ((rgO s).idxOf ((opO s).getD 0) + 1)) _
    rw [ho]
    show BH ((rgO s).take ((rgO s).idxOf o + 1) ++ l :: (rgO s).drop ((rgO s).idxOf o + 1)) _
    rw [take_o hor, List.append_assoc]
    show BH ((rgO s).take ((rgO s).idxOf o) ++ o :: (l :: (rgO s).drop ((rgO s).idxOf o + 1))) _
    refine BH_of ?_
    show BH (o :: l :: rt (rgO s) o) _
    refine BH_hang (rt_nd hor hV.1) (fun q => hm ((rt_mem hor).mpr (List.mem_cons.mp q))) (BH_to hor g4) ?_ ?_ (fun y h1 h2 => ?_)
    · rw [E3, if_neg hlo, if_pos rfl]
    · rw [E3, if_pos rfl]
    · rw [E3, if_neg h2, if_neg h1]
  · rw [e2, e1]; exact g5
theorem c_giveCode (hV : Vs n L s) (hL : L ≤ 8) (h : Cs s S) {o p x : Nat} (ho : opO s = some o) (hp6 : p < 6) {post : Int32 → Ob → Prop} (hp : ∀ S', Cs (codeS s p x) S' → post (nI (ct 6 fun q => knO s q o && !decide (q = p))) S') : wp_X3_giveCode S (nI p) (nI x) post := by
  have hor := hV.2.2.2.2.2 o ho
  have ho8 := hV.lt8 hL hor
  have hso : S.1 4 = nI o := by rw [h.2.2.2.2, ho]; rfl
  unfold wp_X3_giveCode
  rw [hso, nI_clamp (by omega), h.2.2.1 o ho8, sh1 p (by omega), bnot6]
  refine ⟨vp_in_nI ho8 (by decide), bc_ok (by have := mk_6 (fun i => knO s i o && !(2 ^ p).testBit i); omega) ?_⟩
  rw [ct_mk6]
  have ec : ct 6 (fun i => knO s i o && !(2 ^ p).testBit i) = ct 6 fun q => knO s q o && !decide (q = p) := ct_cg fun i hi => by
    rw [Nat.testBit_two_pow]
    by_cases e : p = i
    · simp [e]
    · have : ¬ i = p := fun q => e q.symm
      simp [e, this]
  rw [ec]
  refine ⟨vp_in_nI ho8 (by decide), ?_⟩
  intro S2 e2
  have h2 : S2.1 4 = nI o := by rw [e2]; exact hso
  rw [h2, nI_clamp (by omega)]
  refine ⟨vp_in_nI ho8 (by decide), ?_⟩
  intro S3 e3
  have h3 : S3.1 4 = nI o := by rw [e3]; exact h2
  rw [h3, nI_clamp (by omega)]
  refine ⟨vp_in_nI ho8 (by decide), ?_⟩
  intro S4 e4
  refine hp _ ?_
  obtain ⟨g1, g2, g3, g4, g5⟩ := h
  have E0 : ∀ y, S4.2 0 y = if y = o then nI x else S.2 0 y := fun y => by rw [e4, e3, e2]; simp [pa, sa, upd]
  have E1 : ∀ y, S4.2 1 y = if y = o then nI x else S.2 1 y := fun y => by rw [e4, e3, e2]; simp [pa, sa, upd]
  have E2 : ∀ y, S4.2 2 y = if y = o then nI (2 ^ p) else S.2 2 y := fun y => by rw [e4, e3, e2]; simp [pa, sa, upd]
  have E3 : S4.2 3 = S.2 3 := by rw [e4, e3, e2]; simp [pa, sa]
  have ho' : (opO s).getD 0 = o := by rw [ho]; rfl
  refine ⟨fun y hy => ?_, fun y hy => ?_, fun y hy => ?_, ?_, ?_⟩
  · rw [E0]
    show _ = nI (upN (cdO s) ((opO s).getD 0) x y)
    rw [ho']
    by_cases q : y = o
    · simp [upN, q]
    · simp [upN, q]; exact g1 y hy
  · rw [E1]
    show _ = nI (upN (shO s) ((opO s).getD 0) x y)
    rw [ho']
    by_cases q : y = o
    · simp [upN, q]
    · simp [upN, q]; exact g2 y hy
  · rw [E2]
    show _ = nI (mk 6 fun q => if y = (opO s).getD 0 then decide (q = p) else knO s q y)
    rw [ho']
    by_cases q : y = o
    · rw [if_pos q]
      congr 1
      apply mk_eq
      intro i
      rw [Nat.testBit_two_pow, if_pos q]
      by_cases e : p = i
      · subst e; simp [hp6]
      · have : ¬ i = p := fun q => e q.symm
        simp [e, this]
    · simp only [if_neg q]; exact g3 y hy
  · rw [E3]; exact g4
  · rw [e4, e3, e2]; exact g5
end C
