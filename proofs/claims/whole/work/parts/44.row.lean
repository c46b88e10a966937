/-! ===== pure: the model's row ===== -/
def Ms (s : SC) (R : Nat → Int32) : Prop := (∀ k, k < (rgO s).length → R k = nI ((rgO s).getD k 0)) ∧ R 8 = nI (rgO s).length ∧ R 9 = oI (opO s) ∧ (∀ l, l < 8 → R (10 + l) = nI (cdO s l)) ∧ (∀ l, l < 8 → R (18 + l) = nI (shO s l)) ∧ ∀ p, p < 6 → R (26 + p) = nI (mk 8 (knO s p))
/-- which of 0 .. n - 1 a number is -/
def pOf (n : Nat) (x : Int32) : Option Nat := if x.toInt < 0 then none else if x.toInt.toNat < n then some x.toInt.toNat else none
theorem pOf_some {n j : Nat} (hj : j < n) (hn : n < 2 ^ 31) : pOf n (nI j) = some j := by
  unfold pOf
  rw [nI_toInt (by omega), if_neg (by omega), if_pos (by omega)]
  simp
theorem pOf_none {n : Nat} {x : Int32} (hn : n < 2 ^ 31) (h : ∀ j, j < n → x ≠ nI j) : pOf n x = none := by
  unfold pOf
  by_cases h1 : x.toInt < 0
  · rw [if_pos h1]
  · rw [if_neg h1]
    by_cases h2 : x.toInt.toNat < n
    · exfalso
      refine h _ h2 ?_
      apply Int32.toInt_inj.mp
      rw [nI_toInt (by omega)]
      omega
    · rw [if_neg h2]
theorem pOf_cases (n : Nat) (x : Int32) (hn : n < 2 ^ 31) : (∃ j, j < n ∧ x = nI j ∧ pOf n x = some j) ∨ pOf n x = none := by
  by_cases h : ∃ j, j < n ∧ x = nI j
  · obtain ⟨j, hj, rfl⟩ := h
    exact Or.inl ⟨j, hj, rfl, pOf_some hj hn⟩
  · exact Or.inr (pOf_none hn fun j hj e => h ⟨j, hj, e⟩)
theorem pOf_of {n j : Nat} {x : Int32} (hn : n < 2 ^ 31) (h : pOf n x = some j) : j < n ∧ x = nI j := by
  rcases pOf_cases n x hn with ⟨i, hi, e, h2⟩ | h2
  · rw [h] at h2
    have : j = i := by simpa using h2
    subst this
    exact ⟨hi, e⟩
  · rw [h] at h2; cases h2
theorem m_in {n : Nat} {x : Int32} {b : Int64} (hn : n < 2 ^ 31) (hb : b = (nI n - 1).toInt64) {post : Int32 → Prop} (h1 : ∀ j, pOf n x = some j → j < n → x = nI j → post 1) (h0 : pOf n x = none → post 0) : wp_X6_in (x.toInt64) 0 b post := by
  subst hb
  exact in_nI hn (fun j hj e => h1 j (by rw [e]; exact pOf_some hj hn) hj e) (fun h => h0 (pOf_none hn h))
/-- the class's ways to ask it -/
theorem c_in {n : Nat} {x : Int32} (hn : n < 2 ^ 31) {A B : Prop} (h1 : ∀ j, pOf n x = some j → j < n → x = nI j → B) (h0 : pOf n x = none → A) : (x < 0 → A) ∧ (¬ x < 0 → (nI n ≤ x → A) ∧ (¬ nI n ≤ x → B)) := by
  refine ⟨fun c => h0 (pOf_none hn fun j hj e => ?_), fun c => ⟨fun c2 => h0 (pOf_none hn fun j hj e => ?_), fun c2 => ?_⟩⟩
  · subst e; exact nI_pos (by omega) c
  · subst e; exact nI_ge hj hn c2
  · rcases pk_ix x hn with h | h | ⟨j, hj, e⟩
    · exact absurd h c
    · exact absurd h c2
    · exact h1 j (by rw [e]; exact pOf_some hj hn) hj e
theorem c_in2 {n : Nat} {x : Int32} (hn : n < 2 ^ 31) {A B : Prop} (h1 : ∀ j, pOf n x = some j → j < n → x = nI j → B) (h0 : pOf n x = none → A) : (x < 0 → A) ∧ (¬ x < 0 → (x < nI n → B) ∧ (¬ x < nI n → A)) := by
  have h := c_in (A := A) (B := B) hn h1 h0
  have e : x < nI n ↔ ¬ nI n ≤ x := by rw [Int32.lt_iff_toInt_lt, Int32.le_iff_toInt_le]; omega
  refine ⟨h.1, fun c => ⟨fun c2 => (h.2 c).2 (e.mp c2), fun c2 => (h.2 c).1 (Decidable.not_not.mp fun q => c2 (e.mpr q))⟩⟩
theorem le_lt {x : Int32} {n : Nat} (hn : n + 1 < 2 ^ 31) : x ≤ nI n ↔ ¬ nI (n + 1) ≤ x := by
  rw [Int32.le_iff_toInt_le, Int32.le_iff_toInt_le, nI_toInt (by omega), nI_toInt hn]
  omega
theorem c_in3 {n : Nat} {x : Int32} (hn : n + 1 < 2 ^ 31) {A B : Prop} (h1 : ∀ j, pOf (n + 1) x = some j → j < n + 1 → x = nI j → B) (h0 : pOf (n + 1) x = none → A) : (x < 0 → A) ∧ (¬ x < 0 → (x ≤ nI n → B) ∧ (¬ x ≤ nI n → A)) := by
  have h := c_in (A := A) (B := B) hn h1 h0
  refine ⟨h.1, fun c => ⟨fun c2 => (h.2 c).2 ((le_lt hn).mp c2), fun c2 => (h.2 c).1 (Decidable.not_not.mp fun q => c2 ((le_lt hn).mpr q))⟩⟩
theorem or0 (a : Nat) : nI a ||| 0 = nI a := by rw [show (0 : Int32) = nI 0 from rfl, fa_or, Nat.or_zero]
theorem mk_n {n m : Nat} {f : Nat → Bool} (h : ∀ i, f i = true → i < n) (hn : n ≤ m) : mk n f = mk m f := by
  apply mk_eq
  intro i
  rw [mk_tb]
  cases q : f i with
  | false => simp
  | true =>
    have := h i q
    simp [this]; omega
theorem idx_iff {r : List Nat} (hn : r.Nodup) {i l : Nat} (hi : i < r.length) : r.getD i 0 = l ↔ r.idxOf l = i := by
  constructor
  · intro e
    have hm : l ∈ r := by rw [← e]; exact gd_mem hi
    have hl : r.idxOf l < r.length := List.idxOf_lt_length_of_mem hm
    refine nd_inj hn hl hi ?_
    rw [e, List.getD_eq_getElem?_getD, List.getElem?_eq_getElem hl]
    simp
  · intro e
    subst e
    rw [List.getD_eq_getElem?_getD, List.getElem?_eq_getElem hi]
    simp
theorem take_1 {r : List Nat} {i : Nat} (hi : i < r.length) : r.take (i + 1) = r.take i ++ [r.getD i 0] := by
  rw [List.take_succ, List.getD_eq_getElem?_getD, List.getElem?_eq_getElem hi]
  rfl
theorem m_has {a p : Nat} (ha : a < 2 ^ 31) (hp : p < 31) {post : Int32 → Prop} (h1 : a.testBit p = true → post 1) (h0 : a.testBit p = false → post 0) : wp_X6_has (nI a) (nI p) post := c_hasBit ha hp h1 h0
section M
variable {n L : Nat} {s : SC} {M : Mo}
theorem m_placeOf (hV : Vs n L s) (hL : L ≤ 8) (h : Ms s (M.1.2 7)) {l : Nat} (hl : l < 8) {post : Int32 → Prop} (h1 : l ∈ rgO s → post (nI ((rgO s).idxOf l))) (h0 : l ∉ rgO s → post (-9)) : wp_X6_placeOf M (nI l) post := by
  have h8 := len8 hV.1 (fun x hx => hV.lt8 hL hx)
  have key : ∀ k i, i + k = (rgO s).length → wp_X6_placeOf_L5 post (nI l) M (k + 1) (if (rgO s).idxOf l < i then nI ((rgO s).idxOf l) else -9) (nI i) := by
    intro k
    induction k with
    | zero =>
      intro i hi
      have : i = (rgO s).length := by omega
      subst this
      rw [wp_X6_placeOf_L5, h.2.1]
      refine ⟨fun _ => ?_, fun c => absurd (nI_le (Nat.le_refl _) (by omega)) c⟩
      by_cases hm : l ∈ rgO s
      · rw [if_pos (List.idxOf_lt_length_of_mem hm)]; exact h1 hm
      · rw [if_neg (fun q => hm (List.idxOf_lt_length_iff.mp q))]; exact h0 hm
    | succ k ih =>
      intro i hi
      rw [wp_X6_placeOf_L5, h.2.1]
      have hx8 := hV.lt8 hL (gd_mem (r := rgO s) (k := i) (by omega))
      refine ⟨fun c => absurd c (nI_ge (by omega) (by omega)), fun _ => ⟨vp_in_nI (by omega) (by decide), ?_⟩⟩
      rw [nI_clamp (by omega), h.1 i (by omega), nI_eq (by omega) (by omega), idx_iff hV.1 (by omega), nI_1]
      have ih1 := ih (i + 1) (by omega)
      refine ⟨fun c => ?_, fun c => ?_⟩
      · have : (rgO s).idxOf l < i + 1 ↔ (rgO s).idxOf l < i := by omega
        simp only [this] at ih1
        exact ih1
      · rw [if_pos (by omega), c] at ih1
        exact ih1
  have := key (rgO s).length 0 (by omega)
  rw [if_neg (by omega)] at this
  exact ⟨_, this⟩
theorem m_isRing (hV : Vs n L s) (hL : L ≤ 8) (h : Ms s (M.1.2 7)) {l : Nat} (hl : l < 8) {post : Int32 → Prop} (h1 : l ∈ rgO s → post 1) (h0 : l ∉ rgO s → post 0) : wp_X6_isRing M (nI l) post := by
  unfold wp_X6_isRing
  refine m_placeOf hV hL h hl (fun hm => ⟨fun c => absurd c (n9 ?_), fun _ => h1 hm⟩) (fun hm => ⟨fun _ => h0 hm, fun c => absurd rfl c⟩)
  have h8 := len8 hV.1 (fun x hx => hV.lt8 hL hx)
  have := List.idxOf_lt_length_of_mem hm
  omega
theorem m_ring (hV : Vs n L s) (hL : L ≤ 8) (h : Ms s (M.1.2 7)) {post : Int32 → Prop} (hp : post (nI (mk 8 (inR s)))) : wp_X6_ring M post := by
  have h8 := len8 hV.1 (fun x hx => hV.lt8 hL hx)
  have key : ∀ k i, i + k = (rgO s).length → wp_X6_ring_L4 post M (k + 1) (nI (lm ((rgO s).take i))) (nI i) := by
    intro k
    induction k with
    | zero =>
      intro i hi
      have : i = (rgO s).length := by omega
      subst this
      rw [wp_X6_ring_L4, h.2.1, List.take_length]
      exact ⟨fun _ => hp, fun c => absurd (nI_le (Nat.le_refl _) (by omega)) c⟩
    | succ k ih =>
      intro i hi
      rw [wp_X6_ring_L4, h.2.1]
      have hx8 := hV.lt8 hL (gd_mem (r := rgO s) (k := i) (by omega))
      refine ⟨fun c => absurd c (nI_ge (by omega) (by omega)), fun _ => ⟨vp_in_nI (by omega) (by decide), ?_⟩⟩
      intro y e
      rw [nI_clamp (by omega), h.1 i (by omega), sh1 _ (by omega), fa_or, lm_push _ hx8, ← take_1 (by omega)] at e
      rw [e, nI_1]
      exact ih (i + 1) (by omega)
  have := key (rgO s).length 0 (by omega)
  rw [List.take_zero, lm_0] at this
  exact ⟨_, this⟩
theorem m_knowers (hV : Vs n L s) (hn : n ≤ 6) (hM : M.1.1 0 = nI n) (h : Ms s (M.1.2 7)) {l : Nat} (hl : l < 8) {post : Int32 → Prop} (hp : post (nI (mk 6 fun p => knO s p l))) : wp_X6_knowers M (nI l) post := by
  have key : ∀ k i, i + k = n → wp_X6_knowers_L4 post (nI l) M (k + 1) (nI (mk i fun p => knO s p l)) (nI i) := by
    intro k
    induction k with
    | zero =>
      intro i hi
      have : i = n := by omega
      subst this
      rw [wp_X6_knowers_L4, hM]
      refine ⟨fun _ => ?_, fun c => absurd (nI_le (Nat.le_refl _) (by omega)) c⟩
      rw [mk_n (fun p hp => (hV.2.2.1 p l hp).1) hn]; exact hp
    | succ k ih =>
      intro i hi
      rw [wp_X6_knowers_L4, hM, show (26 : Int32) = nI 26 from rfl, nI_add]
      refine ⟨fun c => absurd c (nI_ge (by omega) (by omega)), fun _ => ⟨vp_in_nI (by omega) (by decide), ?_⟩⟩
      rw [nI_clamp (by omega), h.2.2.2.2.2 i (by omega)]
      have ih1 := ih (i + 1) (by omega)
      refine m_has (by have := mk_8 (knO s i); omega) (by omega) (fun q => ⟨fun c => absurd c (by decide), fun _ => ?_⟩) (fun q => ⟨fun _ => ?_, fun c => absurd rfl c⟩)
      · rw [mk_tb] at q
        rw [sh1 i (by omega), fa_or, mk_t (by simpa [hl] using q), nI_1]; exact ih1
      · rw [mk_tb] at q
        rw [or0, mk_f (f := fun p => knO s p l) (n := i) (by simpa [hl] using q), nI_1]; exact ih1
  exact ⟨_, key n 0 (by omega)⟩
theorem giB_n (hV : Vs n L s) {f : Nat → Bool} {p : Nat} (h : giB s f p = true) : p < n := by
  obtain ⟨l, -, e⟩ := any8_iff.mp h
  simp only [Bool.and_eq_true] at e
  exact (hV.2.2.1 p l e.2).1
theorem m_getsIn (hV : Vs n L s) (hn : n ≤ 6) (hM : M.1.1 0 = nI n) (h : Ms s (M.1.2 7)) {a : Nat} (ha : a < 256) {post : Int32 → Prop} (hp : post (nI (mk 6 (giB s a.testBit)))) : wp_X6_getsIn M (nI a) post := by
  have key : ∀ k i, i + k = n → wp_X6_getsIn_L4 post (nI a) M (k + 1) (nI (mk i (giB s a.testBit))) (nI i) := by
    intro k
    induction k with
    | zero =>
      intro i hi
      have : i = n := by omega
      subst this
      rw [wp_X6_getsIn_L4, hM]
      refine ⟨fun _ => ?_, fun c => absurd (nI_le (Nat.le_refl _) (by omega)) c⟩
      rw [mk_n (fun p hp => giB_n hV hp) hn]; exact hp
    | succ k ih =>
      intro i hi
      rw [wp_X6_getsIn_L4, hM, show (26 : Int32) = nI 26 from rfl, nI_add]
      refine ⟨fun c => absurd c (nI_ge (by omega) (by omega)), fun _ => ⟨vp_in_nI (by omega) (by decide), ?_⟩⟩
      rw [nI_clamp (by omega), h.2.2.2.2.2 i (by omega), fa_and]
      have ih1 := ih (i + 1) (by omega)
      refine ⟨fun c => ?_, fun c => ?_⟩
      · have : giB s a.testBit i = false := by
          cases q : giB s a.testBit i with
          | false => rfl
          | true =>
            obtain ⟨l, hl8, hq⟩ := any8_iff.mp q
            have := and0.mp c l (by omega)
            rw [mk_tb] at this
            simp only [Bool.and_eq_true] at hq
            simp [hl8, hq.1, hq.2] at this
        rw [or0, mk_f this, nI_1]; exact ih1
      · have : giB s a.testBit i = true := by
          cases q : giB s a.testBit i with
          | true => rfl
          | false =>
            exfalso
            refine c (and0.mpr fun l hl32 => ?_)
            rw [mk_tb]
            by_cases hl8 : l < 8
            · have : ¬ (a.testBit l && knO s i l) = true := fun z => by
                have := any8_iff (f := fun l => a.testBit l && knO s i l) |>.mpr ⟨l, hl8, z⟩
                unfold giB at q
                rw [q] at this
                exact absurd this (by decide)
              cases x : knO s i l <;> cases y : a.testBit l <;> simp_all
            · simp [hl8]
        rw [sh1 i (by omega), fa_or, mk_t this, nI_1]; exact ih1
  exact ⟨_, key n 0 (by omega)⟩
/-- who gets in now -/
theorem m_whoIn (hV : Vs n L s) (hL : L ≤ 8) (hn : n ≤ 6) (hM : M.1.1 0 = nI n) (h : Ms s (M.1.2 7)) {post : Int32 → Prop} (hp : post (nI (mk 6 (giB s (inR s))))) : wp_X6_ring M (fun r => wp_X6_getsIn M r post) := by
  refine m_ring hV hL h (m_getsIn hV hn hM h (mk_8 _) ?_)
  have e : mk 6 (giB s (mk 8 (inR s)).testBit) = mk 6 (giB s (inR s)) := mk_cg fun p _ => giB_cg (fun l hl => by rw [mk_tb]; simp [hl]) p
  rw [e]; exact hp
theorem m_canShut (hV : Vs n L s) (hL : L ≤ 8) (h : Ms s (M.1.2 7)) {l : Nat} (hl : l < 8) {post : Int32 → Prop} (h1 : csB s l = true → post 1) (h0 : csB s l = false → post 0) : wp_X6_canShut M (nI l) post := by
  have h8 := len8 hV.1 (fun x hx => hV.lt8 hL hx)
  unfold wp_X6_canShut
  rw [h.2.2.1, h.2.1]
  cases ho : opO s with
  | none => exact ⟨fun _ => h0 (by simp [csB, ho]), fun c => absurd rfl c⟩
  | some o =>
    have ho8 := hV.lt8 hL (hV.2.2.2.2.2 o ho)
    refine ⟨fun c => absurd c (n9 (by omega)), fun _ => ?_⟩
    refine m_isRing hV hL h hl (fun hm => ⟨fun c => absurd c (by decide), fun _ => ?_⟩) (fun hm => ⟨fun _ => h0 (by simp [csB, hm]), fun c => absurd rfl c⟩)
    show (¬ nI l = nI o → _) ∧ (nI l = nI o → _)
    rw [nI_eq (by omega) (by omega), show (1 : Int32) = nI 1 from rfl, nI_eq (by omega) (by omega)]
    refine ⟨fun c => h1 (by simp [csB, ho, hm]; exact Or.inl fun q => c q.symm), fun c => ⟨fun z => h0 ?_, fun z => h1 ?_⟩⟩
    · subst c
      simp [csB, ho, hm, z]
    · subst c
      simp [csB, ho, hm, z]
/-- the places behind o -/
theorem rt_gd {r : List Nat} {o j : Nat} (ho : o ∈ r) (hj : j < (rt r o).length) : r.getD ((r.idxOf o + (j + 1)) % r.length) 0 = (rt r o).getD j 0 := by
  have hi : r.idxOf o < r.length := List.idxOf_lt_length_of_mem ho
  have hlen := rt_len ho
  have e := gd_rot (r.take (r.idxOf o)) (o :: r.drop (r.idxOf o + 1)) (k := j + 1) (by
    have : (o :: rt r o).length = (o :: r.drop (r.idxOf o + 1) ++ r.take (r.idxOf o)).length := rfl
    rw [← this]; simp; omega)
  rw [← rt_split ho] at e
  have e2 : (o :: r.drop (r.idxOf o + 1) ++ r.take (r.idxOf o)).getD (j + 1) 0 = (rt r o).getD j 0 := by
    show (o :: rt r o).getD (j + 1) 0 = _
    rw [List.getD_cons_succ]
  rw [e2] at e
  rw [e, List.length_take, Nat.min_eq_left (by omega), Nat.add_comm (j + 1)]
theorem m_besideBy (hV : Vs n L s) (hL : L ≤ 8) (h : Ms s (M.1.2 7)) {o l : Nat} (ho : opO s = some o) (hl : l ∈ rgO s) {post : Int32 → Prop} (hp : post (nI (lm (bwS s l)))) : wp_X6_besideBy M (nI l) post := by
  have hor := hV.2.2.2.2.2 o ho
  have h8 := len8 hV.1 (fun x hx => hV.lt8 hL hx)
  have hb : bwS s l = bwl (rgO s) o l := by simp [bwS, ho]
  have hlen := rt_len hor
  have hi : (rgO s).idxOf o < (rgO s).length := List.idxOf_lt_length_of_mem hor
  rw [hb] at hp
  unfold bwl at hp
  have key : ∀ (v u : List Nat), rt (rgO s) o = u ++ v → (∀ y ∈ u, y ≠ l) → wp_X6_besideBy_L17 post (nI l) (nI ((rgO s).idxOf o)) M (v.length + 1) (nI (lm u)) (nI (u.length + 1)) := by
    intro v
    induction v with
    | nil =>
      intro u e hu
      rw [List.append_nil] at e
      show wp_X6_besideBy_L17 _ _ _ _ (0 + 1) _ _
      rw [wp_X6_besideBy_L17, h.2.1]
      refine ⟨fun _ => ?_, fun c => absurd (nI_le (by rw [hlen, e]; exact Nat.le_refl _) (by rw [← e]; omega)) c⟩
      have hlo : l = o := by
        rcases (rt_mem hor).mp hl with q | q
        · exact q
        · rw [e] at q; exact absurd rfl (hu l q)
      rw [e, ← hlo, tw_eq hu] at hp
      exact hp
    | cons x v ih =>
      intro u e hu
      have hul : u.length < (rt (rgO s) o).length := by rw [e]; simp
      have hx8 : x < 8 := hV.lt8 hL ((rt_mem hor).mpr (Or.inr (by rw [e]; simp)))
      have hl8 : l < 8 := hV.lt8 hL hl
      show wp_X6_besideBy_L17 _ _ _ _ (v.length + 1 + 1) _ _
      have hm : ((rgO s).idxOf o + (u.length + 1)) % (rgO s).length < (rgO s).length := Nat.mod_lt _ (by omega)
      rw [wp_X6_besideBy_L17, h.2.1, nI_add, pk_rem (by omega) (by omega) (by omega)]
      refine ⟨fun c => absurd c (nI_ge (by omega) (by omega)), fun _ => ⟨nI_ne0 (by omega) (by omega), vp_in_nI (by omega) (by decide), ?_⟩⟩
      intro y ey
      rw [nI_clamp (by omega), h.1 _ hm, rt_gd hor hul, e, gd_app2 (Nat.le_refl _), Nat.sub_self, List.getD_cons_zero] at ey
      rw [ey, nI_eq (by omega) (by omega)]
      refine ⟨fun c => ?_, fun c => ?_⟩
      · rw [sh1 x (by omega), fa_or, lm_push u hx8, nI_1]
        have := ih (u ++ [x]) (by rw [e]; simp) (by
          intro z hz
          rcases List.mem_append.mp hz with q | q
          · exact hu z q
          · rw [List.mem_singleton.mp q]; exact c)
        rw [List.length_append] at this
        exact this
      · subst c
        rw [e, List.append_assoc, List.cons_append, tw_eq hu] at hp
        exact hp
  unfold wp_X6_besideBy
  rw [h.2.2.1, ho]
  show wp_X6_placeOf M (nI o) _
  refine m_placeOf hV hL h (hV.lt8 hL hor) (fun _ => ?_) (fun q => absurd hor q)
  have k0 := key (rt (rgO s) o) [] rfl (by simp)
  rw [lm_0] at k0
  exact ⟨_, k0⟩
theorem m_leftBy (hV : Vs n L s) (hL : L ≤ 8) (hn : n ≤ 6) (hM : M.1.1 0 = nI n) (h : Ms s (M.1.2 7)) {l : Nat} (hl : l < 8) {post : Int32 → Prop} (h1 : csB s l = true → post (nI (mk 6 (lfB s l)))) (h0 : csB s l = false → post (-9)) : wp_X6_leftBy M (nI l) post := by
  unfold wp_X6_leftBy
  refine m_canShut hV hL h hl (fun hc => ⟨fun c => absurd c (by decide), fun _ => ?_⟩) (fun hc => ⟨fun _ => h0 hc, fun c => absurd rfl c⟩)
  obtain ⟨o, ho, hm, -⟩ := csB_t hc
  refine m_whoIn hV hL hn hM h (m_ring hV hL h (m_besideBy hV hL h ho hm ?_))
  rw [rs_mk]
  refine m_getsIn hV hn hM h (mk_8 _) ?_
  have e : mk 6 (giB s (mk 8 (rsB s l)).testBit) = mk 6 (giB s (rsB s l)) := mk_cg fun p _ => giB_cg (fun l hl => by rw [mk_tb]; simp [hl]) p
  rw [e, lf_mk]
  exact h1 hc
end M
