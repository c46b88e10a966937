/-! ===== pure: the greatest rounds, the worst shutting, jammed locks, odds, how near ===== -/
def mx (a r : Int32) : Int32 := if r ≤ a then a else r
def gr (σ : St) : Nat → Int32
  | 0 => 0
  | p + 1 => if gr σ p = -9 then -9 else if rnd σ p = -9 then -9 else mx (gr σ p) (rnd σ p)
theorem gr_stick {σ : St} {p : Nat} (h : gr σ p = -9) : ∀ k, gr σ (p + k) = -9
  | 0 => h
  | k + 1 => by
    show (if gr σ (p + k) = -9 then -9 else _) = _
    rw [if_pos (gr_stick h k)]
theorem mx_ne {a r : Int32} (ha : ¬ a = -9) (hr : ¬ r = -9) : ¬ mx a r = -9 := by
  unfold mx
  split
  · exact ha
  · exact hr
theorem mx_lt (a r : Int32) : (if a < r then r else a) = mx a r := by
  unfold mx
  by_cases h : r ≤ a
  · rw [if_pos h, if_neg (by rw [Int32.lt_iff_toInt_lt]; rw [Int32.le_iff_toInt_le] at h; omega)]
  · rw [if_neg h, if_pos (by rw [Int32.lt_iff_toInt_lt]; rw [Int32.le_iff_toInt_le] at h; omega)]
def oM (d : Int32) : Option Nat → Int32
  | none => d
  | some m => nI m
def wst (σ : St) : Nat → Int32 × Option Nat
  | 0 => (-9, none)
  | l + 1 => if csB (scO σ) l = true then (match (wst σ l).2 with
      | none => (nI l, some (ct 6 (lfB (scO σ) l)))
      | some m => if ct 6 (lfB (scO σ) l) ≤ m then wst σ l else (nI l, some (ct 6 (lfB (scO σ) l)))) else wst σ l
theorem wst_le {σ : St} : ∀ (l m : Nat), (wst σ l).2 = some m → m ≤ 6
  | 0, m, h => by cases h
  | l + 1, m, h => by
    unfold wst at h
    split at h
    · split at h
      · have : ct 6 (lfB (scO σ) l) = m := by simpa using h
        rw [← this]; exact ct_le _ 6
      · split at h
        · exact wst_le l m h
        · have : ct 6 (lfB (scO σ) l) = m := by simpa using h
          rw [← this]; exact ct_le _ 6
    · exact wst_le l m h
theorem n_neg {a : Nat} (h : a < 2 ^ 31) {d : Int32} (hd : d.toInt < 0) : ¬ nI a ≤ d := by
  rw [Int32.le_iff_toInt_le, nI_toInt h]; omega
section G
variable {σ : St} {Z : GC} {M : Mo}
theorem c_great (hV : VS σ) (h : RC σ Z) {post : Int32 → Prop} (hp : post (gr σ (nO σ))) : wp_X5_greatestRounds Z post := by
  have hn := hV.1
  have key : ∀ k i, i + k = nO σ → ¬ gr σ i = -9 → wp_X5_greatestRounds_L4 post Z (k + 1) (gr σ i) (nI i) := by
    intro k
    induction k with
    | zero =>
      intro i hi hg
      have : i = nO σ := by omega
      subst this
      rw [wp_X5_greatestRounds_L4, h.1]
      exact ⟨fun _ => hp, fun c => absurd (nI_le (Nat.le_refl _) (by omega)) c⟩
    | succ k ih =>
      intro i hi hg
      rw [wp_X5_greatestRounds_L4, h.1, nI_1]
      refine ⟨fun c => absurd c (nI_ge (by omega) (by omega)), fun _ => c_rounds hV h (by omega) ⟨fun c y e => ?_, fun c => ?_⟩⟩
      · rw [mx_lt] at e
        have e2 : gr σ (i + 1) = mx (gr σ i) (rnd σ i) := by
          show (if gr σ i = -9 then -9 else if rnd σ i = -9 then -9 else _) = _
          rw [if_neg hg, if_neg c]
        rw [e, ← e2]
        exact ih (i + 1) (by omega) (by rw [e2]; exact mx_ne hg c)
      · have e2 : gr σ (i + 1) = -9 := by
          show (if gr σ i = -9 then -9 else if rnd σ i = -9 then -9 else _) = _
          rw [if_neg hg, if_pos c]
        have := gr_stick e2 k
        rw [show i + 1 + k = nO σ by omega] at this
        rw [this] at hp; exact hp
  exact ⟨_, key (nO σ) 0 (by omega) (by show ¬ (0 : Int32) = -9; decide)⟩
theorem m_great (hV : VS σ) (h : RM σ M) {post : Int32 → Prop} (hp : post (gr σ (nO σ))) : wp_X6_greatestRounds M post := by
  have hn := hV.1
  have key : ∀ k i, i + k = nO σ → wp_X6_greatestRounds_L4 post M (k + 1) (gr σ i) (nI i) := by
    intro k
    induction k with
    | zero =>
      intro i hi
      have : i = nO σ := by omega
      subst this
      rw [wp_X6_greatestRounds_L4, h.1]
      exact ⟨fun _ => hp, fun c => absurd (nI_le (Nat.le_refl _) (by omega)) c⟩
    | succ k ih =>
      intro i hi
      rw [wp_X6_greatestRounds_L4, h.1, nI_1]
      have ih1 := ih (i + 1) (by omega)
      unfold gr at ih1
      refine ⟨fun c => absurd c (nI_ge (by omega) (by omega)), fun _ => m_rounds hV h (by omega) ⟨fun c => ?_, fun c => ⟨fun c2 => ⟨fun c3 => ?_, fun c3 => ?_⟩, fun c2 => ?_⟩⟩⟩
      · by_cases q : gr σ i = -9
        · rw [if_pos q] at ih1; exact ih1
        · rw [if_neg q, if_pos c] at ih1; exact ih1
      · rw [if_neg c2, if_neg c] at ih1
        unfold mx at ih1
        rw [if_pos c3] at ih1; exact ih1
      · rw [if_neg c2, if_neg c] at ih1
        unfold mx at ih1
        rw [if_neg c3] at ih1; exact ih1
      · rw [if_pos c2] at ih1; exact ih1
  exact ⟨_, key (nO σ) 0 (by omega)⟩
theorem wst_t {l : Nat} (hc : csB (scO σ) l = true) : wst σ (l + 1) = (match (wst σ l).2 with
      | none => (nI l, some (ct 6 (lfB (scO σ) l)))
      | some m => if ct 6 (lfB (scO σ) l) ≤ m then wst σ l else (nI l, some (ct 6 (lfB (scO σ) l)))) := by
  show (if csB (scO σ) l = true then _ else _) = _
  rw [if_pos hc]
theorem wst_f {l : Nat} (hc : csB (scO σ) l = false) : wst σ (l + 1) = wst σ l := by
  show (if csB (scO σ) l = true then _ else _) = _
  rw [if_neg (by rw [hc]; decide)]
/-- the new best one -/
theorem wst_step {l : Nat} (hc : csB (scO σ) l = true) {d : Int32} (hd : d.toInt < 0) : (nI (ct 6 (lfB (scO σ) l)) ≤ oM d (wst σ l).2 → wst σ (l + 1) = wst σ l) ∧ (¬ nI (ct 6 (lfB (scO σ) l)) ≤ oM d (wst σ l).2 → wst σ (l + 1) = (nI l, some (ct 6 (lfB (scO σ) l)))) := by
  have hle : ct 6 (lfB (scO σ) l) ≤ 6 := ct_le _ 6
  rw [wst_t hc]
  cases q : (wst σ l).2 with
  | none => exact ⟨fun c => absurd c (n_neg (by omega) hd), fun _ => rfl⟩
  | some m =>
    have hm := wst_le l m q
    show (nI _ ≤ nI m → _) ∧ (¬ nI _ ≤ nI m → _)
    rw [nI_leI (by omega) (by omega)]
    exact ⟨fun c => if_pos c, fun c => if_neg c⟩
theorem c_worst (hV : VS σ) (h : RC σ Z) {post : Int32 → Prop} (hp : post (wst σ (LO σ)).1) : wp_X5_worstLock Z post := by
  have hL := hV.2.1
  have hs : Vs (nO σ) (LO σ) (scO σ) := hV.2.2.2.1.1
  have hc : Cs (scO σ) (Z.2.1 3) := h.2.2.2.1.1
  have key : ∀ k i, i + k = LO σ → wp_X5_worstLock_L7 post Z (k + 1) (wst σ i).1 (oM (-1) (wst σ i).2) (nI i) := by
    intro k
    induction k with
    | zero =>
      intro i hi
      have : i = LO σ := by omega
      subst this
      rw [wp_X5_worstLock_L7, h.2.1]
      exact ⟨fun _ => hp, fun c => absurd (nI_le (Nat.le_refl _) (by omega)) c⟩
    | succ k ih =>
      intro i hi
      rw [wp_X5_worstLock_L7, h.2.1, nI_1]
      have ih1 := ih (i + 1) (by omega)
      refine ⟨fun c => absurd c (nI_ge (by omega) (by omega)), fun _ => c_canShutOn hs hL hc (l := i) (by omega) (fun q => t2 ?_) (fun q => f2 ?_)⟩
      · refine c_leftBy hs hL hc (l := i) (by omega) (fun _ => bc_ok (Nat.lt_of_lt_of_le (mk_6 _) (by decide)) ?_) (fun z => by rw [q] at z; cases z)
        rw [ct_mk6]
        have W := wst_step q (d := -1) (by decide)
        refine ⟨fun c => ?_, fun c => ?_⟩
        · rw [W.1 c] at ih1; exact ih1
        · rw [W.2 c] at ih1; exact ih1
      · rw [wst_f q] at ih1; exact ih1
  exact ⟨_, key (LO σ) 0 (by omega)⟩
theorem m_worst (hV : VS σ) (h : RM σ M) {post : Int32 → Prop} (hp : post (wst σ (LO σ)).1) : wp_X6_worst M post := by
  have hL := hV.2.1
  have hs : Vs (nO σ) (LO σ) (scO σ) := hV.2.2.2.1.1
  have hc : Ms (scO σ) (M.1.2 7) := h.2.2.2.1.1
  have key : ∀ k i, i + k = LO σ → wp_X6_worst_L8 post M (k + 1) (wst σ i).1 (oM (-9) (wst σ i).2) (nI i) := by
    intro k
    induction k with
    | zero =>
      intro i hi
      have : i = LO σ := by omega
      subst this
      rw [wp_X6_worst_L8, h.2.1]
      exact ⟨fun _ => hp, fun c => absurd (nI_le (Nat.le_refl _) (by omega)) c⟩
    | succ k ih =>
      intro i hi
      rw [wp_X6_worst_L8, h.2.1, nI_1]
      have ih1 := ih (i + 1) (by omega)
      refine ⟨fun c => absurd c (nI_ge (by omega) (by omega)), fun _ => m_canShut hs hL hc (l := i) (by omega) (fun q => t2 ?_) (fun q => f2 ?_)⟩
      · refine m_leftBy hs hL hV.1 h.1 hc (l := i) (by omega) (fun _ => on_ok (Nat.lt_of_lt_of_le (mk_6 _) (by decide)) ?_) (fun z => by rw [q] at z; cases z)
        rw [ct_mk6]
        have W := wst_step q (d := -9) (by decide)
        refine ⟨fun c => ⟨fun _ => ?_, fun c2 => absurd c c2⟩, fun c => ⟨fun c2 => absurd c2 c, fun _ => ?_⟩⟩
        · rw [W.1 c] at ih1; exact ih1
        · rw [W.2 c] at ih1; exact ih1
      · rw [wst_f q] at ih1; exact ih1
  exact ⟨_, key (LO σ) 0 (by omega)⟩
def nowA (σ : St) (x : Int32) : Int32 :=
  match pOf 5 x with
  | some 0 => oI (opO (scO σ))
  | some 1 => nI (mk 8 (inR (scO σ)))
  | some 2 => nI (mk 6 (giB (scO σ) (inR (scO σ))))
  | some 3 => (wst σ (LO σ)).1
  | some 4 => gr σ (nO σ)
  | _ => -1
theorem c_now (hV : VS σ) (h : RC σ Z) (x : Int32) {post : Int32 → Prop} (hp : post (nowA σ x)) : wp_X5_now Z x post := by
  have hL := hV.2.1
  have hs : Vs (nO σ) (LO σ) (scO σ) := hV.2.2.2.1.1
  have hc : Cs (scO σ) (Z.2.1 3) := h.2.2.2.1.1
  unfold wp_X5_now
  unfold nowA at hp
  refine ⟨fun e => ?_, fun e => ?_, fun e => ?_, fun e => ?_, fun e => ?_, fun e => ?_⟩
  · subst e; rw [p50] at hp; rw [hc.2.2.2.2]; exact hp
  · subst e; rw [p51] at hp; exact c_ringBits hs hL hc hp
  · subst e; rw [p52] at hp; exact c_whoGetsIn hs hL hc hp
  · subst e; rw [p53] at hp; exact c_worst hV h hp
  · subst e; rw [p54] at hp; exact c_great hV h hp
  · rw [pOf_out (n := 5) e] at hp; exact hp
theorem m_now (hV : VS σ) (h : RM σ M) (x : Int32) {post : Int32 → Prop} (hp : post (nowA σ x)) : wp_X6_now M x post := by
  have hL := hV.2.1
  have hs : Vs (nO σ) (LO σ) (scO σ) := hV.2.2.2.1.1
  have hc : Ms (scO σ) (M.1.2 7) := h.2.2.2.1.1
  unfold wp_X6_now
  unfold nowA at hp
  refine ⟨fun e => ?_, fun e => ?_, fun e => ?_, fun e => ?_, fun e => ?_, fun e => ?_⟩
  · subst e; rw [p50] at hp; rw [hc.2.2.1]; exact hp
  · subst e; rw [p51] at hp; exact m_ring hs hL hc hp
  · subst e; rw [p52] at hp; exact m_whoIn hs hL hV.1 h.1 hc hp
  · subst e; rw [p53] at hp; exact m_worst hV h hp
  · subst e; rw [p54] at hp; exact m_great hV h hp
  · rw [pOf_out (n := 5) e] at hp; exact hp
/-! jammed locks -/
def jc (σ : St) (i : Nat) : Nat := ct 8 fun l => kbB (scO σ) i.testBit l && inR (scO σ) l
def jm (σ : St) (r : Nat) : Nat → Option Nat
  | 0 => none
  | i + 1 => if jc σ i ≤ r then jm σ r i else (match jm σ r i with
    | none => some i
    | some b => if ct 8 b.testBit ≤ ct 8 i.testBit then jm σ r i else some i)
theorem jm_lt {r : Nat} : ∀ (i b : Nat), jm σ r i = some b → b < i
  | 0, b, h => by cases h
  | i + 1, b, h => by
    unfold jm at h
    split at h
    · have := jm_lt i b h; omega
    · split at h
      · have : i = b := by simpa using h
        omega
      · split at h
        · have := jm_lt i b h; omega
        · have : i = b := by simpa using h
          omega
theorem ct6 : ∀ i, i < 64 → ct 8 i.testBit ≤ 6 := by decide +kernel
theorem mk_and (n : Nat) (f g : Nat → Bool) : mk n f &&& mk n g = mk n fun i => f i && g i := mk_eq fun i => by
  rw [Nat.testBit_and, mk_tb, mk_tb]; cases decide (i < n) <;> simp
def o7 : Option Nat → Nat
  | none => 7
  | some b => ct 8 b.testBit
theorem o7_lt (o : Option Nat) : o7 o ≤ 8 := by
  cases o with
  | none => decide
  | some b => exact ct_le _ 8
theorem jm_a {r i : Nat} (h : jc σ i ≤ r) : jm σ r (i + 1) = jm σ r i := by
  show (if jc σ i ≤ r then _ else _) = _
  rw [if_pos h]
theorem jm_b {r i : Nat} (h : o7 (jm σ r i) ≤ ct 8 i.testBit) (hi : i < 64) : jm σ r (i + 1) = jm σ r i := by
  by_cases q : jc σ i ≤ r
  · exact jm_a q
  · show (if jc σ i ≤ r then _ else _) = _
    rw [if_neg q]
    cases z : jm σ r i with
    | none =>
      rw [z] at h
      have := ct6 i hi
      have h : 7 ≤ ct 8 i.testBit := h
      omega
    | some b =>
      rw [z] at h
      exact if_pos h
theorem jm_c {r i : Nat} (h : ¬ o7 (jm σ r i) ≤ ct 8 i.testBit) (h2 : ¬ jc σ i ≤ r) : jm σ r (i + 1) = some i := by
  show (if jc σ i ≤ r then _ else _) = _
  rw [if_neg h2]
  cases z : jm σ r i with
  | none => rfl
  | some b =>
    rw [z] at h
    exact if_neg h
def jamA (σ : St) (x : Int32) : Int32 :=
  match pOf 8 x with
  | none => -1
  | some r => oM (-9) (jm σ r (2 ^ nO σ))
theorem pow64 {n : Nat} (h : n ≤ 6) : 2 ^ n ≤ 64 := Nat.pow_le_pow_right (by decide) h
theorem c_jam (hV : VS σ) (h : RC σ Z) (x : Int32) {post : Int32 → Prop} (hp : post (jamA σ x)) : wp_X5_jam Z x post := by
  have hL := hV.2.1
  have hn := hV.1
  have h64 := pow64 hn
  have hpos : 0 < 2 ^ nO σ := Nat.two_pow_pos _
  have hs : Vs (nO σ) (LO σ) (scO σ) := hV.2.2.2.1.1
  have hc : Cs (scO σ) (Z.2.1 3) := h.2.2.2.1.1
  unfold jamA at hp
  refine c_in2 (n := 8) (by decide) (fun r hx hr ex => ?_) (fun hx => ?_)
  · rw [hx] at hp
    subst ex
    refine c_ringBits hs hL hc ?_
    have key : ∀ k i, i + k = 2 ^ nO σ → wp_X5_fewestWhoKnowMore_L21 (fun r_3 => post r_3) (nI r) (nI (mk 8 (inR (scO σ)))) Z (k + 1) (oM (-9) (jm σ r i)) (nI (o7 (jm σ r i))) (nI i) := by
      intro k
      induction k with
      | zero =>
        intro i hi
        have : i = 2 ^ nO σ := by omega
        subst this
        rw [wp_X5_fewestWhoKnowMore_L21, h.1, sh1 _ (by omega)]
        exact ⟨fun _ => hp, fun c => absurd (nI_le (Nat.le_refl _) (by omega)) c⟩
      | succ k ih =>
        intro i hi
        rw [wp_X5_fewestWhoKnowMore_L21, h.1, sh1 _ (by omega), nI_1]
        have ih1 := ih (i + 1) (by omega)
        refine ⟨fun c => absurd c (nI_ge (by omega) (by omega)), fun _ => bc_ok (by omega) ?_⟩
        have h7 := o7_lt (jm σ r i)
        have h8 : ct 8 i.testBit ≤ 8 := ct_le _ 8
        rw [nI_leI (by omega) (by omega)]
        refine ⟨fun c => ?_, fun c => c_knownBy hc (by omega) ?_⟩
        · rw [jm_b c (by omega)] at ih1; exact ih1
        · rw [fa_and, mk_and]
          refine bc_ok (mk_8 _) ?_
          rw [ct_mk8]
          show (nI (jc σ i) ≤ nI r → _) ∧ (¬ nI (jc σ i) ≤ nI r → _)
          have hj : jc σ i ≤ 8 := ct_le _ 8
          rw [nI_leI (by omega) (by omega)]
          refine ⟨fun c2 => ?_, fun c2 => ?_⟩
          · rw [jm_a c2] at ih1; exact ih1
          · rw [jm_c c c2] at ih1; exact ih1
    have h0 : jc σ 0 ≤ r := by
      have : jc σ 0 = 0 := by
        unfold jc
        have : (fun l => kbB (scO σ) (Nat.testBit 0) l && inR (scO σ) l) = fun _ => false := by
          funext l
          have : kbB (scO σ) (Nat.testBit 0) l = false := by
            unfold kbB
            rw [← Bool.not_eq_true, any6_iff]
            simp
          rw [this]; rfl
        rw [this]; decide
      omega
    have k1 := key (2 ^ nO σ - 1) 1 (by omega)
    rw [show (1 : Nat) = 0 + 1 from rfl, jm_a h0] at k1
    exact ⟨_, k1⟩
  · rw [hx] at hp; exact hp
theorem any6_step (f : Nat → Bool) {i : Nat} (hi : i < 6) : any6 (fun l => decide (l < i + 1) && f l) = (any6 (fun l => decide (l < i) && f l) || f i) := by
  rw [Bool.eq_iff_iff, Bool.or_eq_true, any6_iff, any6_iff]
  constructor
  · rintro ⟨l, hl, e⟩
    simp only [Bool.and_eq_true, decide_eq_true_eq] at e
    by_cases q : l = i
    · exact Or.inr (q ▸ e.2)
    · exact Or.inl ⟨l, hl, by simp only [Bool.and_eq_true, decide_eq_true_eq]; exact ⟨by omega, e.2⟩⟩
  · rintro (⟨l, hl, e⟩ | e)
    · simp only [Bool.and_eq_true, decide_eq_true_eq] at e
      exact ⟨l, hl, by simp only [Bool.and_eq_true, decide_eq_true_eq]; exact ⟨by omega, e.2⟩⟩
    · exact ⟨i, hi, by simp [e]⟩
theorem m_jam (hV : VS σ) (h : RM σ M) (x : Int32) {post : Int32 → Prop} (hp : post (jamA σ x)) : wp_X6_jam M x post := by
  have hL := hV.2.1
  have hn := hV.1
  have h64 := pow64 hn
  have hs : Vs (nO σ) (LO σ) (scO σ) := hV.2.2.2.1.1
  have hc : Ms (scO σ) (M.1.2 7) := h.2.2.2.1.1
  unfold jamA at hp
  unfold wp_X6_jam
  refine m_in (n := 8) (by decide) (by decide) (fun r hx hr ex => t1 ?_) (fun hx => f1 ?_)
  · rw [hx] at hp
    subst ex
    have key : ∀ k i, i + k = 2 ^ nO σ → wp_X6_jam_L19 post (nI r) M (k + 1) (oM (-9) (jm σ r i)) (nI i) := by
      intro k
      induction k with
      | zero =>
        intro i hi
        have : i = 2 ^ nO σ := by omega
        subst this
        rw [wp_X6_jam_L19, h.1, sh1 _ (by omega)]
        exact ⟨fun _ => hp, fun c => absurd (nI_le (Nat.le_refl _) (by omega)) c⟩
      | succ k ih =>
        intro i hi
        rw [wp_X6_jam_L19, h.1, sh1 _ (by omega)]
        have ih1 := ih (i + 1) (by omega)
        refine ⟨fun c => absurd c (nI_ge (by omega) (by omega)), fun _ => ?_⟩
        have k2 : ∀ d j, j + d = nO σ → wp_X6_jam_L35 post (fun x2 x3 => wp_X6_jam_L19 post (nI r) M (k + 1) x2 x3) (nI r) (oM (-9) (jm σ r i)) (nI i) M (d + 1) (nI (mk 8 fun l => any6 fun p => decide (p < j) && (i.testBit p && knO (scO σ) p l))) (nI j) := by
          intro d
          induction d with
          | zero =>
            intro j hj
            have : j = nO σ := by omega
            subst this
            rw [wp_X6_jam_L35, h.1, nI_1]
            refine ⟨fun _ => m_ring hs hL hc ?_, fun c => absurd (nI_le (Nat.le_refl _) (by omega)) c⟩
            have e : (mk 8 fun l => any6 fun p => decide (p < nO σ) && (i.testBit p && knO (scO σ) p l)) = mk 8 (kbB (scO σ) i.testBit) := mk_cg fun l _ => any6_cg fun p _ => by
              cases z : knO (scO σ) p l with
              | false => simp
              | true => have := (hs.2.2.1 p l z).1; simp [this]
            rw [e, fa_and, mk_and]
            refine on_ok (mk_8 _) ?_
            rw [ct_mk8]
            show (nI (jc σ i) ≤ nI r → _) ∧ (¬ nI (jc σ i) ≤ nI r → _)
            have hj : jc σ i ≤ 8 := ct_le _ 8
            rw [nI_leI (by omega) (by omega)]
            refine ⟨fun c2 => f2 ?_, fun c2 => ?_⟩
            · rw [jm_a c2] at ih1; exact ih1
            · cases z : jm σ r i with
              | none =>
                have : jm σ r (i + 1) = some i := jm_c (by rw [z]; show ¬ 7 ≤ _; have := ct6 i (by omega); omega) c2
                rw [this] at ih1
                exact ⟨fun _ => t2 ih1, fun c => absurd rfl c⟩
              | some b =>
                have hb := jm_lt i b z
                refine ⟨fun c => absurd c (n9 (by omega)), fun _ => on_ok (by omega) (on_ok (by omega) ?_)⟩
                have hb8 : ct 8 b.testBit ≤ 8 := ct_le _ 8
                have hi8 : ct 8 i.testBit ≤ 8 := ct_le _ 8
                rw [nI_leI (by omega) (by omega)]
                refine ⟨fun c3 => f2 ?_, fun c3 => t2 ?_⟩
                · rw [jm_b (by rw [z]; exact c3) (by omega), z] at ih1; exact ih1
                · rw [jm_c (by rw [z]; exact c3) c2] at ih1; exact ih1
          | succ d ihd =>
            intro j hj
            rw [wp_X6_jam_L35, h.1, show (26 : Int32) = nI 26 from rfl, nI_add, nI_clamp (by omega), hc.2.2.2.2.2 j (by omega), nI_1, nI_1]
            have i2 := ihd (j + 1) (by omega)
            refine ⟨fun c => absurd c (nI_ge (by omega) (by omega)), fun _ => m_has (by omega) (by omega) (fun q => t2 ⟨vp_in_nI (by omega) (by decide), ?_⟩) (fun q => f2 ?_)⟩
            · rw [fa_or, mk_or]
              have e : (mk 8 fun l => (any6 fun p => decide (p < j) && (i.testBit p && knO (scO σ) p l)) || knO (scO σ) j l) = mk 8 fun l => any6 fun p => decide (p < j + 1) && (i.testBit p && knO (scO σ) p l) := mk_cg fun l _ => by
                rw [any6_step _ (by omega), q]; simp
              rw [e]; exact i2
            · rw [or0]
              have e : (mk 8 fun l => any6 fun p => decide (p < j) && (i.testBit p && knO (scO σ) p l)) = mk 8 fun l => any6 fun p => decide (p < j + 1) && (i.testBit p && knO (scO σ) p l) := mk_cg fun l _ => by
                rw [any6_step _ (by omega), q]; simp
              rw [e]; exact i2
        have k3 := k2 (nO σ) 0 (by omega)
        have e : (mk 8 fun l => any6 fun p => decide (p < 0) && (i.testBit p && knO (scO σ) p l)) = 0 := by
          rw [show (fun l => any6 fun p => decide (p < 0) && (i.testBit p && knO (scO σ) p l)) = fun _ => false from by funext p; rw [← Bool.not_eq_true, any6_iff]; simp]
          decide
        rw [e] at k3
        exact ⟨_, k3⟩
    exact ⟨_, key (2 ^ nO σ) 0 (by omega)⟩
  · rw [hx] at hp; exact hp
end G
