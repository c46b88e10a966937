/-! ===== pure: odds; how near ===== -/
def eu : Nat → Nat → Nat → Nat
  | 0, a, _ => a
  | n + 1, a, b => if b = 0 then a else eu n b (a % b)
def eo : Nat → Nat → Nat → Option Nat
  | 0, _, _ => none
  | n + 1, a, b => if b = 0 then some a else eo n b (a % b)
theorem eu_tab : ∀ k, k < 7 → ∀ a, a < 11 → eu 64 (10 ^ k) (10 ^ k - a ^ k) ≠ 0 ∧ eu 64 (10 ^ k) (10 ^ k - a ^ k) ≤ 1000000 ∧ eo 66 (10 ^ k - a ^ k) (10 ^ k) = some (eu 64 (10 ^ k) (10 ^ k - a ^ k)) := by decide +kernel
def oddsA (σ : St) (x y : Int32) : Int32 :=
  match pOf 11 x, pOf 2 y with
  | some a, some b => nI ((if b = 0 then 10 ^ ct 6 (giB (scO σ) (inR (scO σ))) - a ^ ct 6 (giB (scO σ) (inR (scO σ))) else 10 ^ ct 6 (giB (scO σ) (inR (scO σ)))) / eu 64 (10 ^ ct 6 (giB (scO σ) (inR (scO σ)))) (10 ^ ct 6 (giB (scO σ) (inR (scO σ))) - a ^ ct 6 (giB (scO σ) (inR (scO σ)))))
  | _, _ => -1
theorem c_gcd {post : Int32 → Prop} {x0 x1 : Int32} : ∀ k i, i + k = 64 → ∀ a b, a < 2 ^ 31 → b < 2 ^ 31 → post (nI (eu k a b)) → wp_X5_greatestDivisor_L7 post x0 x1 (k + 1) (nI a) (nI b) (nI i) := by
  intro k
  induction k with
  | zero =>
    intro i hi a b ha hb hq
    have : i = 64 := by omega
    subst this
    rw [wp_X5_greatestDivisor_L7]
    exact ⟨fun _ => hq, fun c => absurd (by decide) c⟩
  | succ k ih =>
    intro i hi a b ha hb hq
    rw [wp_X5_greatestDivisor_L7, nI_1]
    refine ⟨fun c => absurd c (nI_ge (b := 64) (by omega) (by decide)), fun _ => ?_⟩
    unfold eu at hq
    by_cases q : b = 0
    · subst q
      exact ⟨fun _ => hq, fun c => absurd rfl c⟩
    · rw [if_neg q] at hq
      refine ⟨fun c => absurd c (nI_ne0 (by omega) hb), fun _ => ⟨nI_ne0 (by omega) hb, ?_⟩⟩
      rw [pk_rem ha (by omega) hb]
      exact ih (i + 1) (by omega) _ _ hb (Nat.lt_of_le_of_lt (Nat.le_of_lt (Nat.mod_lt _ (by omega))) hb) hq
theorem pow10 : ∀ k, k < 7 → 10 ^ k ≤ 1000000 := by decide
section G
variable {σ : St} {Z : GC} {M : Mo}
theorem c_odds (hV : VS σ) (h : RC σ Z) (x y : Int32) {post : Int32 → Prop} (hp : post (oddsA σ x y)) : wp_X5_odds Z x y post := by
  have hL := hV.2.1
  have hs : Vs (nO σ) (LO σ) (scO σ) := hV.2.2.2.1.1
  have hc : Cs (scO σ) (Z.2.1 3) := h.2.2.2.1.1
  unfold wp_X5_odds
  unfold oddsA at hp
  have hx' : pOf 11 x = none → post (-1) := fun hx => by rw [hx] at hp; exact hp
  have key : ∀ a, pOf 11 x = some a → a < 11 → x = nI a → ((y < 0 → post (-1)) ∧ (¬ y < 0 → ((y ≤ 1 → (wp_X3_whoGetsIn (Z.2.1 3) (fun r_5 => (wp_J6_bitCount_0f7a4 r_5 (fun r_6 => (∃ n44, wp_X5_odds_L44 post x y r_6 Z n44 1 1 0)))))) ∧ (¬ y ≤ 1 → post (-1))))) := by
    intro a hx ha ex
    rw [hx] at hp
    subst ex
    refine c_in3 (n := 1) (by decide) (fun b hy hb ey => ?_) (fun hy => by rw [hy] at hp; exact hp)
    rw [hy] at hp
    subst ey
    refine c_whoGetsIn hs hL hc (bc_ok (Nat.lt_of_lt_of_le (mk_6 _) (by decide)) ?_)
    rw [ct_mk6]
    have hk : ct 6 (giB (scO σ) (inR (scO σ))) ≤ 6 := ct_le _ 6
    obtain ⟨T1, T2, -⟩ := eu_tab _ (Nat.lt_succ_of_le hk) a ha
    have hle : a ^ ct 6 (giB (scO σ) (inR (scO σ))) ≤ 10 ^ ct 6 (giB (scO σ) (inR (scO σ))) := Nat.pow_le_pow_left (by omega) _
    have h10 := pow10 _ (Nat.lt_succ_of_le hk)
    generalize ct 6 (giB (scO σ) (inR (scO σ))) = k at *
    have key : ∀ d i, i + d = k → wp_X5_odds_L44 post (nI a) (nI b) (nI k) Z (d + 1) (nI (10 ^ i)) (nI (a ^ i)) (nI i) := by
      intro d
      induction d with
      | zero =>
        intro i hi
        have : i = k := by omega
        subst this
        rw [wp_X5_odds_L44, pk_sub hle]
        refine ⟨fun _ => ⟨65, c_gcd 64 0 rfl _ _ (by omega) (by omega) ?_⟩, fun c => absurd (nI_le (Nat.le_refl _) (by omega)) c⟩
        rw [pk_div (by omega) (by omega) (by omega), pk_div (by omega) (by omega) (by omega)]
        refine ⟨fun _ => ⟨fun c => ⟨nI_ne0 (by omega) (by omega), ?_⟩, fun c => ⟨nI_ne0 (by omega) (by omega), ?_⟩⟩, fun c => absurd c (nI_ne0 (by omega) (by omega))⟩
        · have : ¬ b = 0 := fun q => c (by rw [q]; rfl)
          simp only [this, if_false] at hp; exact hp
        · have : b = 0 := (nI_eq (b := 0) (by omega) (by decide)).mp c
          simp only [this, if_true] at hp; exact hp
      | succ d ih =>
        intro i hi
        rw [wp_X5_odds_L44, nI_1, show (10 : Int32) = nI 10 from rfl, pk_mul, pk_mul, ← Nat.pow_succ, ← Nat.pow_succ]
        exact ⟨fun c => absurd c (nI_ge (by omega) (by omega)), fun _ => ih (i + 1) (by omega)⟩
    exact ⟨_, key k 0 (by omega)⟩
  rcases pOf_cases 11 x (by decide) with ⟨a, ha, ex, hx⟩ | hx
  · have hk := key a hx ha ex
    refine ⟨fun c => absurd c (by rw [ex]; exact nI_pos (by omega)), fun _ => ⟨fun c => absurd c (by rw [ex]; exact nI_nlt (a := 10) (by omega) (by decide)), fun _ => hk⟩⟩
  · refine ⟨fun _ => hx' hx, fun c => ⟨fun _ => hx' hx, fun c2 => ?_⟩⟩
    exfalso
    obtain ⟨j, hj, e⟩ := nI_of c
    rw [e, show (10 : Int32) = nI 10 from rfl, nI_ltI (by decide) hj] at c2
    rw [e, pOf_some (by omega) (by decide)] at hx
    cases hx
theorem m_odds (hV : VS σ) (h : RM σ M) (x y : Int32) {post : Int32 → Prop} (hp : post (oddsA σ x y)) : wp_X6_odds M x y post := by
  have hL := hV.2.1
  have hs : Vs (nO σ) (LO σ) (scO σ) := hV.2.2.2.1.1
  have hc : Ms (scO σ) (M.1.2 7) := h.2.2.2.1.1
  unfold wp_X6_odds
  unfold oddsA at hp
  refine m_in (n := 11) (by decide) (by decide) (fun a hx ha ex => t2 ?_) (fun hx => f2 ?_)
  · rw [hx] at hp
    subst ex
    refine m_in (n := 2) (by decide) (by decide) (fun b hy hb ey => t1 ?_) (fun hy => f1 ?_)
    · rw [hy] at hp
      subst ey
      refine m_whoIn hs hL hV.1 h.1 hc (on_ok (Nat.lt_of_lt_of_le (mk_6 _) (by decide)) ?_)
      rw [ct_mk6]
      have hk : ct 6 (giB (scO σ) (inR (scO σ))) ≤ 6 := ct_le _ 6
      obtain ⟨T1, T2, T3⟩ := eu_tab _ (Nat.lt_succ_of_le hk) a ha
      have hle : a ^ ct 6 (giB (scO σ) (inR (scO σ))) ≤ 10 ^ ct 6 (giB (scO σ) (inR (scO σ))) := Nat.pow_le_pow_left (by omega) _
      have h10 := pow10 _ (Nat.lt_succ_of_le hk)
      generalize ct 6 (giB (scO σ) (inR (scO σ))) = k at *
      have key : ∀ d i, i + d = k → wp_X6_odds_L42 post (nI a) (nI b) M (d + 1) (nI (a ^ i)) (nI (10 ^ i)) (nI d) := by
        intro d
        induction d with
        | zero =>
          intro i hi
          have : i = k := by omega
          subst this
          rw [wp_X6_odds_L42]
          refine ⟨fun _ y ey => ?_, fun c => absurd (by decide) c⟩
          rw [pk_sub hle] at ey
          subst ey
          have k2 : ∀ n u v, u < 2 ^ 31 → v < 2 ^ 31 → eo n u v = some (eu 64 (10 ^ i) (10 ^ i - a ^ i)) → wp_X6_odds_L78 post (nI a) (nI b) (nI (a ^ i)) (nI (10 ^ i)) (nI (10 ^ i - a ^ i)) M n (nI u) (nI v) := by
            intro n
            induction n with
            | zero => intro u v _ _ e; cases e
            | succ n ih =>
              intro u v hu hv e
              rw [wp_X6_odds_L78]
              unfold eo at e
              by_cases q : v = 0
              · rw [if_pos q] at e
                have e : u = eu 64 (10 ^ i) (10 ^ i - a ^ i) := by simpa using e
                subst q
                rw [e]
                rw [pk_div (by omega) (by omega) (by omega), pk_div (by omega) (by omega) (by omega)]
                refine ⟨fun _ => ⟨fun c => ⟨nI_ne0 (by omega) (by omega), ?_⟩, fun c => ⟨nI_ne0 (by omega) (by omega), ?_⟩⟩, fun c => absurd rfl c⟩
                · have : ¬ b = 0 := fun q => c (by rw [q]; rfl)
                  simp only [this, if_false] at hp; exact hp
                · have : b = 0 := (nI_eq (b := 0) (by omega) (by decide)).mp c
                  simp only [this, if_true] at hp; exact hp
              · rw [if_neg q] at e
                rw [pk_rem hu (by omega) hv]
                exact ⟨fun c => absurd c (nI_ne0 (by omega) hv), fun _ => ⟨nI_ne0 (by omega) hv, ih _ _ hv (Nat.lt_of_le_of_lt (Nat.le_of_lt (Nat.mod_lt _ (by omega))) hv) e⟩⟩
          exact ⟨66, k2 66 _ _ (by omega) (by omega) T3⟩
        | succ d ih =>
          intro i hi
          rw [wp_X6_odds_L42, pk_m1, show (10 : Int32) = nI 10 from rfl, pk_mul, pk_mul, ← Nat.pow_succ, ← Nat.pow_succ]
          exact ⟨fun c => absurd c (nI_nle (by omega) (by omega)), fun _ => ih (i + 1) (by omega)⟩
      exact ⟨_, key k 0 (by omega)⟩
    · rw [hy] at hp; exact hp
  · rw [hx] at hp; exact hp
end G
/-! how near -/
def F6 (t : Nat) : Nat := [1, 2, 2, 2, 2, 1].getD t 0
theorem figs_F : ∀ t, t < 6 → figs t = nI (F6 t) := by decide
def nw (m : Nat) : Nat := sg (fun a => sg (fun b => sg (fun c => if a + b + c ≤ m then F6 a * F6 b * F6 c else 0) 6) 6) 6
def nearA (σ : St) (x y : Int32) : Int32 :=
  match pOf (LO σ) x, pOf 16 y with
  | some _, some m => nI (nw m)
  | _, _ => -1
theorem sg_cg {f g : Nat → Nat} : ∀ {n : Nat}, (∀ i, i < n → f i = g i) → sg f n = sg g n
  | 0, _ => rfl
  | n + 1, h => by unfold sg; rw [sg_cg (fun i hi => h i (by omega)), h n (by omega)]
theorem sg10 (f : Nat → Nat) : ∀ m, sg f (10 * m) = sg (fun q => sg (fun r => f (10 * q + r)) 10) m
  | 0 => rfl
  | m + 1 => by
    have ih := sg10 f m
    show sg f (10 * m + 10) = sg (fun q => sg (fun r => f (10 * q + r)) 10) m + sg (fun r => f (10 * m + r)) 10
    rw [← ih]
    simp only [sg, Nat.add_zero, Nat.zero_add]
    omega
theorem wheel {d : Nat} (hd : d < 10) (g : Nat → Nat) : sg (fun a => g (tn a d)) 10 = sg (fun t => F6 t * g t) 6 := by
  have hT : ∀ d, d < 10 → (List.range 10).map (fun a => tn a d) = [[0, 1, 2, 3, 4, 5, 4, 3, 2, 1], [1, 0, 1, 2, 3, 4, 5, 4, 3, 2], [2, 1, 0, 1, 2, 3, 4, 5, 4, 3], [3, 2, 1, 0, 1, 2, 3, 4, 5, 4], [4, 3, 2, 1, 0, 1, 2, 3, 4, 5], [5, 4, 3, 2, 1, 0, 1, 2, 3, 4], [4, 5, 4, 3, 2, 1, 0, 1, 2, 3], [3, 4, 5, 4, 3, 2, 1, 0, 1, 2], [2, 3, 4, 5, 4, 3, 2, 1, 0, 1], [1, 2, 3, 4, 5, 4, 3, 2, 1, 0]].getD d [] := by decide
  have hS : ∀ l : List Nat, (List.range 10).map (fun a => tn a d) = l → sg (fun a => g (tn a d)) 10 = (l.map g).foldl (· + ·) 0 := by
    intro l e
    rw [← e]
    rfl
  rw [hS _ (hT d hd)]
  have hF : sg (fun t => F6 t * g t) 6 = g 0 + 2 * g 1 + 2 * g 2 + 2 * g 3 + 2 * g 4 + g 5 := by
    show 0 + 1 * g 0 + 2 * g 1 + 2 * g 2 + 2 * g 3 + 2 * g 4 + 1 * g 5 = _
    omega
  rw [hF]
  rcases (show d = 0 ∨ d = 1 ∨ d = 2 ∨ d = 3 ∨ d = 4 ∨ d = 5 ∨ d = 6 ∨ d = 7 ∨ d = 8 ∨ d = 9 by omega) with rfl | rfl | rfl | rfl | rfl | rfl | rfl | rfl | rfl | rfl <;> simp [List.getD] <;> omega
def W6 (m : Nat) : Nat := sg (fun t2 => F6 t2 * sg (fun t1 => F6 t1 * sg (fun t0 => F6 t0 * (if t0 + t1 + t2 ≤ m then 1 else 0)) 6) 6) 6
theorem W6_nw : ∀ m, m < 16 → W6 m = nw m := by decide +kernel
theorem near_eq {b : Nat} (hb : b < 1000) (m : Nat) : sg (fun x => if st x b ≤ m then 1 else 0) 1000 = W6 m := by
  rw [show 1000 = 10 * 100 from rfl, sg10, show 100 = 10 * 10 from rfl, sg10]
  unfold W6
  rw [← wheel (fg_lt hb 2) (fun t2 => sg (fun t1 => F6 t1 * sg (fun t0 => F6 t0 * (if t0 + t1 + t2 ≤ m then 1 else 0)) 6) 6)]
  refine sg_cg fun p hp => ?_
  rw [← wheel (fg_lt hb 1) (fun t1 => sg (fun t0 => F6 t0 * (if t0 + t1 + tn p (fg b 2) ≤ m then 1 else 0)) 6)]
  refine sg_cg fun q hq => ?_
  rw [← wheel (fg_lt hb 0) (fun t0 => if t0 + tn q (fg b 1) + tn p (fg b 2) ≤ m then 1 else 0)]
  refine sg_cg fun r hr => ?_
  have e0 : fg (10 * (10 * p + q) + r) 0 = r := by show (10 * (10 * p + q) + r) % 10 = r; omega
  have e1 : fg (10 * (10 * p + q) + r) 1 = q := by show (10 * (10 * p + q) + r) / 10 % 10 = q; omega
  have e2 : fg (10 * (10 * p + q) + r) 2 = p := by show (10 * (10 * p + q) + r) / 100 = p; omega
  have es : st (10 * (10 * p + q) + r) b = tn r (fg b 0) + tn q (fg b 1) + tn p (fg b 2) := by
    unfold st
    simp only [sg, Nat.zero_add]
    rw [e0, e1, e2]
  rw [es]
section G
variable {σ : St} {Z : GC} {M : Mo}
theorem c_within {m : Nat} (hm : m < 16) {post : Int32 → Prop} (hp : post (nI (nw m))) : wp_X5_numbersWithin (nI m) post := by
  have k25 : ∀ (K4 K14 : Int32 → Int32 → Prop) (a b acc : Nat), a < 6 → b < 6 → K14 (nI (acc + sg (fun c => if a + b + c ≤ m then F6 a * F6 b * F6 c else 0) 6)) (nI (b + 1)) → ∀ k i, i + k = 6 → wp_X5_numbersWithin_L25 post K4 K14 (nI m) (nI a) (nI b) (k + 1) (nI (acc + sg (fun c => if a + b + c ≤ m then F6 a * F6 b * F6 c else 0) i)) (nI i) := by
    intro K4 K14 a b acc ha hb hK k
    induction k with
    | zero =>
      intro i hi
      have : i = 6 := by omega
      subst this
      rw [wp_X5_numbersWithin_L25, nI_1]
      exact ⟨fun _ => hK, fun c => absurd (by decide) c⟩
    | succ k ih =>
      intro i hi
      rw [wp_X5_numbersWithin_L25, nI_add, nI_add, nI_1, nI_1, nI_ltI (by omega) (by omega), nI_clamp (by omega), nI_clamp (by omega), nI_clamp (by omega), figs_F a ha, figs_F b hb, figs_F i (by omega), pk_mul, pk_mul, nI_add]
      have ih1 := ih (i + 1) (by omega)
      simp only [sg] at ih1
      refine ⟨fun c => absurd c (nI_ge (b := 6) (by omega) (by decide)), fun _ => ⟨fun c => ?_, fun c => ⟨vp_in_nI ha (by decide), vp_in_nI hb (by decide), vp_in_nI (by omega) (by decide), fun y ey => ?_⟩⟩⟩
      · rw [if_neg (by omega), Nat.add_zero] at ih1; exact ih1
      · rw [if_pos (by omega), ← Nat.add_assoc] at ih1
        rw [ey]; exact ih1
  have k14 : ∀ (K4 : Int32 → Int32 → Prop) (a acc : Nat), a < 6 → K4 (nI (acc + sg (fun b => sg (fun c => if a + b + c ≤ m then F6 a * F6 b * F6 c else 0) 6) 6)) (nI (a + 1)) → ∀ k i, i + k = 6 → wp_X5_numbersWithin_L14 post K4 (nI m) (nI a) (k + 1) (nI (acc + sg (fun b => sg (fun c => if a + b + c ≤ m then F6 a * F6 b * F6 c else 0) 6) i)) (nI i) := by
    intro K4 a acc ha hK k
    induction k with
    | zero =>
      intro i hi
      have : i = 6 := by omega
      subst this
      rw [wp_X5_numbersWithin_L14, nI_1]
      exact ⟨fun _ => hK, fun c => absurd (by decide) c⟩
    | succ k ih =>
      intro i hi
      rw [wp_X5_numbersWithin_L14]
      have ih1 := ih (i + 1) (by omega)
      unfold sg at ih1
      rw [← Nat.add_assoc] at ih1
      refine ⟨fun c => absurd c (nI_ge (b := 6) (by omega) (by decide)), fun _ => ⟨7, ?_⟩⟩
      exact k25 K4 (fun x1 x3 => wp_X5_numbersWithin_L14 post K4 (nI m) (nI a) (k + 1) x1 x3) a i _ ha (by omega) ih1 6 0 rfl
  have k4 : ∀ k i, i + k = 6 → wp_X5_numbersWithin_L4 post (nI m) (k + 1) (nI (sg (fun a => sg (fun b => sg (fun c => if a + b + c ≤ m then F6 a * F6 b * F6 c else 0) 6) 6) i)) (nI i) := by
    intro k
    induction k with
    | zero =>
      intro i hi
      have : i = 6 := by omega
      subst this
      rw [wp_X5_numbersWithin_L4]
      exact ⟨fun _ => hp, fun c => absurd (by decide) c⟩
    | succ k ih =>
      intro i hi
      rw [wp_X5_numbersWithin_L4]
      have ih1 := ih (i + 1) (by omega)
      unfold sg at ih1
      refine ⟨fun c => absurd c (nI_ge (b := 6) (by omega) (by decide)), fun _ => ⟨7, ?_⟩⟩
      exact k14 (fun x1 x2 => wp_X5_numbersWithin_L4 post (nI m) (k + 1) x1 x2) i _ (by omega) ih1 6 0 rfl
  exact ⟨7, k4 6 0 rfl⟩
theorem c_near (hV : VS σ) (h : RC σ Z) (x y : Int32) {post : Int32 → Prop} (hp : post (nearA σ x y)) : wp_X5_near Z x y post := by
  unfold wp_X5_near
  unfold nearA at hp
  refine c_isLock hV h (fun l hx hl ex => t2 ?_) (fun hx => f2 ?_)
  · rw [hx] at hp
    refine c_in3 (n := 15) (by decide) (fun m hy hm ey => ?_) (fun hy => by rw [hy] at hp; exact hp)
    rw [hy] at hp
    subst ey
    exact c_within hm hp
  · rw [hx] at hp; exact hp
theorem st_le {a b : Nat} (ha : a < 1000) (hb : b < 1000) : st a b ≤ 15 := by
  have t : ∀ a, a < 10 → ∀ b, b < 10 → tn a b ≤ 5 := by decide
  unfold st
  simp only [sg]
  have := t _ (fg_lt ha 0) _ (fg_lt hb 0)
  have := t _ (fg_lt ha 1) _ (fg_lt hb 1)
  have := t _ (fg_lt ha 2) _ (fg_lt hb 2)
  omega
theorem m_near (hV : VS σ) (h : RM σ M) (x y : Int32) {post : Int32 → Prop} (hp : post (nearA σ x y)) : wp_X6_near M x y post := by
  have hL := hV.2.1
  have hs : Vs (nO σ) (LO σ) (scO σ) := hV.2.2.2.1.1
  have hc : Ms (scO σ) (M.1.2 7) := h.2.2.2.1.1
  unfold wp_X6_near
  unfold nearA at hp
  refine m_isLock hV h (fun l hx hl ex => t2 ?_) (fun hx => f2 ?_)
  · rw [hx] at hp
    subst ex
    refine m_in (n := 16) (by decide) (by decide) (fun m hy hm ey => t1 ?_) (fun hy => f1 ?_)
    · rw [hy] at hp
      subst ey
      have hb := hs.2.2.2.2.1 l
      have key : ∀ k i, i + k = 1000 → wp_X6_near_L27 post (nI l) (nI m) M (k + 1) (nI (sg (fun x => if st x (shO (scO σ) l) ≤ m then 1 else 0) i)) (nI i) := by
        intro k
        induction k with
        | zero =>
          intro i hi
          have : i = 1000 := by omega
          subst this
          rw [wp_X6_near_L27]
          refine ⟨fun _ => ?_, fun c => absurd (by decide) c⟩
          rw [near_eq hb, W6_nw m hm]; exact hp
        | succ k ih =>
          intro i hi
          rw [wp_X6_near_L27, show (18 : Int32) = nI 18 from rfl, nI_add, nI_clamp (by omega), hc.2.2.2.2.1 l (by omega)]
          have ih1 := ih (i + 1) (by omega)
          simp only [sg] at ih1
          refine ⟨fun c => absurd c (nI_ge (b := 1000) (by omega) (by decide)), fun _ => ⟨vp_in_nI (by omega) (by decide), m_steps (by omega) hb ?_⟩⟩
          have h15 := st_le (a := i) (by omega) hb
          rw [nI_ltI (by omega) (by omega)]
          refine ⟨fun c => ?_, fun c => ?_⟩
          · rw [if_neg (by omega)] at ih1
            rw [show (0 : Int32) = nI 0 from rfl, nI_add, nI_1]; exact ih1
          · rw [if_pos (by omega)] at ih1
            rw [nI_1, nI_1]; exact ih1
      exact ⟨_, key 1000 0 rfl⟩
    · rw [hy] at hp; exact hp
  · rw [hx] at hp; exact hp
end G
