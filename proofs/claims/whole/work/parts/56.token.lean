/-! ===== pure: tokens ===== -/
def isSp (c : Nat) : Bool := decide (c = 32)
def isLt (c : Nat) : Bool := decide (97 ≤ c ∧ c ≤ 122)
def isFg (c : Nat) : Bool := decide (48 ≤ c ∧ c ≤ 57)
/-- how far it goes on -/
def sc (p : Nat → Bool) (b : Nat → Nat) : Nat → Nat → Nat
  | 0, j => j
  | k + 1, j => if p (b j) = true then sc p b k (j + 1) else j
theorem sc_t {p : Nat → Bool} {b : Nat → Nat} {k j : Nat} (h : p (b j) = true) : sc p b (k + 1) j = sc p b k (j + 1) := if_pos h
theorem sc_f {p : Nat → Bool} {b : Nat → Nat} {k j : Nat} (h : p (b j) = false) : sc p b (k + 1) j = j := if_neg (by rw [h]; decide)
theorem sc_le (p : Nat → Bool) (b : Nat → Nat) : ∀ k j, j ≤ sc p b k j ∧ sc p b k j ≤ j + k
  | 0, j => ⟨Nat.le_refl _, Nat.le_refl _⟩
  | k + 1, j => by
    have := sc_le p b k (j + 1)
    cases h : p (b j) with
    | true => rw [sc_t h]; omega
    | false => rw [sc_f h]; omega
theorem sc_all (p : Nat → Bool) (b : Nat → Nat) : ∀ k j i, j ≤ i → i < sc p b k j → p (b i) = true
  | 0, j, i, h1, h2 => by have h2 : i < j := h2; omega
  | k + 1, j, i, h1, h2 => by
    cases h : p (b j) with
    | true =>
      rw [sc_t h] at h2
      by_cases e : i = j
      · rw [e]; exact h
      · exact sc_all p b k (j + 1) i (by omega) h2
    | false => rw [sc_f h] at h2; omega
/-- the value of m figures, at most 1000 -/
def cvf (b : Nat → Nat) : Nat → Nat → Nat → Nat
  | 0, _, v => v
  | m + 1, j, v => cvf b m (j + 1) (if 1000 < v * 10 + (b j - 48) then 1000 else v * 10 + (b j - 48))
theorem cvf_1000 (b : Nat → Nat) : ∀ m j, cvf b m j 1000 = 1000
  | 0, _ => rfl
  | m + 1, j => by
    unfold cvf
    rw [if_pos (by omega)]
    exact cvf_1000 b m (j + 1)
theorem cvf_le (b : Nat → Nat) : ∀ m j v, v ≤ 1000 → cvf b m j v ≤ 1000
  | 0, _, v, h => h
  | m + 1, j, v, h => by
    unfold cvf
    refine cvf_le b m (j + 1) _ ?_
    split <;> omega
theorem cvf_big {b : Nat → Nat} {a : Nat} (m : Nat) (h : 48 < b a) : cvf b (m + 4) a 0 = 1000 := by
  unfold cvf cvf cvf cvf
  have e : (if 1000 < (if 1000 < (if 1000 < (if 1000 < 0 * 10 + (b a - 48) then 1000 else 0 * 10 + (b a - 48)) * 10 + (b (a + 1) - 48) then 1000 else (if 1000 < 0 * 10 + (b a - 48) then 1000 else 0 * 10 + (b a - 48)) * 10 + (b (a + 1) - 48)) * 10 + (b (a + 1 + 1) - 48) then 1000 else (if 1000 < (if 1000 < 0 * 10 + (b a - 48) then 1000 else 0 * 10 + (b a - 48)) * 10 + (b (a + 1) - 48) then 1000 else (if 1000 < 0 * 10 + (b a - 48) then 1000 else 0 * 10 + (b a - 48)) * 10 + (b (a + 1) - 48)) * 10 + (b (a + 1 + 1) - 48)) * 10 + (b (a + 1 + 1 + 1) - 48) then 1000 else (if 1000 < (if 1000 < (if 1000 < 0 * 10 + (b a - 48) then 1000 else 0 * 10 + (b a - 48)) * 10 + (b (a + 1) - 48) then 1000 else (if 1000 < 0 * 10 + (b a - 48) then 1000 else 0 * 10 + (b a - 48)) * 10 + (b (a + 1) - 48)) * 10 + (b (a + 1 + 1) - 48) then 1000 else (if 1000 < (if 1000 < 0 * 10 + (b a - 48) then 1000 else 0 * 10 + (b a - 48)) * 10 + (b (a + 1) - 48) then 1000 else (if 1000 < 0 * 10 + (b a - 48) then 1000 else 0 * 10 + (b a - 48)) * 10 + (b (a + 1) - 48)) * 10 + (b (a + 1 + 1) - 48)) * 10 + (b (a + 1 + 1 + 1) - 48)) = 1000 := by
    have s1 : ∃ v1, (if 1000 < 0 * 10 + (b a - 48) then 1000 else 0 * 10 + (b a - 48)) = v1 ∧ 1 ≤ v1 ∧ v1 ≤ 1000 := ⟨_, rfl, by split <;> omega, by split <;> omega⟩
    obtain ⟨v1, e1, l1, u1⟩ := s1
    rw [e1]
    have s2 : ∃ v2, (if 1000 < v1 * 10 + (b (a + 1) - 48) then 1000 else v1 * 10 + (b (a + 1) - 48)) = v2 ∧ 10 ≤ v2 ∧ v2 ≤ 1000 := ⟨_, rfl, by split <;> omega, by split <;> omega⟩
    obtain ⟨v2, e2, l2, u2⟩ := s2
    rw [e2]
    have s3 : ∃ v3, (if 1000 < v2 * 10 + (b (a + 1 + 1) - 48) then 1000 else v2 * 10 + (b (a + 1 + 1) - 48)) = v3 ∧ 100 ≤ v3 ∧ v3 ≤ 1000 := ⟨_, rfl, by split <;> omega, by split <;> omega⟩
    obtain ⟨v3, e3, l3, u3⟩ := s3
    rw [e3]
    split <;> omega
  rw [e]
  exact cvf_1000 b m _
/-- the same by the model: three figures count -/
def mvf (b : Nat → Nat) : Nat → Nat → Nat → Nat → Nat
  | 0, _, _, v => v
  | m + 1, j, i, v => mvf b m (j + 1) (i + 1) (if 3 ≤ i then v else 10 * v + (b j - 48))
theorem fgd {c : Nat} (h : isFg c = true) : 48 ≤ c ∧ c ≤ 57 := by unfold isFg at h; simpa using h
theorem mvf_cvf {b : Nat → Nat} {a m : Nat} (hm : m ≤ 3) (hd : ∀ i, a ≤ i → i < a + m → isFg (b i) = true) : mvf b m a 0 0 = cvf b m a 0 ∧ cvf b m a 0 < 1000 := by
  rcases (show m = 0 ∨ m = 1 ∨ m = 2 ∨ m = 3 by omega) with rfl | rfl | rfl | rfl
  · exact ⟨rfl, Nat.zero_lt_succ _⟩
  · have h0 := fgd (hd a (by omega) (by omega))
    simp only [mvf, cvf]
    rw [if_neg (by decide), if_neg (by omega)]
    omega
  · have h0 := fgd (hd a (by omega) (by omega))
    have h1 := fgd (hd (a + 1) (by omega) (by omega))
    simp only [mvf, cvf]
    rw [if_neg (by decide), if_neg (by decide), if_neg (show ¬ 1000 < 0 * 10 + (b a - 48) by omega), if_neg (by omega)]
    omega
  · have h0 := fgd (hd a (by omega) (by omega))
    have h1 := fgd (hd (a + 1) (by omega) (by omega))
    have h2 := fgd (hd (a + 1 + 1) (by omega) (by omega))
    simp only [mvf, cvf]
    rw [if_neg (by decide), if_neg (by decide), if_neg (by decide), if_neg (show ¬ 1000 < 0 * 10 + (b a - 48) by omega), if_neg (show ¬ 1000 < (0 * 10 + (b a - 48)) * 10 + (b (a + 1) - 48) by omega), if_neg (by omega)]
    omega
/-- kind (0 none, 1 letters, 2 figures, 3 a semicolon, 4 wrong), value, place, where it goes on -/
abbrev Tk : Type := Nat × Nat × Nat × Nat
def nx1 (N : Nat) (b : Nat → Nat) (a : Nat) : Tk :=
  if N ≤ a then (0, 0, a, a)
  else if isLt (b a) = true then (1, (if sc isLt b (N - a) a - a = 1 then b a else 0), a, sc isLt b (N - a) a)
  else if isFg (b a) = true then (if 4 ≤ sc isFg b (N - a) a - a ∨ (b a = 48 ∧ sc isFg b (N - a) a - a ≠ 1) then (4, 0, a, sc isFg b (N - a) a) else (2, cvf b (sc isFg b (N - a) a - a) a 0, a, sc isFg b (N - a) a))
  else if b a = 59 then (3, 0, a, a + 1)
  else (4, 0, a, a)
def nx (N : Nat) (b : Nat → Nat) (a : Nat) : Tk := nx1 N b (sc isSp b (N - a) a)
/-- what is sure of a token -/
theorem nx1_ok {N : Nat} {b : Nat → Nat} {a : Nat} (ha : a ≤ N) : (nx1 N b a).2.2.1 = a ∧ (nx1 N b a).2.2.2 ≤ N ∧ ((nx1 N b a).1 = 0 → a = N) ∧ ((nx1 N b a).1 ≠ 0 → a < N) ∧ ((nx1 N b a).1 = 1 ∨ (nx1 N b a).1 = 2 ∨ (nx1 N b a).1 = 3 → a < (nx1 N b a).2.2.2) ∧ ((nx1 N b a).1 = 2 → (nx1 N b a).2.1 < 1000) ∧ (nx1 N b a).1 ≤ 4 := by
  unfold nx1
  by_cases h0 : N ≤ a
  · rw [if_pos h0]
    refine ⟨rfl, ha, fun _ => by omega, fun c => absurd rfl c, fun c => ?_, fun c => (by cases c), Nat.zero_le _⟩
    rcases c with c | c | c <;> cases c
  · rw [if_neg h0]
    have hk : N - a = (N - a - 1) + 1 := by omega
    by_cases h1 : isLt (b a) = true
    · rw [if_pos h1]
      have l := sc_le isLt b (N - a - 1) (a + 1)
      have e : sc isLt b (N - a) a = sc isLt b (N - a - 1) (a + 1) := by
        conv => lhs; rw [hk]
        exact sc_t h1
      rw [e]
      exact ⟨rfl, by show sc isLt b (N - a - 1) (a + 1) ≤ N; omega, fun c => (by cases c), fun _ => by omega, fun _ => by show a < sc isLt b (N - a - 1) (a + 1); omega, fun c => (by cases c), by show 1 ≤ 4; decide⟩
    · rw [if_neg h1]
      by_cases h2 : isFg (b a) = true
      · rw [if_pos h2]
        have l := sc_le isFg b (N - a - 1) (a + 1)
        have e : sc isFg b (N - a) a = sc isFg b (N - a - 1) (a + 1) := by
          conv => lhs; rw [hk]
          exact sc_t h2
        by_cases h3 : 4 ≤ sc isFg b (N - a) a - a ∨ (b a = 48 ∧ sc isFg b (N - a) a - a ≠ 1)
        · rw [if_pos h3]
          refine ⟨rfl, by show sc isFg b (N - a) a ≤ N; omega, fun c => (by cases c), fun _ => by omega, fun c => ?_, fun c => (by cases c), Nat.le_refl _⟩
          rcases c with c | c | c <;> cases c
        · rw [if_neg h3]
          refine ⟨rfl, by show sc isFg b (N - a) a ≤ N; omega, fun c => (by cases c), fun _ => by omega, fun _ => by show a < sc isFg b (N - a) a; omega, fun _ => ?_, by show 2 ≤ 4; decide⟩
          exact (mvf_cvf (by omega) (fun i h1 h2 => sc_all isFg b (N - a) a i h1 (by omega))).2
      · rw [if_neg h2]
        by_cases h3 : b a = 59
        · rw [if_pos h3]
          exact ⟨rfl, by show a + 1 ≤ N; omega, fun c => (by cases c), fun _ => by omega, fun _ => by show a < a + 1; omega, fun c => (by cases c), by show 3 ≤ 4; decide⟩
        · rw [if_neg h3]
          refine ⟨rfl, ha, fun c => (by cases c), fun _ => by omega, fun c => ?_, fun c => (by cases c), Nat.le_refl _⟩
          rcases c with c | c | c <;> cases c
theorem nx_ok {N : Nat} {b : Nat → Nat} {a : Nat} (ha : a ≤ N) : a ≤ (nx N b a).2.2.1 ∧ (nx N b a).2.2.1 ≤ N ∧ (nx N b a).2.2.2 ≤ N ∧ ((nx N b a).1 = 0 → (nx N b a).2.2.1 = N) ∧ ((nx N b a).1 ≠ 0 → (nx N b a).2.2.1 < N) ∧ ((nx N b a).1 = 1 ∨ (nx N b a).1 = 2 ∨ (nx N b a).1 = 3 → (nx N b a).2.2.1 < (nx N b a).2.2.2) ∧ ((nx N b a).1 = 2 → (nx N b a).2.1 < 1000) ∧ (nx N b a).1 ≤ 4 := by
  have l := sc_le isSp b (N - a) a
  obtain ⟨h1, h2, h3, h4, h5, h6, h7⟩ := nx1_ok (N := N) (b := b) (a := sc isSp b (N - a) a) (by omega)
  unfold nx
  rw [h1]
  exact ⟨l.1, by omega, h2, h3, h4, h5, h6, h7⟩
def CT (τ : Tk) (S : Ob) : Prop := S.1 3 = nI τ.1 ∧ S.1 4 = nI τ.2.2.1 ∧ (τ.1 = 1 ∨ τ.1 = 2 → S.1 5 = nI τ.2.1) ∧ (τ.1 ≠ 4 → S.1 2 = nI τ.2.2.2)
section C
variable {N : Nat} {b : Nat → Nat} {S : Ob}
theorem f_lt {v : Nat} {x : Int32} (hv : v < 2 ^ 31) (hx : x = nI v) {n : Nat} (hn : n < 2 ^ 31) : (x < nI n ↔ v < n) := by rw [hx]; exact nI_ltI hv hn
theorem c_letters (hN : N ≤ 150) (hb : ∀ i, b i < 256) (ht : TX (N, b) (S.1 1) (S.2 0)) {a : Nat} (ha : S.1 2 = nI a) (hp4 : S.1 4 = nI a) (haN : a < N) {post : Ob → Prop} (hp : ∀ S', S'.1 3 = nI 1 → S'.1 4 = nI a → S'.1 5 = nI (if sc isLt b (N - a) a - a = 1 then b a else 0) → S'.1 2 = nI (sc isLt b (N - a) a) → S'.1 1 = S.1 1 → S'.2 = S.2 → post S') : wp_X4_takeLetters S post := by
  have ht1 : S.1 1 = nI N := ht.1
  have ht2 : ∀ i, i < N → S.2 0 i = nI (b i) := ht.2
  have key : ∀ k j, j + k = N → a ≤ j → ∀ S1 : Ob, S1.1 1 = S.1 1 → S1.2 = S.2 → S1.1 3 = nI 1 → S1.1 4 = nI a → S1.1 2 = nI j → sc isLt b k j = sc isLt b (N - a) a → wp_X4_takeLetters_L15 post (nI (b a)) (k + 1) S1 := by
    intro k
    induction k with
    | zero =>
      intro j hj haj S1 a1 a2 a3 a4 a5 a6
      have e : j = N := by omega
      have a6 : j = sc isLt b (N - a) a := a6
      rw [← a6] at hp
      rw [wp_X4_takeLetters_L15, a1, ht1, a5, a4, pk_sub haj, show (1 : Int32) = nI 1 from rfl, nI_eq (by omega) (by decide)]
      refine ⟨fun _ => ⟨fun c => hp _ a3 a4 ?_ a5 a1 a2, fun c => hp _ a3 a4 ?_ a5 a1 a2⟩, fun c => absurd (nI_le (by omega) (by omega)) c⟩
      · rw [if_neg c]; rfl
      · rw [if_pos c]; rfl
    | succ k ih =>
      intro j hj haj S1 a1 a2 a3 a4 a5 a6
      have hbj := hb j
      rw [wp_X4_takeLetters_L15, a1, ht1, a5, a4, pk_sub haj, show (1 : Int32) = nI 1 from rfl, nI_eq (by omega) (by decide), nI_clamp (by omega), a2, ht2 j (by omega), show (97 : Int32) = nI 97 from rfl, show (122 : Int32) = nI 122 from rfl, nI_ltI (by omega) (by decide), nI_ltI (by decide) (by omega)]
      have fin : isLt (b j) = false → (¬ j - a = 1 → post (pf S1 5 0)) ∧ (j - a = 1 → post (pf S1 5 (nI (b a)))) := by
        intro hf
        rw [sc_f hf] at a6
        rw [← a6] at hp
        refine ⟨fun c => hp _ a3 a4 ?_ a5 a1 a2, fun c => hp _ a3 a4 ?_ a5 a1 a2⟩
        · rw [if_neg c]; rfl
        · rw [if_pos c]; rfl
      refine ⟨fun c => absurd c (nI_ge (by omega) (by omega)), fun _ => ⟨vp_in_nI (by omega) (by decide), fun c => fin (by simp [isLt]; omega), fun c => ⟨vp_in_nI (by omega) (by decide), fun c2 => fin (by simp [isLt]; omega), fun c2 => ?_⟩⟩⟩
      have hf : isLt (b j) = true := by simp [isLt]; omega
      rw [sc_t hf] at a6
      exact ih (j + 1) (by omega) (by omega) _ a1 a2 a3 a4 (by show nI j + nI 1 = _; rw [nI_add]) a6
  unfold wp_X4_takeLetters
  have e2 : (pf S 3 1).1 2 = nI a := ha
  rw [e2, nI_clamp (by omega)]
  refine ⟨vp_in_nI (by omega) (by decide), fun y1 e1 => ?_⟩
  have e3 : y1 = nI (b a) := by rw [e1]; exact ht2 a haN
  subst e3
  exact ⟨N - a + 1, key (N - a) a (by omega) (Nat.le_refl _) _ rfl rfl rfl hp4 ha rfl⟩
theorem c_number (hN : N ≤ 150) (hb : ∀ i, b i < 256) (ht : TX (N, b) (S.1 1) (S.2 0)) {a : Nat} (ha : S.1 2 = nI a) (hp4 : S.1 4 = nI a) (hp5 : S.1 5 = 0) (haN : a < N) (hfa : isFg (b a) = true) {post : Ob → Prop}
    (hp : ∀ S', S'.1 4 = nI a → S'.1 2 = nI (sc isFg b (N - a) a) → S'.1 1 = S.1 1 → S'.2 = S.2 → (if 4 ≤ sc isFg b (N - a) a - a ∨ (b a = 48 ∧ sc isFg b (N - a) a - a ≠ 1) then S'.1 3 = nI 4 else S'.1 3 = nI 2 ∧ S'.1 5 = nI (cvf b (sc isFg b (N - a) a - a) a 0)) → post S') : wp_X4_takeNumber S post := by
  have ht1 : S.1 1 = nI N := ht.1
  have ht2 : ∀ i, i < N → S.2 0 i = nI (b i) := ht.2
  have hlen := sc_le isFg b (N - a) a
  have hpos : a < sc isFg b (N - a) a := by
    have e : sc isFg b (N - a) a = sc isFg b (N - a - 1) (a + 1) := by
      conv => lhs; rw [show N - a = N - a - 1 + 1 by omega]
      exact sc_t hfa
    have := sc_le isFg b (N - a - 1) (a + 1)
    omega
  have hall := sc_all isFg b (N - a) a
  have fin : ∀ (z : Int32) (S1 : Ob), (z = 1 ∧ b a = 48 ∨ z = 0 ∧ b a ≠ 48) → S1.1 1 = S.1 1 → S1.2 = S.2 → S1.1 4 = nI a → S1.1 2 = nI (sc isFg b (N - a) a) → S1.1 5 = nI (cvf b (sc isFg b (N - a) a - a) a 0) → wp_X4_takeNumber_J102 post z S1 := by
    intro z S1 hz a1 a2 a3 a4 a5
    generalize sc isFg b (N - a) a = e at *
    have hcle : cvf b (e - a) a 0 ≤ 1000 := cvf_le b _ _ _ (by decide)
    have good : ¬ (4 ≤ e - a ∨ (b a = 48 ∧ e - a ≠ 1)) → post (pf S1 3 2) := fun c => by
      refine hp _ a3 a4 a1 a2 ?_
      rw [if_neg c]
      exact ⟨rfl, a5⟩
    have bad : (4 ≤ e - a ∨ (b a = 48 ∧ e - a ≠ 1)) → post (pf S1 3 4) := fun c => by
      refine hp _ a3 a4 a1 a2 ?_
      rw [if_pos c]
      rfl
    unfold wp_X4_takeNumber_J102
    rw [a5, a4, a3, pk_sub (by omega), show (1000 : Int32) = nI 1000 from rfl, nI_leI (by decide) (by omega)]
    refine ⟨fun c => f2 (bad ?_), fun c => ⟨fun c2 => t2 (good ?_), fun c2 => ⟨fun c3 => f2 (bad ?_), fun c3 => t2 (good ?_)⟩⟩⟩
    · by_cases q : 4 ≤ e - a
      · exact Or.inl q
      · exfalso
        have := (mvf_cvf (b := b) (a := a) (m := e - a) (by omega) (fun i h1 h2 => hall i h1 (by omega))).2
        omega
    · rcases hz with ⟨rfl, -⟩ | ⟨-, h48⟩
      · exact absurd c2 (by decide)
      · intro q
        rcases q with q | q
        · obtain ⟨m, hm⟩ : ∃ m, e - a = m + 4 := ⟨e - a - 4, by omega⟩
          have := fgd hfa
          rw [hm, cvf_big m (by omega)] at c
          omega
        · exact h48 q.1
    · rcases hz with ⟨-, h48⟩ | ⟨rfl, -⟩
      · rw [show (1 : Int32) = nI 1 from rfl, nI_ltI (by decide) (by omega)] at c3
        exact Or.inr ⟨h48, by omega⟩
      · exact absurd rfl c2
    · rw [show (1 : Int32) = nI 1 from rfl, nI_ltI (by decide) (by omega)] at c3
      omega
  have key : ∀ (z : Int32), (z = 1 ∧ b a = 48 ∨ z = 0 ∧ b a ≠ 48) → ∀ k j v, j + k = N → a ≤ j → v ≤ 1000 → ∀ S1 : Ob, S1.1 1 = S.1 1 → S1.2 = S.2 → S1.1 4 = nI a → S1.1 2 = nI j → S1.1 5 = nI v → sc isFg b k j = sc isFg b (N - a) a → cvf b (sc isFg b (N - a) a - j) j v = cvf b (sc isFg b (N - a) a - a) a 0 → wp_X4_takeNumber_L20 post z (k + 1) S1 := by
    intro z hz k
    induction k with
    | zero =>
      intro j v hj haj hv S1 a1 a2 a3 a4 a5 a6 a7
      have a6 : j = sc isFg b (N - a) a := a6
      rw [wp_X4_takeNumber_L20, a1, ht1, a4]
      refine ⟨fun _ => fin z S1 hz a1 a2 a3 (by rw [← a6]; exact a4) ?_, fun c => absurd (nI_le (by omega) (by omega)) c⟩
      rw [← a7, ← a6, Nat.sub_self]; exact a5
    | succ k ih =>
      intro j v hj haj hv S1 a1 a2 a3 a4 a5 a6 a7
      have hbj := hb j
      rw [wp_X4_takeNumber_L20, a1, ht1, a4, nI_clamp (by omega), a2, ht2 j (by omega), show (48 : Int32) = nI 48 from rfl, show (57 : Int32) = nI 57 from rfl, nI_ltI (by omega) (by decide), nI_ltI (by decide) (by omega)]
      have stop : isFg (b j) = false → wp_X4_takeNumber_J102 post z S1 := by
        intro hf
        rw [sc_f hf] at a6
        refine fin z S1 hz a1 a2 a3 (by rw [← a6]; exact a4) ?_
        rw [← a7, ← a6, Nat.sub_self]; exact a5
      refine ⟨fun c => absurd c (nI_ge (by omega) (by omega)), fun _ => ⟨vp_in_nI (by omega) (by decide), fun c => stop (by simp [isFg]; omega), fun c => ⟨vp_in_nI (by omega) (by decide), fun c2 => stop (by simp [isFg]; omega), fun c2 => ⟨vp_in_nI (by omega) (by decide), fun S9 e9 => ?_⟩⟩⟩⟩
      have hf : isFg (b j) = true := by simp [isFg]; omega
      rw [sc_t hf] at a6
      have hl := sc_le isFg b k (j + 1)
      have ev : (if (1000 : Int32) < S1.1 5 * 10 + nI (b j) - nI 48 then (1000 : Int32) else S1.1 5 * 10 + nI (b j) - nI 48) = nI (if 1000 < v * 10 + (b j - 48) then 1000 else v * 10 + (b j - 48)) := by
        rw [a5, show (10 : Int32) = nI 10 from rfl, pk_mul, nI_add, pk_sub (by omega), show v * 10 + b j - 48 = v * 10 + (b j - 48) by omega, show (1000 : Int32) = nI 1000 from rfl]
        by_cases q : 1000 < v * 10 + (b j - 48)
        · rw [if_pos q, if_pos ((nI_ltI (by decide) (by omega)).mpr q)]
        · rw [if_neg q, if_neg (fun z => q ((nI_ltI (by decide) (by omega)).mp z))]
      rw [ev] at e9
      have e92 : S9.1 2 = nI j := by rw [e9]; exact a4
      rw [e92, nI_1]
      refine ih (j + 1) (if 1000 < v * 10 + (b j - 48) then 1000 else v * 10 + (b j - 48)) (by omega) (by omega) (by split <;> omega) _ (by rw [e9]; exact a1) (by rw [e9]; exact a2) (by rw [e9]; exact a3) rfl (by rw [e9]; rfl) a6 ?_
      rw [← a7]
      obtain ⟨m, hm⟩ : ∃ m, sc isFg b (N - a) a - j = m + 1 := ⟨sc isFg b (N - a) a - j - 1, by omega⟩
      rw [hm, show sc isFg b (N - a) a - (j + 1) = m by omega]
      rfl
  unfold wp_X4_takeNumber
  rw [ha, nI_clamp (by omega), ht2 a haN, show (48 : Int32) = nI 48 from rfl, nI_eq (by have := hb a; omega) (by decide)]
  refine ⟨vp_in_nI (by omega) (by decide), fun c => ⟨N - a + 1, key 0 (Or.inr ⟨rfl, c⟩) (N - a) a 0 (by omega) (Nat.le_refl _) (by decide) S rfl rfl hp4 ha hp5 rfl rfl⟩, fun c => ⟨N - a + 1, key 1 (Or.inl ⟨rfl, c⟩) (N - a) a 0 (by omega) (Nat.le_refl _) (by decide) S rfl rfl hp4 ha hp5 rfl rfl⟩⟩
theorem c_adv1 (hN : N ≤ 150) (hb : ∀ i, b i < 256) (ht : TX (N, b) (S.1 1) (S.2 0)) {a : Nat} (ha : S.1 2 = nI a) (haN : a ≤ N) {post : Ob → Prop} (hp : ∀ S', CT (nx1 N b a) S' → S'.1 1 = S.1 1 → S'.2 = S.2 → post S') : wp_X4_advance_J38 post S := by
  intro S1 e1
  have a1 : S1.1 1 = S.1 1 := by rw [e1]; rfl
  have a2 : S1.2 = S.2 := by rw [e1]; rfl
  have a3 : S1.1 2 = nI a := by rw [e1]; exact ha
  have a4 : S1.1 4 = nI a := by rw [e1]; exact ha
  have a5 : S1.1 5 = 0 := by rw [e1]; rfl
  have ht1 : S.1 1 = nI N := ht.1
  have ht2 : ∀ i, i < N → S.2 0 i = nI (b i) := ht.2
  have htS : TX (N, b) (S1.1 1) (S1.2 0) := by rw [a1, a2]; exact ht
  rw [a3, a1, ht1, nI_ltI (by omega) (by omega), nI_clamp (by omega), a2]
  unfold nx1 at hp
  refine ⟨fun c => ?_, fun c => ?_⟩
  · rw [if_neg (by omega)] at hp
    have hba := hb a
    rw [ht2 a c, show (97 : Int32) = nI 97 from rfl, show (122 : Int32) = nI 122 from rfl, nI_ltI (by omega) (by decide), nI_ltI (by decide) (by omega)]
    have rest : isLt (b a) = false → wp_X4_advance_J105 post S1 := by
      intro hl
      rw [if_neg (by rw [hl]; decide)] at hp
      have semi : isFg (b a) = false → (¬ nI (b a) = 59 → post (pf S1 3 4)) ∧ (nI (b a) = 59 → ∀ S_3 : Ob, S_3 = pf (pf S1 3 3) 2 ((pf S1 3 3).1 2 + 1) → post S_3) := by
        intro hf
        rw [if_neg (by rw [hf]; decide)] at hp
        rw [show (59 : Int32) = nI 59 from rfl, nI_eq (by omega) (by decide)]
        refine ⟨fun c2 => ?_, fun c2 S3 e3 => ?_⟩
        · rw [if_neg c2] at hp
          exact hp _ ⟨rfl, a4, fun z => (by rcases z with z | z <;> cases z), fun z => absurd rfl z⟩ a1 a2
        · rw [if_pos c2] at hp
          subst e3
          refine hp _ ⟨rfl, a4, fun z => (by rcases z with z | z <;> cases z), fun _ => ?_⟩ a1 a2
          show S1.1 2 + 1 = _
          rw [a3, nI_1]
      unfold wp_X4_advance_J105
      rw [a3, nI_clamp (by omega), a2, ht2 a c, show (48 : Int32) = nI 48 from rfl, show (57 : Int32) = nI 57 from rfl, nI_ltI (by omega) (by decide), nI_ltI (by decide) (by omega)]
      refine ⟨vp_in_nI (by omega) (by decide), fun c2 => ⟨vp_in_nI (by omega) (by decide), semi (by simp [isFg]; omega)⟩, fun c2 => ⟨vp_in_nI (by omega) (by decide), fun c3 => ⟨vp_in_nI (by omega) (by decide), semi (by simp [isFg]; omega)⟩, fun c3 => ?_⟩⟩
      have hf : isFg (b a) = true := by simp [isFg]; omega
      rw [if_pos hf] at hp
      refine c_number hN hb htS a3 a4 a5 c hf (fun S' b1 b2 b3 b4 b5 => ?_)
      by_cases q : 4 ≤ sc isFg b (N - a) a - a ∨ (b a = 48 ∧ sc isFg b (N - a) a - a ≠ 1)
      · rw [if_pos q] at hp b5
        exact hp _ ⟨b5, b1, fun z => (by rcases z with z | z <;> cases z), fun z => absurd rfl z⟩ (b3.trans a1) (b4.trans a2)
      · rw [if_neg q] at hp b5
        exact hp _ ⟨b5.1, b1, fun _ => b5.2, fun _ => b2⟩ (b3.trans a1) (b4.trans a2)
    refine ⟨vp_in_nI (by omega) (by decide), fun c2 => rest (by simp [isLt]; omega), fun c2 => ⟨vp_in_nI (by omega) (by decide), fun c3 => rest (by simp [isLt]; omega), fun c3 => ?_⟩⟩
    have hl : isLt (b a) = true := by simp [isLt]; omega
    rw [if_pos hl] at hp
    exact c_letters hN hb htS a3 a4 c (fun S' b1 b2 b3 b4 b5 b6 => hp _ ⟨b1, b2, fun _ => b3, fun _ => b4⟩ (b5.trans a1) (b6.trans a2))
  · rw [if_pos (by omega)] at hp
    exact hp _ ⟨rfl, a4, fun z => (by rcases z with z | z <;> cases z), fun _ => a3⟩ a1 a2
theorem c_advance (hN : N ≤ 150) (hb : ∀ i, b i < 256) (ht : TX (N, b) (S.1 1) (S.2 0)) {a : Nat} (ha : S.1 2 = nI a) (haN : a ≤ N) {post : Ob → Prop} (hp : ∀ S', CT (nx N b a) S' → S'.1 1 = S.1 1 → S'.2 = S.2 → post S') : wp_X4_advance S post := by
  have ht1 : S.1 1 = nI N := ht.1
  have ht2 : ∀ i, i < N → S.2 0 i = nI (b i) := ht.2
  have key : ∀ k j, j + k = N → ∀ S1 : Ob, S1.1 1 = S.1 1 → S1.2 = S.2 → S1.1 2 = nI j → sc isSp b k j = sc isSp b (N - a) a → wp_X4_advance_L0 post (k + 1) S1 := by
    intro k
    induction k with
    | zero =>
      intro j hj S1 a1 a2 a3 a4
      have a4 : j = sc isSp b (N - a) a := a4
      rw [wp_X4_advance_L0, a1, ht1, a3]
      refine ⟨fun _ => c_adv1 hN hb (by rw [a1, a2]; exact ht) a3 (by omega) (fun S' b1 b2 b3 => ?_), fun c => absurd (nI_le (by omega) (by omega)) c⟩
      unfold nx at hp
      rw [← a4] at hp
      exact hp _ b1 (b2.trans a1) (b3.trans a2)
    | succ k ih =>
      intro j hj S1 a1 a2 a3 a4
      have hbj := hb j
      rw [wp_X4_advance_L0, a1, ht1, a3, nI_clamp (by omega), a2, ht2 j (by omega), show (32 : Int32) = nI 32 from rfl, nI_eq (by omega) (by decide), nI_1]
      refine ⟨fun c => absurd c (nI_ge (by omega) (by omega)), fun _ => ⟨vp_in_nI (by omega) (by decide), fun c => ?_, fun c => ?_⟩⟩
      · rw [sc_f (by simp [isSp, c])] at a4
        unfold nx at hp
        rw [← a4] at hp
        exact c_adv1 hN hb (by rw [a1, a2]; exact ht) a3 (by omega) (fun S' b1 b2 b3 => hp _ b1 (b2.trans a1) (b3.trans a2))
      · rw [sc_t (by simp [isSp, c])] at a4
        exact ih (j + 1) (by omega) _ a1 a2 rfl a4
  exact ⟨N - a + 1, key (N - a) a (by omega) S rfl rfl ha rfl⟩
end C
