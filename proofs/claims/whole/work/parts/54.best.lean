/-! ===== pure: the next one to try ===== -/
def cN (l : List Nat) (q k : Nat) : Nat := l.countP fun x => decide (rw3 x q = k)
def mxN (a b : Nat) : Nat := if a < b then b else a
def gp (l : List Nat) (q : Nat) : Nat := mxN (mxN (cN l q 0) (cN l q 1)) (mxN (cN l q 2) (cN l q 3))
def bq (l : List Nat) : Nat → Option (Nat × Nat)
  | 0 => none
  | q + 1 => match bq l q with
    | none => some (q, gp l q)
    | some e => if e.2 ≤ gp l q then some e else some (q, gp l q)
def oB : Option (Nat × Nat) → Int32
  | none => -9
  | some e => nI e.1
def oL (d : Nat) : Option (Nat × Nat) → Nat
  | none => d
  | some e => e.2
def askA (σ : St) : Int32 := if (ps (heO σ)).length < 2 ∨ 250 < (ps (heO σ)).length then -9 else oB (bq (ps (heO σ)) 1000)
theorem mxN_le {a b c : Nat} (ha : a ≤ c) (hb : b ≤ c) : mxN a b ≤ c := by unfold mxN; split <;> omega
theorem gp_le (l : List Nat) (q : Nat) : gp l q ≤ l.length := mxN_le (mxN_le List.countP_le_length List.countP_le_length) (mxN_le List.countP_le_length List.countP_le_length)
theorem bq_step (l : List Nat) (q : Nat) {d : Nat} (hd : l.length < d) : (oL d (bq l q) ≤ gp l q → bq l (q + 1) = bq l q) ∧ (¬ oL d (bq l q) ≤ gp l q → bq l (q + 1) = some (q, gp l q)) := by
  have hg := gp_le l q
  have e : bq l (q + 1) = (match bq l q with
    | none => some (q, gp l q)
    | some e => if e.2 ≤ gp l q then some e else some (q, gp l q)) := rfl
  rw [e]
  cases z : bq l q with
  | none => exact ⟨fun c => absurd c (by show ¬ d ≤ _; omega), fun _ => rfl⟩
  | some w => exact ⟨fun c => if_pos c, fun c => if_neg c⟩
theorem bq_le (l : List Nat) {d : Nat} (hd : l.length < d) : ∀ q, oL d (bq l q) ≤ d
  | 0 => Nat.le_refl _
  | q + 1 => by
    have S := bq_step l q hd
    by_cases h : oL d (bq l q) ≤ gp l q
    · rw [S.1 h]; exact bq_le l hd q
    · rw [S.2 h]
      show gp l q ≤ d
      have := gp_le l q
      omega
theorem nI_mx {a b : Nat} (ha : a < 2 ^ 31) (hb : b < 2 ^ 31) : (if nI a < nI b then nI b else nI a) = nI (mxN a b) := by
  unfold mxN
  by_cases h : a < b
  · rw [if_pos h, if_pos ((nI_ltI ha hb).mpr h)]
  · rw [if_neg h, if_neg (fun q => h ((nI_ltI ha hb).mp q))]
/-! counts by figures -/
def cnt (f : Nat → Nat) (j : Nat) (l : List Nat) : Nat := l.countP fun x => decide (f x = j)
theorem cnt_push (f : Nat → Nat) (j : Nat) (l : List Nat) (p : Nat) : cnt f j (l ++ [p]) = cnt f j l + if f p = j then 1 else 0 := by
  unfold cnt
  rw [List.countP_append, List.countP_cons, List.countP_nil]
  simp
theorem cnt_upd {f : Nat → Nat} {l : List Nat} {p N : Nat} {A : Nat → Int32} (h : ∀ j, j < N → A j = nI (cnt f j l)) (hp : f p < N) : ∀ j, j < N → upd A (f p) (A (f p) + 1) j = nI (cnt f j (l ++ [p])) := by
  intro j hj
  rw [upd_at, cnt_push]
  by_cases e : j = f p
  · rw [if_pos e, if_pos e.symm, h _ hp, nI_1, e]
  · rw [if_neg e, if_neg (fun q => e q.symm), h j hj]; rfl
def g3 (x : Nat) : Nat := fg x 2
def g4 (x : Nat) : Nat := fg x 1
def g5 (x : Nat) : Nat := fg x 0
def g6 (x : Nat) : Nat := fg x 2 * 10 + fg x 1
def g7 (x : Nat) : Nat := fg x 2 * 10 + fg x 0
def g8 (x : Nat) : Nat := fg x 1 * 10 + fg x 0
def CF (l : List Nat) (S : Ob) : Prop := (∀ j, j < 10 → S.2 3 j = nI (cnt g3 j l)) ∧ (∀ j, j < 10 → S.2 4 j = nI (cnt g4 j l)) ∧ (∀ j, j < 10 → S.2 5 j = nI (cnt g5 j l)) ∧ (∀ j, j < 100 → S.2 6 j = nI (cnt g6 j l)) ∧ (∀ j, j < 100 → S.2 7 j = nI (cnt g7 j l)) ∧ (∀ j, j < 100 → S.2 8 j = nI (cnt g8 j l))
theorem af_at {N j : Nat} (f : Nat → Int32) (h : j < N) : afill N f 0 j = nI 0 := by unfold afill; rw [if_pos h]; rfl
theorem c_figures {P : List Nat} {S : Ob} (hlen : P.length ≤ 1000) (hlt : ∀ x, x ∈ P → x < 1000) (h1 : S.1 1 = nI P.length) (h3 : ∀ i, i < P.length → S.2 0 i = nI (P.getD i 0)) {post : Ob → Prop} (hp : ∀ S', S'.1 = S.1 → S'.2 0 = S.2 0 → CF P S' → post S') : wp_X2_countFigures S post := by
  have key : ∀ k i, i + k = P.length → ∀ S1 : Ob, S1.1 = S.1 → S1.2 0 = S.2 0 → CF (P.take i) S1 → wp_X2_countFigures_L50 post (k + 1) (nI i) S1 := by
    intro k
    induction k with
    | zero =>
      intro i hi S1 a1 a2 a3
      have : i = P.length := by omega
      subst this
      rw [List.take_length] at a3
      rw [wp_X2_countFigures_L50, a1, h1]
      exact ⟨fun _ => hp S1 a1 a2 a3, fun c => absurd (nI_le (Nat.le_refl _) (by omega)) c⟩
    | succ k ih =>
      intro i hi S1 a1 a2 a3
      have hil : i < P.length := by omega
      have hx := hlt _ (gd_mem hil)
      have er : S1.2 0 i = nI (P.getD i 0) := by rw [a2]; exact h3 i hil
      have ih1 := ih (i + 1) (by omega)
      rw [take_1 hil] at ih1
      rw [wp_X2_countFigures_L50, a1, h1, nI_clamp (by omega), er, nI_1]
      generalize P.getD i 0 = p at hx ih1
      obtain ⟨b3, b4, b5, b6, b7, b8⟩ := a3
      have f0 := fg_lt hx 0
      have f1' := fg_lt hx 1
      have f2' := fg_lt hx 2
      have l6 : g6 p < 100 := by unfold g6; omega
      have l7 : g7 p < 100 := by unfold g7; omega
      have l8 : g8 p < 100 := by unfold g8; omega
      rw [d3 hx, d2 hx, d1 hx]
      refine ⟨fun c => absurd c (nI_ge hil (by omega)), fun _ => ⟨fun c => absurd c (nI_ge (b := 1000) (by omega) (by decide)), fun _ => ⟨vp_in_nI (by omega) (by decide), vp_in_nI (by omega) (by decide), fun y3 e3 => ?_⟩⟩⟩
      subst e3
      refine ⟨vp_in_nI (by omega) (by decide), fun y4 e4 => ?_⟩
      subst e4
      rw [show (10 : Int32) = nI 10 from rfl, pk_mul, pk_mul, nI_add, nI_add, nI_add]
      rw [nI_clamp (by omega), nI_clamp (by omega), nI_clamp (by omega), nI_clamp (by omega), nI_clamp (by omega), nI_clamp (by omega)]
      refine ⟨vp_in_nI f2' (by decide), vp_in_nI f2' (by decide), fun S5 e5 => ⟨vp_in_nI f1' (by decide), vp_in_nI f1' (by decide), fun S6 e6 => ⟨vp_in_nI f0 (by decide), vp_in_nI f0 (by decide), fun S7 e7 => ⟨vp_in_nI l6 (by decide), vp_in_nI l6 (by decide), fun S8 e8 => ⟨vp_in_nI l7 (by decide), vp_in_nI l7 (by decide), fun S9 e9 => ⟨vp_in_nI l8 (by decide), vp_in_nI l8 (by decide), fun S10 e10 => ?_⟩⟩⟩⟩⟩⟩
      subst e5 e6 e7 e8 e9 e10
      refine ih1 _ a1 a2 ⟨?_, ?_, ?_, ?_, ?_, ?_⟩
      · exact cnt_upd (f := g3) b3 f2'
      · exact cnt_upd (f := g4) b4 f1'
      · exact cnt_upd (f := g5) b5 f0
      · exact cnt_upd (f := g6) b6 l6
      · exact cnt_upd (f := g7) b7 l7
      · exact cnt_upd (f := g8) b8 l8
  unfold wp_X2_countFigures
  refine ⟨P.length + 1, key P.length 0 (by omega) _ rfl rfl ⟨?_, ?_, ?_, ?_, ?_, ?_⟩⟩
  · intro j hj; exact af_at _ hj
  · intro j hj; exact af_at _ hj
  · intro j hj; exact af_at _ hj
  · intro j hj; exact af_at _ hj
  · intro j hj; exact af_at _ hj
  · intro j hj; exact af_at _ hj
theorem pr_iff {a b c d : Nat} (hb : b < 10) (hd : d < 10) : a * 10 + b = c * 10 + d ↔ a = c ∧ b = d := by omega
/-- the exact counts come of the sums -/
theorem sums {q : Nat} (hq : q < 1000) : ∀ (l : List Nat), (∀ x, x ∈ l → x < 1000) → cnt g6 (g6 q) l + cnt g7 (g7 q) l + cnt g8 (g8 q) l = cN l q 2 + 3 * cN l q 3 ∧ cnt g3 (fg q 2) l + cnt g4 (fg q 1) l + cnt g5 (fg q 0) l = cN l q 1 + 2 * cN l q 2 + 3 * cN l q 3 ∧ l.length = cN l q 0 + cN l q 1 + cN l q 2 + cN l q 3
  | [], _ => by simp [cnt, cN]
  | x :: l, h => by
    obtain ⟨i1, i2, i3⟩ := sums hq l (fun y hy => h y (List.mem_cons_of_mem _ hy))
    have hx := h x List.mem_cons_self
    have x0 := fg_lt hx 0
    have x1 := fg_lt hx 1
    have q0 := fg_lt hq 0
    have q1 := fg_lt hq 1
    unfold cnt cN at *
    simp only [List.countP_cons, List.length_cons, decide_eq_true_eq]
    have e3 : g3 x = fg q 2 ↔ fg x 2 = fg q 2 := Iff.rfl
    have e4 : g4 x = fg q 1 ↔ fg x 1 = fg q 1 := Iff.rfl
    have e5 : g5 x = fg q 0 ↔ fg x 0 = fg q 0 := Iff.rfl
    have e6 : g6 x = g6 q ↔ fg x 2 = fg q 2 ∧ fg x 1 = fg q 1 := pr_iff x1 q1
    have e7 : g7 x = g7 q ↔ fg x 2 = fg q 2 ∧ fg x 0 = fg q 0 := pr_iff x0 q0
    have e8 : g8 x = g8 q ↔ fg x 1 = fg q 1 ∧ fg x 0 = fg q 0 := pr_iff x0 q0
    have er : rw3 x q = (if fg x 0 = fg q 0 then 1 else 0) + (if fg x 1 = fg q 1 then 1 else 0) + (if fg x 2 = fg q 2 then 1 else 0) := by
      unfold rw3
      simp only [sg, Nat.zero_add]
    simp only [er, e3, e4, e5, e6, e7, e8]
    clear er e3 e4 e5 e6 e7 e8
    generalize l.countP (fun x => decide (g6 x = g6 q)) = n6 at *
    generalize l.countP (fun x => decide (g7 x = g7 q)) = n7 at *
    generalize l.countP (fun x => decide (g8 x = g8 q)) = n8 at *
    generalize l.countP (fun x => decide (g3 x = fg q 2)) = n3 at *
    generalize l.countP (fun x => decide (g4 x = fg q 1)) = n4 at *
    generalize l.countP (fun x => decide (g5 x = fg q 0)) = n5 at *
    generalize l.countP (fun x => decide (rw3 x q = 0)) = m0 at *
    generalize l.countP (fun x => decide (rw3 x q = 1)) = m1 at *
    generalize l.countP (fun x => decide (rw3 x q = 2)) = m2 at *
    generalize l.countP (fun x => decide (rw3 x q = 3)) = m3 at *
    by_cases c0 : fg x 0 = fg q 0 <;> by_cases c1 : fg x 1 = fg q 1 <;> by_cases c2 : fg x 2 = fg q 2 <;> simp [c0, c1, c2] <;> omega
theorem c_part {P : List Nat} {S : Ob} (hlen : P.length ≤ 250) (hlt : ∀ x, x ∈ P → x < 1000) (h1 : S.1 1 = nI P.length) (hC : CF P S) {q : Nat} (hq : q < 1000) {a : Int32} (ha : a = nI (cN P q 3)) {post : Int32 → Prop} (hp : post (nI (gp P q))) : wp_X2_greatestPart S (nI q) a post := by
  obtain ⟨s1, s2, s3⟩ := sums hq P hlt
  obtain ⟨b3, b4, b5, b6, b7, b8⟩ := hC
  have f0 := fg_lt hq 0
  have f1' := fg_lt hq 1
  have f2' := fg_lt hq 2
  have l6 : g6 q < 100 := by unfold g6; omega
  have l7 : g7 q < 100 := by unfold g7; omega
  have l8 : g8 q < 100 := by unfold g8; omega
  unfold wp_X2_greatestPart
  rw [d3 hq, d2 hq, d1 hq, show (10 : Int32) = nI 10 from rfl, pk_mul, pk_mul, nI_add, nI_add, nI_add]
  show vp_in (nI (g6 q)) 100 ∧ vp_in (nI (g7 q)) 100 ∧ vp_in (nI (g8 q)) 100 ∧ ∀ y_1 : Int32, y_1 = ((S.2 6 (nI (g6 q)).toNatClampNeg + S.2 7 (nI (g7 q)).toNatClampNeg) + S.2 8 (nI (g8 q)).toNatClampNeg) → _
  rw [nI_clamp (n := g6 q) (by omega), nI_clamp (n := g7 q) (by omega), nI_clamp (n := g8 q) (by omega), b6 _ l6, b7 _ l7, b8 _ l8, nI_add, nI_add, s1]
  refine ⟨vp_in_nI l6 (by decide), vp_in_nI l7 (by decide), vp_in_nI l8 (by decide), fun y1 e1 => ⟨vp_in_nI f2' (by decide), vp_in_nI f1' (by decide), vp_in_nI f0 (by decide), fun y2 e2 => ?_⟩⟩
  rw [nI_clamp (by omega), nI_clamp (by omega), nI_clamp (by omega), b3 _ f2', b4 _ f1', b5 _ f0, nI_add, nI_add, s2] at e2
  have e3 : (3 : Int32) * a = nI (3 * cN P q 3) := by rw [ha, show (3 : Int32) = nI 3 from rfl, pk_mul]
  have eT : y1 - 3 * a = nI (cN P q 2) := by rw [e3, e1, pk_sub (by omega), Nat.add_sub_cancel]
  rw [eT]
  intro y3 e4
  have e5 : y3 = nI (cN P q 1) := by
    rw [e4, e2, e3, show (2 : Int32) = nI 2 from rfl, pk_mul, pk_sub (by omega), pk_sub (by omega)]
    congr 1
    omega
  intro y4 e6
  have e7 : y4 = nI (cN P q 0) := by
    rw [e6, h1, e5, ha, pk_sub (by omega), pk_sub (by omega), pk_sub (by omega)]
    congr 1
    omega
  rw [e5, e7, ha, nI_mx (by omega) (by omega), nI_mx (by omega) (by omega), nI_mx (Nat.lt_of_le_of_lt (mxN_le (c := 250) (by omega) (by omega)) (by decide)) (Nat.lt_of_le_of_lt (mxN_le (c := 250) (by omega) (by omega)) (by decide))]
  exact hp
/-! which it can be, before and from a number on -/
def pfx (he : List (Nat × Nat)) (i : Nat) : List Nat := (List.range i).filter (fitB he)
theorem pfx_s (he : List (Nat × Nat)) (i : Nat) : pfx he (i + 1) = pfx he i ++ (if fitB he i = true then [i] else []) := by
  unfold pfx
  rw [List.range_succ, List.filter_append, List.filter_cons]
  split <;> rfl
theorem pfx_sfx {he : List (Nat × Nat)} {i : Nat} (hi : i ≤ 1000) : ps he = pfx he i ++ sfx he i := by
  have this := List.range'_append_1 (s := 0) (m := i) (n := 1000 - i)
  rw [Nat.zero_add, show i + (1000 - i) = 1000 by omega, ← List.range_eq_range', ← List.range_eq_range'] at this
  unfold ps pfx sfx
  rw [← this, List.filter_append]
theorem rw3_3 {x q : Nat} : rw3 x q = 3 → x = q := by
  unfold rw3
  simp only [sg]
  intro h
  have h0 : fg x 0 = fg q 0 := by
    by_cases c : fg x 0 = fg q 0
    · exact c
    · rw [if_neg c] at h
      split at h <;> first | omega | (split at h <;> omega)
  have h1 : fg x 1 = fg q 1 := by
    by_cases c : fg x 1 = fg q 1
    · exact c
    · rw [if_neg c] at h
      split at h <;> first | omega | (split at h <;> omega)
  have h2 : fg x 2 = fg q 2 := by
    by_cases c : fg x 2 = fg q 2
    · exact c
    · rw [if_neg c] at h
      split at h <;> first | omega | (split at h <;> omega)
  have h0 : x % 10 = q % 10 := h0
  have h1 : x / 10 % 10 = q / 10 % 10 := h1
  have h2 : x / 100 = q / 100 := h2
  omega
theorem rw3_self (q : Nat) : rw3 q q = 3 := by unfold rw3; simp [sg]
theorem cN_3 (q : Nat) : ∀ l : List Nat, l.Nodup → cN l q 3 = if q ∈ l then 1 else 0
  | [], _ => rfl
  | a :: l, h => by
    have ih := cN_3 q l (List.nodup_cons.mp h).2
    unfold cN at *
    rw [List.countP_cons, ih]
    by_cases e : a = q
    · subst e
      have := (List.nodup_cons.mp h).1
      simp [this, rw3_self]
    · have e2 : ¬ rw3 a q = 3 := fun z => e (rw3_3 z)
      have e3 : ¬ q = a := fun z => e z.symm
      simp [e2, e3]
theorem ps_nd (he : List (Nat × Nat)) : (ps he).Nodup := List.nodup_range.filter _
theorem ps_mem {he : List (Nat × Nat)} {q : Nat} (hq : q < 1000) : q ∈ ps he ↔ fitB he q = true := by
  unfold ps
  rw [List.mem_filter, List.mem_range]
  exact ⟨fun h => h.2, fun h => ⟨hq, h⟩⟩
theorem sfx_gt {he : List (Nat × Nat)} {i y : Nat} (h : y ∈ sfx he i) : i ≤ y := by
  have := (List.mem_filter.mp h).1
  rw [List.mem_range'_1] at this
  exact this.1
theorem c_best {he : List (Nat × Nat)} {S : Ob} (h : RR he S) (h2 : (ps he).length ≤ 250) {post : Int32 → Ob → Prop} (hp : ∀ S', RR he S' → post (oB (bq (ps he) 1000)) S') : wp_X2_bestQuestion S post := by
  obtain ⟨r1, r2, r3⟩ := h
  unfold wp_X2_bestQuestion
  refine c_figures (ps_len he) (fun x hx => ps_lt hx) r1 r3 (fun S' e1 e2 hC => ?_)
  have hR : RR he S' := ⟨by rw [e1]; exact r1, by rw [e1]; exact r2, by rw [e2]; exact r3⟩
  have hR1 := hR.1
  have hR3 := hR.2.2
  have hlt : ∀ x, x ∈ ps he → x < 1000 := fun x hx => ps_lt hx
  have hN : ∀ q, q < 1000 → cN (ps he) q 3 = if fitB he q = true then 1 else 0 := fun q hq => by
    rw [cN_3 q _ (ps_nd he)]
    by_cases c : fitB he q = true
    · rw [if_pos c, if_pos ((ps_mem hq).mpr c)]
    · rw [if_neg c, if_neg (fun z => c ((ps_mem hq).mp z))]
  have hsp : ∀ i, i ≤ 1000 → ps he = pfx he i ++ sfx he i := fun i hi => pfx_sfx hi
  have hp' := hp S' hR
  generalize ps he = P at *
  have key : ∀ k i, i + k = 1000 → wp_X2_bestQuestion_L16 post S' (k + 1) (oB (bq P i)) (nI (oL 1001 (bq P i))) (nI (pfx he i).length) (nI i) := by
    intro k
    induction k with
    | zero =>
      intro i hi
      have : i = 1000 := by omega
      subst this
      rw [wp_X2_bestQuestion_L16]
      exact ⟨fun _ => hp', fun c => absurd (by decide) c⟩
    | succ k ih =>
      intro i hi
      have ih1 := ih (i + 1) (by omega)
      have hs := hsp i (by omega)
      have hsl : P.length = (pfx he i).length + (sfx he i).length := by rw [hs]; exact List.length_append
      have hss := sfx_s (he := he) (show i < 1000 by omega)
      have B := bq_step P i (d := 1001) (by omega)
      have hol := bq_le P (d := 1001) (by omega) i
      have hgp := gp_le P i
      have fin : ∀ (t x3 : Int32), (t = 0 ∧ fitB he i = false ∨ t = 1 ∧ fitB he i = true) → x3 = nI (pfx he (i + 1)).length → wp_X2_bestQuestion_J58 post (fun x1 x2 x3 x4 => wp_X2_bestQuestion_L16 post S' (k + 1) x1 x2 x3 x4) (oB (bq P i)) (nI (oL 1001 (bq P i))) x3 (nI i) t S' := by
        intro t x3 ht e3
        subst e3
        have k2 : ∀ r, r = nI (gp P i) → (nI (oL 1001 (bq P i)) ≤ r → wp_X2_bestQuestion_L16 post S' (k + 1) (oB (bq P i)) (nI (oL 1001 (bq P i))) (nI (pfx he (i + 1)).length) (nI i + 1)) ∧ (¬ nI (oL 1001 (bq P i)) ≤ r → wp_X2_bestQuestion_L16 post S' (k + 1) (nI i) r (nI (pfx he (i + 1)).length) (nI i + 1)) := by
          intro r er
          subst er
          rw [nI_leI (by omega) (by omega), nI_1]
          refine ⟨fun c => ?_, fun c => ?_⟩
          · rw [B.1 c] at ih1; exact ih1
          · rw [B.2 c] at ih1; exact ih1
        have hn := hN i (by omega)
        unfold wp_X2_bestQuestion_J58
        rcases ht with ⟨rfl, hf⟩ | ⟨rfl, hf⟩
        · rw [if_neg (by rw [hf]; decide)] at hn
          exact f2 (c_part h2 hlt hR1 hC (by omega) (by rw [hn]; rfl) (k2 _ rfl))
        · rw [if_pos hf] at hn
          exact t2 (c_part h2 hlt hR1 hC (by omega) (by rw [hn]; rfl) (k2 _ rfl))
      have no : fitB he i = false → wp_X2_bestQuestion_J47 post (fun x1 x2 x3 x4 => wp_X2_bestQuestion_L16 post S' (k + 1) x1 x2 x3 x4) (oB (bq P i)) (nI (oL 1001 (bq P i))) (nI (pfx he i).length) (nI i) S' := by
        intro hf
        unfold wp_X2_bestQuestion_J47 wp_X2_bestQuestion_J48
        refine f2 (fin 0 _ (Or.inl ⟨rfl, hf⟩) ?_)
        rw [pfx_s, if_neg (by rw [hf]; decide), List.append_nil]
      rw [wp_X2_bestQuestion_L16, hR1]
      refine ⟨fun c => absurd c (nI_ge (b := 1000) (by omega) (by decide)), fun _ => ?_⟩
      rw [nI_leI (by omega) (by omega), nI_clamp (by omega)]
      cases hf : fitB he i with
      | true =>
        rw [if_pos hf] at hss
        have h1 : (pfx he i).length < P.length := by rw [hsl, hss]; simp
        refine ⟨fun c => absurd c (by omega), fun _ => ⟨vp_in_nI (by omega) (by decide), ?_⟩⟩
        have ev : S'.2 0 (pfx he i).length = nI i := by
          rw [hR3 _ h1, hs, gd_app2 (Nat.le_refl _), Nat.sub_self, hss]
          rfl
        rw [ev]
        refine ⟨fun c => absurd rfl c, fun _ => ?_⟩
        unfold wp_X2_bestQuestion_J48
        refine t2 (fin 1 _ (Or.inr ⟨rfl, hf⟩) ?_)
        rw [nI_1, pfx_s, if_pos hf, List.length_append]
        rfl
      | false =>
        refine ⟨fun _ => no hf, fun c => ⟨vp_in_nI (by omega) (by decide), fun _ => no hf, fun c2 => ?_⟩⟩
        exfalso
        rw [hR3 _ (by omega)] at c2
        have hm : P.getD (pfx he i).length 0 ∈ sfx he i := by
          rw [hs, gd_app2 (Nat.le_refl _)]
          exact gd_mem (by omega)
        rw [if_neg (by rw [hf]; decide), List.nil_append] at hss
        rw [hss] at hm
        have hgt := sfx_gt hm
        have hlt2 := hlt _ (gd_mem (show (pfx he i).length < P.length by omega))
        rw [nI_eq (by omega) (by omega)] at c2
        omega
  have k0 := key 1000 0 rfl
  exact ⟨_, k0⟩
section G
variable {σ : St} {Z : GC} {M : Mo}
theorem c_ask (hV : VS σ) (h : RC σ Z) {post : Int32 → GC → Prop} (hp : ∀ Z', RC σ Z' → post (askA σ) Z') : wp_X5_ask Z post := by
  have hr := h.2.2.2.2.2.2.2.1
  have hl := ps_len (heO σ)
  unfold wp_X5_ask
  unfold askA at hp
  rw [hr.1, show (2 : Int32) = nI 2 from rfl, show (250 : Int32) = nI 250 from rfl, nI_ltI (by omega) (by decide), nI_leI (by omega) (by decide)]
  refine ⟨fun c => ?_, fun c => ⟨fun c2 => ?_, fun c2 => ?_⟩⟩
  · rw [if_pos (Or.inl c)] at hp; exact hp Z h
  · rw [if_neg (by omega)] at hp
    refine c_best hr c2 (fun S' hS Z5 e5 => ?_)
    subst e5
    exact hp _ (RC_he h hS)
  · rw [if_pos (Or.inr (by omega))] at hp; exact hp Z h
end G
