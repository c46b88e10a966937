/-! ===== pure: rings ===== -/
/-- each lock of the ring is followed by the next one, the last by the first; the others by none -/
def BH (r : List Nat) (B : Nat → Int32) : Prop := (∀ k, k < r.length → B (r.getD k 0) = nI (r.getD ((k + 1) % r.length) 0)) ∧ ∀ l, l < 8 → l ∉ r → B l = -9
theorem gd_app1 {a b : List Nat} {k : Nat} (h : k < a.length) : (a ++ b).getD k 0 = a.getD k 0 := by
  simp [List.getD_eq_getElem?_getD, List.getElem?_append_left h]
theorem gd_app2 {a b : List Nat} {k : Nat} (h : a.length ≤ k) : (a ++ b).getD k 0 = b.getD (k - a.length) 0 := by
  simp [List.getD_eq_getElem?_getD, List.getElem?_append_right h]
theorem gd_mem {r : List Nat} {k : Nat} (h : k < r.length) : r.getD k 0 ∈ r := by
  rw [List.getD_eq_getElem?_getD, List.getElem?_eq_getElem h]
  exact List.getElem_mem h
theorem gd_of_mem {r : List Nat} {x : Nat} (h : x ∈ r) : ∃ k, k < r.length ∧ r.getD k 0 = x := by
  obtain ⟨k, hk, e⟩ := List.getElem_of_mem h
  exact ⟨k, hk, by rw [List.getD_eq_getElem?_getD, List.getElem?_eq_getElem hk]; exact e⟩
/-- a turned list's places -/
theorem gd_rot (a b : List Nat) {k : Nat} (hk : k < (b ++ a).length) : (b ++ a).getD k 0 = (a ++ b).getD ((k + a.length) % (a ++ b).length) 0 := by
  rw [List.length_append] at hk
  rw [List.length_append]
  by_cases h : k < b.length
  · rw [gd_app1 h, Nat.mod_eq_of_lt (by omega), gd_app2 (by omega), Nat.add_sub_cancel]
  · rw [gd_app2 (by omega)]
    have e : (k + a.length) % (a.length + b.length) = k - b.length := by
      rw [show k + a.length = (k - b.length) + (a.length + b.length) by omega, Nat.add_mod_right, Nat.mod_eq_of_lt (by omega)]
    rw [e, gd_app1 (by omega)]
theorem BH_rot {a b : List Nat} {B : Nat → Int32} (h : BH (a ++ b) B) : BH (b ++ a) B := by
  obtain ⟨h1, h2⟩ := h
  refine ⟨fun k hk => ?_, fun l hl hm => h2 l hl (by simpa [or_comm] using hm)⟩
  have hm : (b ++ a).length = (a ++ b).length := by simp [Nat.add_comm]
  have hk2 : k < (a ++ b).length := by rw [← hm]; exact hk
  have hpos : 0 < (a ++ b).length := by omega
  rw [gd_rot a b hk, h1 _ (Nat.mod_lt _ hpos), hm, gd_rot a b (by rw [hm]; exact Nat.mod_lt _ hpos)]
  congr 2
  rw [Nat.mod_add_mod, Nat.mod_add_mod]
  congr 1
  omega
/-- what stands behind o, round to it -/
def rt (r : List Nat) (o : Nat) : List Nat := r.drop (r.idxOf o + 1) ++ r.take (r.idxOf o)
theorem rt_split {r : List Nat} {o : Nat} (h : o ∈ r) : r = r.take (r.idxOf o) ++ o :: r.drop (r.idxOf o + 1) := by
  have hi : r.idxOf o < r.length := List.idxOf_lt_length_of_mem h
  have e : r[r.idxOf o] = o := by simp
  conv => lhs; rw [← List.take_append_drop (r.idxOf o) r]
  congr 1
  rw [← List.getElem_cons_drop hi, e]
theorem BH_to {r : List Nat} {o : Nat} {B : Nat → Int32} (ho : o ∈ r) (h : BH r B) : BH (o :: rt r o) B := by
  rw [rt_split ho] at h
  have := BH_rot h
  simpa [rt] using this
theorem BH_of {a b : List Nat} {o : Nat} {B : Nat → Int32} (h : BH (o :: (b ++ a)) B) : BH (a ++ o :: b) B := by
  have h' : BH ((o :: b) ++ a) B := by simpa using h
  exact BH_rot h'
theorem rt_mem {r : List Nat} {o x : Nat} (ho : o ∈ r) : x ∈ r ↔ x = o ∨ x ∈ rt r o := by
  conv => lhs; rw [rt_split ho]
  simp only [rt, List.mem_append, List.mem_cons]
  constructor
  · rintro (h | h | h)
    · exact Or.inr (Or.inr h)
    · exact Or.inl h
    · exact Or.inr (Or.inl h)
  · rintro (h | h | h)
    · exact Or.inr (Or.inl h)
    · exact Or.inr (Or.inr h)
    · exact Or.inl h
theorem rt_perm {r : List Nat} {o : Nat} (ho : o ∈ r) : r.Perm (o :: rt r o) := by
  conv => lhs; rw [rt_split ho]
  simp only [rt]
  exact (List.perm_middle).trans (List.Perm.cons _ List.perm_append_comm)
theorem rt_nd {r : List Nat} {o : Nat} (ho : o ∈ r) (h : r.Nodup) : (o :: rt r o).Nodup := (rt_perm ho).nodup_iff.mp h
theorem rt_len {r : List Nat} {o : Nat} (ho : o ∈ r) : r.length = (rt r o).length + 1 := by
  rw [(rt_perm ho).length_eq]; rfl
/-- going round from o: at a place of the rest and o -/
theorem BH_walk {t : List Nat} {o : Nat} {B : Nat → Int32} (h : BH (o :: t) B) (u : List Nat) (x y : Nat) (v : List Nat) (e : t ++ [o] = u ++ x :: y :: v) : B x = nI y := by
  have hlen : t.length + 1 = u.length + v.length + 2 := by
    have := congrArg List.length e
    simp at this
    omega
  have key : ∀ k, k < t.length + 1 → (o :: t).getD ((k + 1) % (t.length + 1)) 0 = (t ++ [o]).getD k 0 := by
    intro k hk
    by_cases hk2 : k < t.length
    · rw [Nat.mod_eq_of_lt (by omega), gd_app1 hk2, List.getD_cons_succ]
    · have : k = t.length := by omega
      subst this
      rw [Nat.mod_self, gd_app2 (Nat.le_refl _), Nat.sub_self]
      rfl
  have hu : (o :: t).getD ((u.length + 1) % (t.length + 1)) 0 = x := by
    rw [key _ (by omega), e, gd_app2 (Nat.le_refl _), Nat.sub_self]; rfl
  have hv : (o :: t).getD ((u.length + 1 + 1) % (t.length + 1)) 0 = y := by
    rw [key _ (by omega), e, gd_app2 (by omega), show u.length + 1 - u.length = 1 by omega]; rfl
  have hm : (u.length + 1) % (t.length + 1) = u.length + 1 := Nat.mod_eq_of_lt (by omega)
  rw [hm] at hu
  have := h.1 (u.length + 1) (by simp; omega)
  rw [hu] at this
  rw [this]
  congr 1
theorem BH_first {t : List Nat} {o : Nat} {B : Nat → Int32} (h : BH (o :: t) B) (x : Nat) (v : List Nat) (e : t ++ [o] = x :: v) : B o = nI x := by
  have := h.1 0 (by simp)
  rw [List.getD_cons_zero] at this
  rw [this]
  congr 1
  cases t with
  | nil => simp at e; simp [e.1]
  | cons a t =>
    simp at e
    rw [Nat.mod_eq_of_lt (by simp)]
    simp [e.1]
/-- out with what stands between, o is followed by l -/
theorem BH_cut {o l : Nat} {u v : List Nat} {B B' : Nat → Int32} (hnd : (o :: (u ++ v)).Nodup) (h : BH (o :: (u ++ v)) B) (hl : (∃ v', v = l :: v') ∨ (u = [] ∧ v = [] ∧ l = o))
    (h1 : ∀ x, x ∈ u → B' x = -9) (h2 : B' o = nI l) (h3 : ∀ x, x ∉ u → x ≠ o → B' x = B x) : BH (o :: v) B' := by
  refine ⟨fun k hk => ?_, fun x hx hm => ?_⟩
  · cases k with
    | zero =>
      rw [List.getD_cons_zero, h2]
      congr 1
      rcases hl with ⟨v', rfl⟩ | ⟨-, rfl, rfl⟩
      · rw [Nat.mod_eq_of_lt (by simp)]; rfl
      · simp
    | succ k =>
      simp at hk
      have hx : v.getD k 0 ∈ v := gd_mem (by omega)
      have hnv : v.getD k 0 ∉ u ∧ v.getD k 0 ≠ o := by
        simp only [List.nodup_cons, List.mem_append, not_or, List.nodup_append] at hnd
        refine ⟨fun q => hnd.2.2.2 _ q _ hx rfl, fun q => ?_⟩
        rw [q] at hx
        exact hnd.1.2 hx
      rw [List.getD_cons_succ, h3 _ hnv.1 hnv.2]
      have hB := h.1 (u.length + k + 1) (by simp; omega)
      rw [List.getD_cons_succ, gd_app2 (by omega), show u.length + k - u.length = k by omega] at hB
      rw [hB]
      congr 1
      by_cases hk2 : k + 1 < v.length
      · rw [Nat.mod_eq_of_lt (by simp; omega), Nat.mod_eq_of_lt (by simp; omega), List.getD_cons_succ, List.getD_cons_succ, gd_app2 (by omega)]
        congr 1
        omega
      · rw [show u.length + k + 1 + 1 = (o :: (u ++ v)).length by simp; omega, Nat.mod_self, show k + 1 + 1 = (o :: v).length by simp; omega, Nat.mod_self]
        rfl
  · have ho : x ≠ o := fun q => hm (by simp [q])
    by_cases hu : x ∈ u
    · exact h1 x hu
    · rw [h3 x hu ho]
      refine h.2 x hx ?_
      simp only [List.mem_cons, List.mem_append, not_or] at hm ⊢
      exact ⟨ho, hu, hm.2⟩
/-- hung in just behind o -/
theorem BH_hang {o l : Nat} {t : List Nat} {B B' : Nat → Int32} (hnd : (o :: t).Nodup) (hl : l ∉ o :: t) (h : BH (o :: t) B) (h1 : B' l = B o) (h2 : B' o = nI l) (h3 : ∀ x, x ≠ l → x ≠ o → B' x = B x) : BH (o :: l :: t) B' := by
  refine ⟨fun k hk => ?_, fun x hx hm => ?_⟩
  · match k, hk with
    | 0, hk => rw [List.getD_cons_zero, h2, Nat.mod_eq_of_lt (by simp)]; rfl
    | 1, hk =>
      have := h.1 0 (by simp)
      rw [List.getD_cons_zero] at this
      show B' l = _
      rw [h1, this]
      congr 1
      cases t with
      | nil => simp
      | cons a t => rw [Nat.mod_eq_of_lt (by simp), Nat.mod_eq_of_lt (by simp)]; rfl
    | k + 2, hk =>
      simp at hk
      have hx : t.getD k 0 ∈ t := gd_mem (by omega)
      have hne : t.getD k 0 ≠ l ∧ t.getD k 0 ≠ o := by
        simp only [List.nodup_cons, List.mem_cons, not_or] at hnd hl
        exact ⟨fun q => hl.2 (q ▸ hx), fun q => hnd.1 (q ▸ hx)⟩
      show B' (t.getD k 0) = _
      rw [h3 _ hne.1 hne.2]
      have hB := h.1 (k + 1) (by simp; omega)
      rw [List.getD_cons_succ] at hB
      rw [hB]
      congr 1
      by_cases hk2 : k + 1 < t.length
      · rw [Nat.mod_eq_of_lt (by simp; omega), Nat.mod_eq_of_lt (by simp; omega)]; rfl
      · have e1 : (k + 1 + 1) % (o :: t).length = 0 := by rw [show k + 1 + 1 = (o :: t).length by simp; omega, Nat.mod_self]
        have e2 : (k + 2 + 1) % (o :: l :: t).length = 0 := by rw [show k + 2 + 1 = (o :: l :: t).length by simp; omega, Nat.mod_self]
        rw [e1, e2]; rfl
  · simp only [List.mem_cons, not_or] at hm
    rw [h3 x hm.2.1 hm.1]
    exact h.2 x hx (by simp only [List.mem_cons, not_or]; exact ⟨hm.1, hm.2.2⟩)
/-- how many: a list without doubles -/
theorem ct_ins {f : Nat → Bool} {a : Nat} (hf : f a = false) : ∀ {n : Nat}, ct n (fun l => decide (l = a) || f l) = ct n f + (if a < n then 1 else 0)
  | 0 => by simp [ct]
  | n + 1 => by
    have ih := ct_ins hf (n := n)
    unfold ct
    rw [ih]
    by_cases h : n = a
    · subst h; simp [hf]
    · have : (a < n + 1) ↔ (a < n) := by omega
      simp only [h, decide_false, Bool.false_or, this]
      omega
theorem ct_list : ∀ {r : List Nat}, r.Nodup → (∀ x ∈ r, x < 8) → ct 8 (fun l => decide (l ∈ r)) = r.length
  | [], _, _ => by decide
  | a :: r, hn, h => by
    have ih := ct_list (List.nodup_cons.mp hn).2 (fun x hx => h x (List.mem_cons_of_mem _ hx))
    have e : (fun l => decide (l ∈ a :: r)) = fun l => decide (l = a) || decide (l ∈ r) := by funext l; simp [List.mem_cons]
    rw [e, ct_ins (by simpa using (List.nodup_cons.mp hn).1), ih, if_pos (h a List.mem_cons_self)]
    rfl
theorem len8 {r : List Nat} (hn : r.Nodup) (h : ∀ x ∈ r, x < 8) : r.length ≤ 8 := by rw [← ct_list hn h]; exact ct_le _ 8
/-- a list's mask -/
def lm (u : List Nat) : Nat := mk 8 fun x => decide (x ∈ u)
theorem lm_8 (u : List Nat) : lm u < 256 := mk_lt _ 8
theorem lm_0 : lm [] = 0 := by decide
theorem lm_push (u : List Nat) {x : Nat} (hx : x < 8) : lm u ||| 2 ^ x = lm (u ++ [x]) := by
  unfold lm
  apply mk_eq
  intro i
  rw [Nat.testBit_or, mk_tb, Nat.testBit_two_pow]
  by_cases h : i < 8
  · by_cases e : x = i
    · subst e; simp [h]
    · have e2 : ¬ i = x := fun q => e q.symm
      simp [h, e, e2]
  · have e : ¬ x = i := by omega
    simp [h, e]
theorem lm_tb (u : List Nat) (i : Nat) : (lm u).testBit i = (decide (i < 8) && decide (i ∈ u)) := mk_tb _ _ _
