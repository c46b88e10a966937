/-! ===== pure: the class's scene ===== -/
/-- codes, what is shown, who knows what (person, lock), the ring, the open one -/
abbrev SC : Type := (Nat → Nat) × (Nat → Nat) × (Nat → Nat → Bool) × List Nat × Option Nat
abbrev cdO (s : SC) : Nat → Nat := s.1
abbrev shO (s : SC) : Nat → Nat := s.2.1
abbrev knO (s : SC) : Nat → Nat → Bool := s.2.2.1
abbrev rgO (s : SC) : List Nat := s.2.2.2.1
abbrev opO (s : SC) : Option Nat := s.2.2.2.2
def oI : Option Nat → Int32
  | none => -9
  | some o => nI o
/-- as a scene should be, with n persons and L locks -/
def Vs (n L : Nat) (s : SC) : Prop := (rgO s).Nodup ∧ (∀ l ∈ rgO s, l < L) ∧ (∀ p l, knO s p l = true → p < n ∧ l < L) ∧ (∀ l, cdO s l < 1000) ∧ (∀ l, shO s l < 1000) ∧ ∀ o, opO s = some o → o ∈ rgO s
def Cs (s : SC) (S : Ob) : Prop := (∀ l, l < 8 → S.2 0 l = nI (cdO s l)) ∧ (∀ l, l < 8 → S.2 1 l = nI (shO s l)) ∧ (∀ l, l < 8 → S.2 2 l = nI (mk 6 fun p => knO s p l)) ∧ BH (rgO s) (S.2 3) ∧ S.1 4 = oI (opO s)
def any8 (f : Nat → Bool) : Bool := (List.range 8).any f
def any6 (f : Nat → Bool) : Bool := (List.range 6).any f
theorem any8_iff {f : Nat → Bool} : any8 f = true ↔ ∃ i, i < 8 ∧ f i = true := by simp [any8]
theorem any6_iff {f : Nat → Bool} : any6 f = true ↔ ∃ i, i < 6 ∧ f i = true := by simp [any6]
theorem any8_cg {f g : Nat → Bool} (h : ∀ i, i < 8 → f i = g i) : any8 f = any8 g := by
  rw [Bool.eq_iff_iff, any8_iff, any8_iff]
  exact ⟨fun ⟨i, hi, e⟩ => ⟨i, hi, h i hi ▸ e⟩, fun ⟨i, hi, e⟩ => ⟨i, hi, (h i hi).symm ▸ e⟩⟩
theorem any6_cg {f g : Nat → Bool} (h : ∀ i, i < 6 → f i = g i) : any6 f = any6 g := by
  rw [Bool.eq_iff_iff, any6_iff, any6_iff]
  exact ⟨fun ⟨i, hi, e⟩ => ⟨i, hi, h i hi ▸ e⟩, fun ⟨i, hi, e⟩ => ⟨i, hi, (h i hi).symm ▸ e⟩⟩
theorem any8_step (f : Nat → Bool) {i : Nat} (hi : i < 8) : any8 (fun l => decide (l < i + 1) && f l) = (any8 (fun l => decide (l < i) && f l) || f i) := by
  rw [Bool.eq_iff_iff, Bool.or_eq_true, any8_iff, any8_iff]
  constructor
  · rintro ⟨l, hl, e⟩
    simp only [Bool.and_eq_true, decide_eq_true_eq] at e
    by_cases q : l = i
    · exact Or.inr (q ▸ e.2)
    · exact Or.inl ⟨l, hl, by simp only [Bool.and_eq_true, decide_eq_true_eq]; exact ⟨by omega, e.2⟩⟩
  · rintro (⟨l, hl, e⟩ | e)
    · simp only [Bool.and_eq_true, decide_eq_true_eq] at e
      exact ⟨l, hl, by simp only [Bool.and_eq_true, decide_eq_true_eq]; exact ⟨by omega, e.2⟩⟩
    · exact ⟨i, hi, by simp [e]⟩
theorem mk_or (n : Nat) (f g : Nat → Bool) : mk n f ||| mk n g = mk n fun i => f i || g i := mk_eq fun i => by
  rw [Nat.testBit_or, mk_tb, mk_tb]; cases decide (i < n) <;> rfl
/-- who gets in by any lock of a set -/
def giB (s : SC) (f : Nat → Bool) : Nat → Bool := fun p => any8 fun l => f l && knO s p l
/-- which locks a set of persons knows -/
def kbB (s : SC) (g : Nat → Bool) : Nat → Bool := fun l => any6 fun p => g p && knO s p l
def inR (s : SC) : Nat → Bool := fun l => decide (l ∈ rgO s)
section C
variable {n L : Nat} {s : SC} {S : Ob}
theorem Vs.lt8 (h : Vs n L s) (hL : L ≤ 8) {l : Nat} (hl : l ∈ rgO s) : l < 8 := Nat.lt_of_lt_of_le (h.2.1 l hl) hL
theorem bh_in (h : Cs s S) {l : Nat} (hl : l ∈ rgO s) : ∃ y, y ∈ rgO s ∧ S.2 3 l = nI y := by
  obtain ⟨k, hk, e⟩ := gd_of_mem hl
  have := h.2.2.2.1.1 k hk
  rw [e] at this
  exact ⟨_, gd_mem (Nat.mod_lt _ (by omega)), this⟩
theorem c_behindOf (l : Nat) (hl : l < 8) {post : Int32 → Prop} (hp : post (S.2 3 l)) : wp_X3_behindOf S (nI l) post := by
  unfold wp_X3_behindOf
  refine ⟨fun c => absurd c (nI_pos (by omega)), fun _ => ⟨fun c => absurd c (nI_ge (b := 8) (a := l) hl (by decide)), fun _ => ⟨vp_in_nI hl (by decide), ?_⟩⟩⟩
  rw [nI_clamp (by omega)]
  exact hp
theorem c_behindOf9 {post : Int32 → Prop} (hp : post (-9)) : wp_X3_behindOf S (-9) post := by
  unfold wp_X3_behindOf
  exact ⟨fun _ => hp, fun c => absurd (by decide) c⟩
theorem c_inRing (hV : Vs n L s) (hL : L ≤ 8) (h : Cs s S) (l : Nat) (hl : l < 8) {post : Int32 → Prop} (h1 : l ∈ rgO s → post 1) (h0 : l ∉ rgO s → post 0) : wp_X3_inRing S (nI l) post := by
  unfold wp_X3_inRing
  refine c_behindOf l hl ?_
  by_cases hm : l ∈ rgO s
  · obtain ⟨y, hy, e⟩ := bh_in h hm
    rw [e]
    exact ⟨fun c => absurd c (n9 (by have := hV.lt8 hL hy; omega)), fun _ => h1 hm⟩
  · rw [h.2.2.2.1.2 l hl hm]
    exact ⟨fun _ => h0 hm, fun c => absurd rfl c⟩
theorem c_ringBits (hV : Vs n L s) (hL : L ≤ 8) (h : Cs s S) {post : Int32 → Prop} (hp : post (nI (mk 8 (inR s)))) : wp_X3_ringBits S post := by
  have key : ∀ k i, i + k = 8 → wp_X3_ringBits_L4 post S (k + 1) (nI (mk i (inR s))) (nI i) := by
    intro k
    induction k with
    | zero =>
      intro i hi
      have : i = 8 := by omega
      subst this
      rw [wp_X3_ringBits_L4]
      exact ⟨fun _ => hp, fun c => absurd (by decide) c⟩
    | succ k ih =>
      intro i hi
      rw [wp_X3_ringBits_L4]
      refine ⟨fun c => absurd c (nI_ge (b := 8) (by omega) (by decide)), fun _ => ?_⟩
      have ih1 := ih (i + 1) (by omega)
      refine c_inRing hV hL h i (by omega) (fun hm => ⟨fun c => absurd c (by decide), fun _ => ?_⟩) (fun hm => ⟨fun _ => ?_, fun c => absurd rfl c⟩)
      · rw [sh1 i (by omega), fa_or, mk_t (by simp [inR, hm]), nI_1]; exact ih1
      · rw [mk_f (f := inR s) (n := i) (by simp [inR, hm]), nI_1]; exact ih1
  exact ⟨9, key 8 0 rfl⟩
theorem c_ringSize (hV : Vs n L s) (hL : L ≤ 8) (h : Cs s S) {post : Int32 → Prop} (hp : post (nI (rgO s).length)) : wp_X3_ringSize S post := by
  unfold wp_X3_ringSize
  refine c_ringBits hV hL h (bc_ok (mk_8 _) ?_)
  rw [ct_mk8]
  unfold inR
  rw [ct_list hV.1 (fun x hx => hV.lt8 hL hx)]
  exact hp
theorem c_hasBit {a p : Nat} (ha : a < 2 ^ 31) (hp : p < 31) {post : Int32 → Prop} (h1 : a.testBit p = true → post 1) (h0 : a.testBit p = false → post 0) : wp_X5_hasBit (nI a) (nI p) post := by
  unfold wp_X5_hasBit
  refine ⟨fun c => h0 ?_, fun c => h1 ((hb ha hp).mp c)⟩
  cases q : a.testBit p with
  | false => rfl
  | true => exact absurd ((hb ha hp).mpr q) c
theorem c_knows (h : Cs s S) {p l : Nat} (hp : p < 6) (hl : l < 8) {post : Int32 → Prop} (h1 : knO s p l = true → post 1) (h0 : knO s p l = false → post 0) : wp_X3_knows S (nI p) (nI l) post := by
  unfold wp_X3_knows
  refine ⟨vp_in_nI hl (by decide), ?_⟩
  rw [nI_clamp (by omega), h.2.2.1 l hl]
  have e : (mk 6 fun p => knO s p l).testBit p = knO s p l := by rw [mk_tb]; simp [hp]
  refine c_hasBit (by have := mk_6 (fun p => knO s p l); omega) (by omega) (fun q => ⟨nar1, h1 (e ▸ q)⟩) (fun q => ⟨nar0, h0 (e ▸ q)⟩)
theorem c_knowerCount (h : Cs s S) {l : Nat} (hl : l < 8) {post : Int32 → Prop} (hp : post (nI (ct 6 fun p => knO s p l))) : wp_X3_knowerCount S (nI l) post := by
  unfold wp_X3_knowerCount
  refine ⟨vp_in_nI hl (by decide), ?_⟩
  rw [nI_clamp (by omega), h.2.2.1 l hl]
  refine bc_ok (by have := mk_6 (fun p => knO s p l); omega) ?_
  rw [ct_mk6]
  exact hp
theorem and0 {a b : Nat} : nI (a &&& b) = 0 ↔ ∀ i, i < 32 → (a.testBit i && b.testBit i) = false := by
  constructor
  · intro h i hi
    have := bt_nI (a := a &&& b) hi
    rw [h, Nat.testBit_and] at this
    rw [← this]
    exact BitVec.getLsbD_zero
  · intro h
    rw [← nI_0]
    exact nb_eq fun i hi => by rw [Nat.testBit_and, h i hi]; simp
theorem c_knownBy (h : Cs s S) {a : Nat} (ha : a < 64) {post : Int32 → Prop} (hp : post (nI (mk 8 (kbB s a.testBit)))) : wp_X3_knownBy S (nI a) post := by
  have key : ∀ k i, i + k = 8 → wp_X3_knownBy_L4 post (nI a) S (k + 1) (nI (mk i (kbB s a.testBit))) (nI i) := by
    intro k
    induction k with
    | zero =>
      intro i hi
      have : i = 8 := by omega
      subst this
      rw [wp_X3_knownBy_L4]
      exact ⟨fun _ => hp, fun c => absurd (by decide) c⟩
    | succ k ih =>
      intro i hi
      rw [wp_X3_knownBy_L4]
      refine ⟨fun c => absurd c (nI_ge (b := 8) (by omega) (by decide)), fun _ => ⟨vp_in_nI (by omega) (by decide), ?_⟩⟩
      have ih1 := ih (i + 1) (by omega)
      rw [nI_clamp (by omega), h.2.2.1 i (by omega), fa_and]
      refine ⟨fun c => ?_, fun c => ?_⟩
      · have : kbB s a.testBit i = false := by
          cases q : kbB s a.testBit i with
          | false => rfl
          | true =>
            obtain ⟨p, hp6, hq⟩ := any6_iff.mp q
            have := and0.mp c p (by omega)
            rw [mk_tb] at this
            simp only [Bool.and_eq_true] at hq
            simp [hp6, hq.1, hq.2] at this
        rw [mk_f this, nI_1]; exact ih1
      · have : kbB s a.testBit i = true := by
          cases q : kbB s a.testBit i with
          | true => rfl
          | false =>
            exfalso
            refine c (and0.mpr fun p hp32 => ?_)
            rw [mk_tb]
            by_cases hp6 : p < 6
            · have : ¬ (a.testBit p && knO s p i) = true := fun z => by
                have := any6_iff (f := fun p => a.testBit p && knO s p i) |>.mpr ⟨p, hp6, z⟩
                unfold kbB at q
                rw [q] at this
                exact absurd this (by decide)
              cases x : knO s p i <;> cases y : a.testBit p <;> simp_all
            · simp [hp6]
        rw [sh1 i (by omega), fa_or, mk_t this, nI_1]; exact ih1
  exact ⟨9, key 8 0 rfl⟩
theorem c_whoKnowsAny (h : Cs s S) {a : Nat} (ha : a < 256) {post : Int32 → Prop} (hp : post (nI (mk 6 (giB s a.testBit)))) : wp_X3_whoKnowsAny S (nI a) post := by
  have key : ∀ k i, i + k = 8 → wp_X3_whoKnowsAny_L4 post (nI a) S (k + 1) (nI (mk 6 (fun p => any8 fun l => decide (l < i) && (a.testBit l && knO s p l)))) (nI i) := by
    intro k
    induction k with
    | zero =>
      intro i hi
      have : i = 8 := by omega
      subst this
      rw [wp_X3_whoKnowsAny_L4]
      refine ⟨fun _ => ?_, fun c => absurd (by decide) c⟩
      have e : mk 6 (fun p => any8 fun l => decide (l < 8) && (a.testBit l && knO s p l)) = mk 6 (giB s a.testBit) := mk_cg fun p hp => any8_cg fun l hl => by simp [hl]
      rw [e]; exact hp
    | succ k ih =>
      intro i hi
      rw [wp_X3_whoKnowsAny_L4]
      refine ⟨fun c => absurd c (nI_ge (b := 8) (by omega) (by decide)), fun _ => ?_⟩
      have ih1 := ih (i + 1) (by omega)
      refine c_hasBit (by omega) (by omega) (fun q => ⟨fun c => absurd c (by decide), fun _ => ⟨vp_in_nI (by omega) (by decide), ?_⟩⟩) (fun q => ⟨fun _ => ?_, fun c => absurd rfl c⟩)
      · rw [nI_clamp (by omega), h.2.2.1 i (by omega), fa_or, mk_or, nI_1]
        have e : mk 6 (fun p => (any8 fun l => decide (l < i) && (a.testBit l && knO s p l)) || knO s p i) = mk 6 (fun p => any8 fun l => decide (l < i + 1) && (a.testBit l && knO s p l)) := mk_cg fun p hp => by
          rw [any8_step _ (by omega), q]; simp
        rw [e]; exact ih1
      · rw [nI_1]
        have e : mk 6 (fun p => any8 fun l => decide (l < i) && (a.testBit l && knO s p l)) = mk 6 (fun p => any8 fun l => decide (l < i + 1) && (a.testBit l && knO s p l)) := mk_cg fun p hp => by
          rw [any8_step _ (by omega), q]; simp
        rw [e]; exact ih1
  refine ⟨9, ?_⟩
  have h0 := key 8 0 rfl
  have e : mk 6 (fun p => any8 fun l => decide (l < 0) && (a.testBit l && knO s p l)) = 0 := by
    rw [show (fun p => any8 fun l => decide (l < 0) && (a.testBit l && knO s p l)) = fun _ => false from by funext p; rw [← Bool.not_eq_true, any8_iff]; simp]
    decide
  rw [e] at h0
  exact h0
theorem giB_cg {f g : Nat → Bool} (h : ∀ l, l < 8 → f l = g l) (p : Nat) : giB s f p = giB s g p := any8_cg fun l hl => by rw [h l hl]
theorem c_whoGetsIn (hV : Vs n L s) (hL : L ≤ 8) (h : Cs s S) {post : Int32 → Prop} (hp : post (nI (mk 6 (giB s (inR s))))) : wp_X3_whoGetsIn S post := by
  unfold wp_X3_whoGetsIn
  refine c_ringBits hV hL h (c_whoKnowsAny h (mk_8 _) ?_)
  have e : mk 6 (giB s (mk 8 (inR s)).testBit) = mk 6 (giB s (inR s)) := mk_cg fun p _ => giB_cg (fun l hl => by rw [mk_tb]; simp [hl]) p
  rw [e]; exact hp
theorem c_isOpen (hV : Vs n L s) (hL : L ≤ 8) (h : Cs s S) {post : Int32 → Prop} (h1 : ∀ o, opO s = some o → post 1) (h0 : opO s = none → post 0) : wp_X3_isOpen S post := by
  unfold wp_X3_isOpen
  rw [h.2.2.2.2]
  cases q : opO s with
  | none => exact ⟨fun _ => h0 q, fun c => absurd (show (-9 : Int32) < 0 by decide) c⟩
  | some o =>
    have ho := hV.lt8 hL (hV.2.2.2.2.2 o q)
    exact ⟨fun c => absurd c (nI_pos (by omega)), fun _ => ⟨fun c => absurd c (nI_ge (b := 8) (a := o) ho (by decide)), fun _ => h1 o q⟩⟩
theorem nd_inj {r : List Nat} (hn : r.Nodup) {i j : Nat} (hi : i < r.length) (hj : j < r.length) (e : r.getD i 0 = r.getD j 0) : i = j := by
  rw [List.getD_eq_getElem?_getD, List.getD_eq_getElem?_getD, List.getElem?_eq_getElem hi, List.getElem?_eq_getElem hj] at e
  exact (List.getElem_inj hn).mp e
theorem self_next {r : List Nat} {B : Nat → Int32} (hn : r.Nodup) (h8 : ∀ x ∈ r, x < 8) (h : BH r B) {l : Nat} (hl : l ∈ r) : B l = nI l ↔ r.length = 1 := by
  obtain ⟨k, hk, e⟩ := gd_of_mem hl
  have hb := h.1 k hk
  have hm : (k + 1) % r.length < r.length := Nat.mod_lt _ (by omega)
  have h1 := h8 _ (gd_mem hm)
  have h2 := h8 _ hl
  rw [e] at hb
  rw [hb, nI_eq (by omega) (by omega)]
  constructor
  · intro q
    have := nd_inj hn hm hk (q.trans e.symm)
    rcases Nat.lt_or_ge (k + 1) r.length with z | z
    · rw [Nat.mod_eq_of_lt z] at this; omega
    · rw [show k + 1 = r.length by omega, Nat.mod_self] at this; omega
  · intro q
    have : k = 0 := by omega
    subst this
    rw [q] at *
    exact e
/-- whether it can be shut on a lock -/
def csB (s : SC) (l : Nat) : Bool := (opO s).isSome && decide (l ∈ rgO s) && (!decide (opO s = some l) || decide ((rgO s).length = 1))
theorem c_canShutOn (hV : Vs n L s) (hL : L ≤ 8) (h : Cs s S) {l : Nat} (hl : l < 8) {post : Int32 → Prop} (h1 : csB s l = true → post 1) (h0 : csB s l = false → post 0) : wp_X3_canShutOn S (nI l) post := by
  have J : ∀ t : Int32, (l ∈ rgO s → (t = 0 ↔ ¬ (rgO s).length = 1)) → wp_X3_canShutOn_J14 post (nI l) t S := by
    intro t ht
    unfold wp_X3_canShutOn_J14
    refine c_isOpen hV hL h (fun o ho => ⟨fun c => absurd c (by decide), fun _ => ?_⟩) (fun ho => ⟨fun _ => h0 (by simp [csB, ho]), fun c => absurd rfl c⟩)
    refine c_inRing hV hL h l hl (fun hm => ⟨fun c => absurd c (by decide), fun _ => ?_⟩) (fun hm => ⟨fun _ => h0 (by simp [csB, hm]), fun c => absurd rfl c⟩)
    have ho8 := hV.lt8 hL (hV.2.2.2.2.2 o ho)
    rw [h.2.2.2.2, ho]
    show (¬ nI l = nI o → _) ∧ (nI l = nI o → _)
    rw [nI_eq (by omega) (by omega)]
    refine ⟨fun c => h1 (by simp [csB, ho, hm]; exact Or.inl fun q => c q.symm), fun c => ⟨fun z => h0 ?_, fun z => h1 ?_⟩⟩
    · subst c
      have := (ht hm).mp z
      simp [csB, ho, hm, this]
    · subst c
      have : (rgO s).length = 1 := Decidable.not_not.mp fun q => z ((ht hm).mpr q)
      simp [csB, ho, hm, this]
  unfold wp_X3_canShutOn
  refine c_behindOf l hl ⟨fun c => J 0 fun hm => ⟨fun _ q => c ((self_next hV.1 (fun x hx => hV.lt8 hL hx) h.2.2.2.1 hm).mpr q), fun _ => rfl⟩, fun c => J 1 fun hm => ⟨fun q => absurd q (by decide), fun q => absurd ((self_next hV.1 (fun x hx => hV.lt8 hL hx) h.2.2.2.1 hm).mp c) q⟩⟩
/-- which come beside -/
def bwl (r : List Nat) (o l : Nat) : List Nat := (rt r o ++ [o]).takeWhile (fun x => x != l)
def bwS (s : SC) (l : Nat) : List Nat := bwl (rgO s) ((opO s).getD 0) l
theorem tw_eq {u v : List Nat} {l : Nat} (h : ∀ x ∈ u, x ≠ l) : (u ++ l :: v).takeWhile (fun x => x != l) = u := by
  induction u with
  | nil => simp
  | cons a u ih =>
    have ha : a ≠ l := h a List.mem_cons_self
    simp [ha]
    exact ih fun x hx => h x (List.mem_cons_of_mem _ hx)
theorem tw_mem {p : Nat → Bool} : ∀ (w : List Nat) (x : Nat), x ∈ w.takeWhile p → p x = true
  | [], _, h => by cases h
  | a :: w, x, h => by
    rw [List.takeWhile_cons] at h
    by_cases q : p a = true
    · rw [if_pos q] at h
      rcases List.mem_cons.mp h with e | e
      · rw [e]; exact q
      · exact tw_mem w x e
    · rw [if_neg q] at h; cases h
theorem bw_split {r : List Nat} {o l : Nat} (ho : o ∈ r) (hl : l ∈ r) : ∃ v, rt r o ++ [o] = bwl r o l ++ l :: v ∧ ∀ x ∈ bwl r o l, x ≠ l := by
  have hm : l ∈ rt r o ++ [o] := by
    rcases (rt_mem ho).mp hl with e | e
    · simp [e]
    · simp [e]
  obtain ⟨u, v, e⟩ := List.append_of_mem hm
  -- the first of them
  have key : ∀ (w : List Nat), l ∈ w → ∃ v, w = w.takeWhile (fun x => x != l) ++ l :: v := by
    intro w hw
    induction w with
    | nil => cases hw
    | cons a w ih =>
      by_cases q : a = l
      · subst q; exact ⟨w, by simp⟩
      · obtain ⟨v, hv⟩ := ih (by rcases List.mem_cons.mp hw with z | z; exact absurd z.symm q; exact z)
        refine ⟨v, ?_⟩
        have : (a != l) = true := by simp [q]
        rw [List.takeWhile_cons, if_pos this]
        exact congrArg (a :: ·) hv
  obtain ⟨v2, e2⟩ := key _ hm
  refine ⟨v2, e2, fun x hx => ?_⟩
  have := tw_mem _ x hx
  simpa using this
theorem c_between (hV : Vs n L s) (hL : L ≤ 8) (h : Cs s S) {o l : Nat} (ho : opO s = some o) (hl : l ∈ rgO s) {post : Int32 → Prop} (hp : post (nI (lm (bwS s l)))) : wp_X3_between S (nI l) post := by
  have hor := hV.2.2.2.2.2 o ho
  have hB := BH_to hor h.2.2.2.1
  have h8 : ∀ x ∈ rgO s, x < 8 := fun x hx => hV.lt8 hL hx
  have hlen : (rt (rgO s) o ++ [o]).length ≤ 8 := by
    have := len8 hV.1 h8
    have h2 := rt_len hor
    simp; omega
  have hbw : bwS s l = bwl (rgO s) o l := by simp [bwS, ho]
  have key : ∀ (v u : List Nat) (x : Nat), rt (rgO s) o ++ [o] = u ++ x :: v → (∀ y ∈ u, y ≠ l) → l ∈ x :: v → wp_X3_between_L14 post (nI l) S (v.length + 1) (nI (lm u)) (nI x) (nI u.length) := by
    intro v
    induction v with
    | nil =>
      intro u x e hu hm
      have hx : x = l := by simpa using (List.mem_singleton.mp hm).symm
      subst hx
      have hul : u.length < 8 := by have := congrArg List.length e; simp at this hlen; omega
      show wp_X3_between_L14 _ _ _ (0 + 1) _ _ _
      rw [wp_X3_between_L14]
      refine ⟨fun c => absurd c (nI_ge (b := 8) hul (by decide)), fun _ => ⟨fun _ => ?_, fun c => absurd rfl c⟩⟩
      rw [hbw] at hp
      unfold bwl at hp
      rw [e, tw_eq hu] at hp
      exact hp
    | cons y v ih =>
      intro u x e hu hm
      have hul : u.length < 8 := by have := congrArg List.length e; simp at this hlen; omega
      have hmem : ∀ z ∈ u ++ x :: y :: v, z < 8 := by
        intro z hz
        rw [← e] at hz
        rcases List.mem_append.mp hz with q | q
        · exact h8 z ((rt_mem hor).mpr (Or.inr q))
        · rw [List.mem_singleton.mp q]; exact h8 o hor
      have hx8 : x < 8 := hmem x (by simp)
      have hy8 : y < 8 := hmem y (by simp)
      show wp_X3_between_L14 _ _ _ (v.length + 1 + 1) _ _ _
      rw [wp_X3_between_L14]
      refine ⟨fun c => absurd c (nI_ge (b := 8) hul (by decide)), fun _ => ⟨fun c => ?_, fun c => ⟨fun c2 => absurd c2 (n9 (by omega)), fun _ => ?_⟩⟩⟩
      · have hx : x = l := (nI_eq (by omega) (by have := h8 l hl; omega)).mp c
        subst hx
        rw [hbw] at hp
        unfold bwl at hp
        rw [e, tw_eq hu] at hp
        exact hp
      · refine c_behindOf x hx8 ?_
        rw [BH_walk hB u x y v e, sh1 x (by omega), fa_or, lm_push u hx8, nI_1]
        have hxl : x ≠ l := fun q => c (by rw [q])
        have := ih (u ++ [x]) y (by rw [e]; simp) (by
          intro z hz
          rcases List.mem_append.mp hz with q | q
          · exact hu z q
          · rw [List.mem_singleton.mp q]; exact hxl) (by
          rcases List.mem_cons.mp hm with q | q
          · exact absurd q.symm hxl
          · exact q)
        rw [List.length_append] at this
        exact this
  unfold wp_X3_between
  rw [h.2.2.2.2, ho]
  show wp_X3_behindOf S (nI o) _
  obtain ⟨x, v, e⟩ : ∃ x v, rt (rgO s) o ++ [o] = x :: v := by
    cases q : rt (rgO s) o ++ [o] with
    | nil => simp at q
    | cons x v => exact ⟨x, v, rfl⟩
  refine c_behindOf o (h8 o hor) ?_
  rw [BH_first hB x v e]
  refine ⟨v.length + 1, ?_⟩
  have := key v [] x (by simpa using e) (by simp) (by
    rw [← e]
    rcases (rt_mem hor).mp hl with q | q
    · simp [q]
    · simp [q])
  rw [lm_0] at this
  exact this
end C
