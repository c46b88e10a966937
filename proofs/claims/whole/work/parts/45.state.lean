/-! ===== pure: the whole state ===== -/
/-- a scene, how many are ahead of it, those -/
abbrev NW : Type := SC × Nat × (Nat → SC)
/-- persons, locks, friends, now, images, text, what was heard, the trace -/
abbrev St : Type := Nat × Nat × (Nat → Nat) × NW × (Nat → Option NW) × (Nat × (Nat → Nat)) × List (Nat × Nat) × Int64
abbrev nO (σ : St) : Nat := σ.1
abbrev LO (σ : St) : Nat := σ.2.1
abbrev frO (σ : St) : Nat → Nat := σ.2.2.1
abbrev wO (σ : St) : NW := σ.2.2.2.1
abbrev imO (σ : St) : Nat → Option NW := σ.2.2.2.2.1
abbrev txO (σ : St) : Nat × (Nat → Nat) := σ.2.2.2.2.2.1
abbrev heO (σ : St) : List (Nat × Nat) := σ.2.2.2.2.2.2.1
abbrev trO (σ : St) : Int64 := σ.2.2.2.2.2.2.2
abbrev scO (σ : St) : SC := (wO σ).1
def VN (n L : Nat) (w : NW) : Prop := Vs n L w.1 ∧ w.2.1 ≤ 10 ∧ ∀ i, i < w.2.1 → Vs n L (w.2.2 i)
def CN (w : NW) (A B : Ob) (O : Nat → Ob) : Prop := Cs w.1 B ∧ A.1 2 = nI w.2.1 ∧ ∀ i, i < w.2.1 → Cs (w.2.2 i) (O i)
def MN (w : NW) (R : Nat → Int32) (u : Int32) (Rs : Nat → Int32) : Prop := Ms w.1 R ∧ u = nI w.2.1 ∧ ∀ i, i < w.2.1 → Ms (w.2.2 i) (fun j => Rs (32 * i + j))
/-- what it can be -/
def fitB (he : List (Nat × Nat)) (x : Nat) : Bool := he.all fun e => decide (rw3 x e.1 = e.2)
def ps (he : List (Nat × Nat)) : List Nat := (List.range 1000).filter (fitB he)
def RR (he : List (Nat × Nat)) (S : Ob) : Prop := S.1 1 = nI (ps he).length ∧ S.1 2 = nI he.length ∧ ∀ i, i < (ps he).length → S.2 0 i = nI ((ps he).getD i 0)
def bI (b : Bool) : Int32 := if b then 1 else 0
def IC (o : Option NW) (v : Int32) (A B : Ob) (O : Nat → Ob) : Prop := v = bI o.isSome ∧ ∀ w, o = some w → CN w A B O
def TX (t : Nat × (Nat → Nat)) (u : Int32) (R : Nat → Int32) : Prop := u = nI t.1 ∧ ∀ i, i < t.1 → R i = nI (t.2 i)
def VS (σ : St) : Prop := nO σ ≤ 6 ∧ LO σ ≤ 8 ∧ (∀ p, frO σ p < 64) ∧ VN (nO σ) (LO σ) (wO σ) ∧ (∀ b w, imO σ b = some w → VN (nO σ) (LO σ) w) ∧ ((txO σ).1 ≤ 150 ∧ ∀ i, (txO σ).2 i < 256) ∧ (heO σ).length ≤ 4 ∧ ∀ e, e ∈ heO σ → e.1 < 1000 ∧ e.2 ≤ 3
def RC (σ : St) (Z : GC) : Prop := (Z.2.1 4).1 3 = nI (nO σ) ∧ (Z.2.1 4).1 4 = nI (LO σ) ∧ (∀ p, p < 6 → (Z.2.1 4).2 2 p = nI (frO σ p)) ∧ CN (wO σ) (Z.2.1 2) (Z.2.1 3) (Z.2.2 0) ∧ IC (imO σ 0) ((Z.2.1 7).2 3 0) (Z.2.1 8) (Z.2.1 10) (Z.2.2 1) ∧ IC (imO σ 1) ((Z.2.1 7).2 3 1) (Z.2.1 9) (Z.2.1 11) (Z.2.2 2) ∧ TX (txO σ) ((Z.2.1 1).1 1) ((Z.2.1 1).2 0) ∧ RR (heO σ) (Z.2.1 6) ∧ Z.1 = trO σ
def HM (he : List (Nat × Nat)) (u : Int32) (A B : Nat → Int32) : Prop := u = nI he.length ∧ ∀ i, i < he.length → A i = nI (he.getD i (0, 0)).1 ∧ B i = nI (he.getD i (0, 0)).2
def RM (σ : St) (M : Mo) : Prop := M.1.1 0 = nI (nO σ) ∧ M.1.1 1 = nI (LO σ) ∧ (∀ p, p < 6 → M.1.2 2 p = nI (frO σ p)) ∧ MN (wO σ) (M.1.2 7) (M.1.1 9) (M.1.2 8) ∧ M.1.1 10 = nI (mk 2 fun b => (imO σ b).isSome) ∧ (∀ w, imO σ 0 = some w → MN w (M.1.2 11) (M.1.2 12 0) (M.1.2 13)) ∧ (∀ w, imO σ 1 = some w → MN w (fun j => M.1.2 11 (32 + j)) (M.1.2 12 1) (fun j => M.1.2 13 (320 + j))) ∧ TX (txO σ) (M.1.1 14) (M.1.2 15) ∧ HM (heO σ) (M.1.1 16) (M.1.2 17) (M.1.2 18) ∧ M.2 = trO σ
/-- steps of the state -/
def wS (σ : St) (w : NW) : St := (nO σ, LO σ, frO σ, w, imO σ, txO σ, heO σ, trO σ)
def scS (σ : St) (s : SC) : St := wS σ (s, (wO σ).2)
def poU (f : Nat → SC) (k : Nat) (s : SC) : Nat → SC := fun j => if j = k then s else f j
def remW (w : NW) : NW := (w.1, if w.2.1 < 10 then (w.2.1 + 1, poU w.2.2 w.2.1 w.1) else (10, fun i => if i < 9 then w.2.2 (i + 1) else w.1))
def remS (σ : St) : St := wS σ (remW (wO σ))
def undW (w : NW) : NW := (w.2.2 (w.2.1 - 1), w.2.1 - 1, w.2.2)
theorem remW_lt {w : NW} (h : w.2.1 < 10) : remW w = (w.1, w.2.1 + 1, poU w.2.2 w.2.1 w.1) := by unfold remW; rw [if_pos h]
theorem remW_ge {w : NW} (h : ¬ w.2.1 < 10) : remW w = (w.1, 10, fun i => if i < 9 then w.2.2 (i + 1) else w.1) := by unfold remW; rw [if_neg h]
theorem VN_rem {n L : Nat} {w : NW} (h : VN n L w) : VN n L (remW w) := by
  by_cases q : w.2.1 < 10
  · rw [remW_lt q]
    refine ⟨h.1, by show w.2.1 + 1 ≤ 10; omega, fun i hi => ?_⟩
    show Vs n L (poU w.2.2 w.2.1 w.1 i)
    unfold poU
    split
    · exact h.1
    · exact h.2.2 i (by have : i < w.2.1 + 1 := hi; omega)
  · rw [remW_ge q]
    refine ⟨h.1, Nat.le_refl _, fun i hi => ?_⟩
    show Vs n L (if i < 9 then w.2.2 (i + 1) else w.1)
    split
    · exact h.2.2 (i + 1) (by have := h.2.1; omega)
    · exact h.1
theorem VN_und {n L : Nat} {w : NW} (h : VN n L w) (h0 : w.2.1 ≠ 0) : VN n L (undW w) := ⟨h.2.2 _ (by omega), by show w.2.1 - 1 ≤ 10; have := h.2.1; omega, fun i hi => h.2.2 i (by have : i < w.2.1 - 1 := hi; omega)⟩
theorem VN_sc {n L : Nat} {w : NW} (h : VN n L w) {s : SC} (hs : Vs n L s) : VN n L (s, w.2) := ⟨hs, h.2⟩
theorem Ms_cg {n L : Nat} {s : SC} {R R' : Nat → Int32} (hV : Vs n L s) (hL : L ≤ 8) (e : ∀ j, j < 32 → R' j = R j) (h : Ms s R) : Ms s R' := by
  obtain ⟨h1, h2, h3, h4, h5, h6⟩ := h
  have h8 := len8 hV.1 (fun x hx => hV.lt8 hL hx)
  exact ⟨fun k hk => (e k (by omega)).trans (h1 k hk), (e 8 (by decide)).trans h2, (e 9 (by decide)).trans h3, fun l hl => (e _ (by omega)).trans (h4 l hl), fun l hl => (e _ (by omega)).trans (h5 l hl), fun p hp => (e _ (by omega)).trans (h6 p hp)⟩
theorem t1 {A B : Prop} (h : A) : (¬ (1 : Int32) = 0 → A) ∧ ((1 : Int32) = 0 → B) := ⟨fun _ => h, fun c => absurd c (by decide)⟩
theorem t2 {A B : Prop} (h : A) : ((1 : Int32) = 0 → B) ∧ (¬ (1 : Int32) = 0 → A) := ⟨fun c => absurd c (by decide), fun _ => h⟩
theorem f1 {A B : Prop} (h : B) : (¬ (0 : Int32) = 0 → A) ∧ ((0 : Int32) = 0 → B) := ⟨fun c => absurd rfl c, fun _ => h⟩
theorem f2 {A B : Prop} (h : A) : ((0 : Int32) = 0 → A) ∧ (¬ (0 : Int32) = 0 → B) := ⟨fun _ => h, fun c => absurd rfl c⟩
/-! the class's now -/
section C
variable {n L : Nat} {w : NW} {A B : Ob} {O : Nat → Ob}
theorem c_remember (hV : VN n L w) (hL : L ≤ 8) (h : CN w A B O) {post : Ob → Ob → (Nat → Ob) → Prop} (hp : ∀ A' O', CN (remW w) A' B O' → post A' B O') : wp_X0_remember A B O post := by
  obtain ⟨h1, h2, h3⟩ := h
  have hk := hV.2.1
  unfold wp_X0_remember
  rw [h2, show (10 : Int32) = nI 10 from rfl, nI_ltI (by omega) (by decide)]
  refine ⟨fun c => ⟨vp_in_nI c (by decide), c_copyFrom fun S' e => hp _ _ ?_⟩, fun c => ?_⟩
  · rw [remW_lt c, nI_clamp (by omega)]
    refine ⟨h1, by show nI w.2.1 + 1 = _; rw [nI_1], fun i hi => ?_⟩
    show Cs (poU w.2.2 w.2.1 w.1 i) (po O w.2.1 S' i)
    unfold poU po
    by_cases q : i = w.2.1
    · rw [if_pos q, if_pos q]; exact Cs_eq hV.1 hL e h1
    · rw [if_neg q, if_neg q]; exact h3 i (by have : i < w.2.1 + 1 := hi; omega)
  · have hk10 : w.2.1 = 10 := by omega
    unfold wp_X0_loseOldest
    refine ⟨by show vp_in (9 : Int32) 10; exact vp_in_nI (n := 9) (by decide) (by decide), c_copyFrom fun S' e => hp _ _ ?_⟩
    rw [remW_ge c]
    refine ⟨h1, rfl, fun i hi => ?_⟩
    have hi : i < 10 := hi
    show Cs (if i < 9 then w.2.2 (i + 1) else w.1) (po (rot10 O) 9 S' i)
    unfold po rot10
    by_cases q : i < 9
    · rw [if_pos q, if_neg (by omega), if_pos q]; exact h3 (i + 1) (by omega)
    · rw [if_neg q, if_pos (by omega)]; exact Cs_eq hV.1 hL e h1
theorem c_takeBack (hV : VN n L w) (hL : L ≤ 8) (h0 : w.2.1 ≠ 0) (h : CN w A B O) {post : Ob → Ob → (Nat → Ob) → Prop} (hp : ∀ A' B' O', CN (undW w) A' B' O' → post A' B' O') : wp_X0_takeBack A B O post := by
  obtain ⟨h1, h2, h3⟩ := h
  have hk := hV.2.1
  have e1 : (pf A 2 (A.1 2 - 1)).1 2 = nI (w.2.1 - 1) := by
    show A.1 2 - 1 = _
    rw [h2, show (1 : Int32) = nI 1 from rfl, pk_sub (by omega)]
  unfold wp_X0_takeBack
  rw [e1, h2]
  refine ⟨fun c => absurd c (nI_nle (by omega) (by omega)), fun _ => ⟨vp_in_nI (by omega) (by decide), c_copyFrom fun S' e => hp _ _ _ ?_⟩⟩
  rw [nI_clamp (by omega)] at e ⊢
  have ep : po O (w.2.1 - 1) (O (w.2.1 - 1)) = O := by
    funext j
    unfold po
    split
    · next q => rw [q]
    · rfl
  rw [ep]
  refine ⟨Cs_eq (hV.2.2 _ (by omega)) hL e (h3 _ (by omega)), ?_, fun i hi => h3 i (by have : i < w.2.1 - 1 := hi; omega)⟩
  show nI w.2.1 - 1 = nI (w.2.1 - 1)
  rw [show (1 : Int32) = nI 1 from rfl, pk_sub (by omega)]
theorem c_copyNow {A' B' : Ob} {O' : Nat → Ob} (hV : VN n L w) (hL : L ≤ 8) (h : CN w A B O) {post : Ob → Ob → Ob → Ob → (Nat → Ob) → (Nat → Ob) → Prop} (hp : ∀ A1 B1 O1, CN w A1 B1 O1 → post A1 B1 A B O1 O) : wp_X0_copyFrom A' B' A B O' O post := by
  obtain ⟨h1, h2, h3⟩ := h
  have hk := hV.2.1
  unfold wp_X0_copyFrom
  refine c_copyFrom fun S' e => ?_
  have key : ∀ k i, i + k = w.2.1 → ∀ O1 : Nat → Ob, (∀ j, j < i → Cs (w.2.2 j) (O1 j)) → wp_X0_copyFrom_L21 post (k + 1) (nI i) (pf A' 2 (A.1 2)) S' A B O1 O := by
    intro k
    induction k with
    | zero =>
      intro i hi O1 hO
      have : i = w.2.1 := by omega
      subst this
      rw [wp_X0_copyFrom_L21]
      have e1 : (pf A' 2 (A.1 2)).1 2 = nI w.2.1 := h2
      rw [e1]
      exact ⟨fun _ => hp _ _ _ ⟨Cs_eq hV.1 hL e h1, e1, hO⟩, fun c => absurd (nI_le (Nat.le_refl _) (by omega)) c⟩
    | succ k ih =>
      intro i hi O1 hO
      rw [wp_X0_copyFrom_L21]
      have e1 : (pf A' 2 (A.1 2)).1 2 = nI w.2.1 := h2
      rw [e1]
      refine ⟨fun c => absurd c (nI_ge (by omega) (by omega)), fun _ => ⟨fun c => absurd c (nI_ge (b := 10) (by omega) (by decide)), fun _ => ⟨vp_in_nI (by omega) (by decide), vp_in_nI (by omega) (by decide), c_copyFrom fun S2 e2 => ?_⟩⟩⟩
      rw [nI_clamp (by omega)] at e2 ⊢
      have ep : po O i (O i) = O := by
        funext j
        unfold po
        split
        · next q => rw [q]
        · rfl
      rw [ep, nI_1]
      refine ih (i + 1) (by omega) _ (fun j hj => ?_)
      unfold po
      by_cases q : j = i
      · rw [if_pos q, q]; exact Cs_eq (hV.2.2 i (by omega)) hL e2 (h3 i (by omega))
      · rw [if_neg q]; exact hO j (by omega)
  exact ⟨_, key w.2.1 0 (by omega) O' (fun j hj => absurd hj (by omega))⟩
end C
section G
variable {σ : St} {Z : GC} {M : Mo}
theorem c_isPerson (hV : VS σ) (h : RC σ Z) {x : Int32} {post : Int32 → Prop} (h1 : ∀ j, pOf (nO σ) x = some j → j < nO σ → x = nI j → post 1) (h0 : pOf (nO σ) x = none → post 0) : wp_X5_isPerson Z x post := by
  unfold wp_X5_isPerson
  rw [h.1]
  exact c_in (by have := hV.1; omega) h1 h0
theorem c_isLock (hV : VS σ) (h : RC σ Z) {x : Int32} {post : Int32 → Prop} (h1 : ∀ j, pOf (LO σ) x = some j → j < LO σ → x = nI j → post 1) (h0 : pOf (LO σ) x = none → post 0) : wp_X5_isLock Z x post := by
  unfold wp_X5_isLock
  rw [h.2.1]
  exact c_in (by have := hV.2.1; omega) h1 h0
theorem c_isNumber {x : Int32} {post : Int32 → Prop} (h1 : ∀ j, pOf 1000 x = some j → j < 1000 → x = nI j → post 1) (h0 : pOf 1000 x = none → post 0) : wp_X5_isNumber x post := c_in (n := 1000) (by decide) h1 h0
theorem c_isImage {x : Int32} {post : Int32 → Prop} (h1 : ∀ j, pOf 2 x = some j → j < 2 → x = nI j → post 1) (h0 : pOf 2 x = none → post 0) : wp_X5_isImage x post := c_in (n := 2) (by decide) h1 h0
theorem m_isOne (hV : VS σ) (h : RM σ M) {x : Int32} {post : Int32 → Prop} (h1 : ∀ j, pOf (nO σ) x = some j → j < nO σ → x = nI j → post 1) (h0 : pOf (nO σ) x = none → post 0) : wp_X6_isOne M x post := by
  unfold wp_X6_isOne
  rw [h.1]
  exact m_in (by have := hV.1; omega) rfl (fun j a b c => ⟨nar1, h1 j a b c⟩) (fun a => ⟨nar0, h0 a⟩)
theorem m_isLock (hV : VS σ) (h : RM σ M) {x : Int32} {post : Int32 → Prop} (h1 : ∀ j, pOf (LO σ) x = some j → j < LO σ → x = nI j → post 1) (h0 : pOf (LO σ) x = none → post 0) : wp_X6_isLock M x post := by
  unfold wp_X6_isLock
  rw [h.2.1]
  exact m_in (by have := hV.2.1; omega) rfl (fun j a b c => ⟨nar1, h1 j a b c⟩) (fun a => ⟨nar0, h0 a⟩)
theorem RC_w (h : RC σ Z) {w : NW} {A B : Ob} {O : Nat → Ob} (hw : CN w A B O) : RC (wS σ w) (gpo (gx (gx Z 2 A) 3 B) 0 O) := by
  obtain ⟨a1, a2, a3, a4, a5, a6, a7, a8, a9⟩ := h
  exact ⟨a1, a2, a3, hw, a5, a6, a7, a8, a9⟩
theorem RC_sc (h : RC σ Z) {s : SC} {B : Ob} (hs : Cs s B) : RC (scS σ s) (gx Z 3 B) := by
  obtain ⟨a1, a2, a3, a4, a5, a6, a7, a8, a9⟩ := h
  exact ⟨a1, a2, a3, ⟨hs, a4.2⟩, a5, a6, a7, a8, a9⟩
theorem VS_w (h : VS σ) {w : NW} (hw : VN (nO σ) (LO σ) w) : VS (wS σ w) := by
  obtain ⟨a1, a2, a3, a4, a5⟩ := h
  exact ⟨a1, a2, a3, hw, a5⟩
theorem VS_rem (h : VS σ) : VS (remS σ) := VS_w h (VN_rem h.2.2.2.1)
theorem VS_sc (h : VS σ) {s : SC} (hs : Vs (nO σ) (LO σ) s) : VS (scS σ s) := VS_w h (VN_sc h.2.2.2.1 hs)
/-- remembered -/
theorem c_rem (hV : VS σ) (h : RC σ Z) {post : Ob → Ob → (Nat → Ob) → Prop} (hp : ∀ A' B' O', RC (remS σ) (gpo (gx (gx Z 2 A') 3 B') 0 O') → post A' B' O') : wp_X0_remember (Z.2.1 2) (Z.2.1 3) (Z.2.2 0) post :=
  c_remember hV.2.2.2.1 hV.2.1 h.2.2.2.1 fun A' O' h' => hp _ _ _ (RC_w h h')
/-! the model's row and those ahead -/
theorem RM_w (h : RM σ M) {w : NW} {M' : Mo} (e0 : ∀ k, k ≠ 9 → M'.1.1 k = M.1.1 k) (e1 : ∀ k, k ≠ 7 → k ≠ 8 → M'.1.2 k = M.1.2 k) (e2 : M'.2 = M.2) (hw : MN w (M'.1.2 7) (M'.1.1 9) (M'.1.2 8)) : RM (wS σ w) M' := by
  obtain ⟨a1, a2, a3, a4, a5, a6, a7, a8, a9, a10⟩ := h
  refine ⟨?_, ?_, ?_, hw, ?_, ?_, ?_, ?_, ?_, ?_⟩
  · rw [e0 0 (by decide)]; exact a1
  · rw [e0 1 (by decide)]; exact a2
  · rw [e1 2 (by decide) (by decide)]; exact a3
  · rw [e0 10 (by decide)]; exact a5
  · rw [e1 11 (by decide) (by decide), e1 12 (by decide) (by decide), e1 13 (by decide) (by decide)]; exact a6
  · rw [e1 11 (by decide) (by decide), e1 12 (by decide) (by decide), e1 13 (by decide) (by decide)]; exact a7
  · rw [e0 14 (by decide), e1 15 (by decide) (by decide)]; exact a8
  · rw [e0 16 (by decide), e1 17 (by decide) (by decide), e1 18 (by decide) (by decide)]; exact a9
  · rw [e2]; exact a10
theorem RM_sc (h : RM σ M) {s : SC} {M' : Mo} (e0 : M'.1.1 = M.1.1) (e1 : ∀ k, k ≠ 7 → M'.1.2 k = M.1.2 k) (e2 : M'.2 = M.2) (hs : Ms s (M'.1.2 7)) : RM (scS σ s) M' :=
  RM_w h (fun k _ => by rw [e0]) (fun k hk _ => e1 k hk) e2 ⟨hs, by rw [e0]; exact h.2.2.2.1.2.1, by rw [e1 8 (by decide)]; exact h.2.2.2.1.2.2⟩
theorem m_note (hV : VS σ) (h : RM σ M) {post : Mo → Prop} (hp : ∀ M', RM (remS σ) M' → M'.1.2 7 = M.1.2 7 → post M') : wp_X6_note M post := by
  have hw := h.2.2.2.1
  have hvw := hV.2.2.2.1
  have hk := hvw.2.1
  have hs8 := hvw.1
  have hL := hV.2.1
  -- the row goes to place q
  have key : ∀ (q : Nat), q < 10 → ∀ k i, i + k = 32 → ∀ M1 : Mo, M1.1.1 9 = nI q → (∀ j, j ≠ 9 → M1.1.1 j = M.1.1 j) → (∀ j, j ≠ 8 → M1.1.2 j = M.1.2 j) → M1.2 = M.2 → (∀ j, j < i → M1.1.2 8 (32 * q + j) = M.1.2 7 j) → (∀ a, a < q → Ms ((remW (wO σ)).2.2 a) (fun j => M1.1.2 8 (32 * a + j))) → (remW (wO σ)).2.1 = q + 1 → (remW (wO σ)).2.2 q = (wO σ).1 → wp_X6_note_L51 post (k + 1) (nI i) M1 := by
    intro q hq k
    induction k with
    | zero =>
      intro i hi M1 b0 b1 b2 b3 b4 b5 b6 b7
      have : i = 32 := by omega
      subst this
      rw [wp_X6_note_L51]
      refine ⟨fun _ => ?_, fun c => absurd (by decide) c⟩
      rw [b0, nI_1]
      refine hp _ (RM_w h (fun j hj => ?_) (fun j _ hj => b2 j hj) b3 ⟨?_, ?_, fun a ha => ?_⟩) (b2 7 (by decide))
      · show upd M1.1.1 9 _ j = _
        rw [pk_un hj]; exact b1 j hj
      · show Ms (wO σ).1 (M1.1.2 7)
        rw [b2 7 (by decide)]; exact hw.1
      · rw [b6]; rfl
      · show Ms _ (fun j => M1.1.2 8 (32 * a + j))
        rw [b6] at ha
        by_cases e : a = q
        · subst e
          rw [b7]
          exact Ms_cg hs8 hL b4 hw.1
        · exact b5 a (by omega)
    | succ k ih =>
      intro i hi M1 b0 b1 b2 b3 b4 b5 b6 b7
      rw [wp_X6_note_L51, b0, show (32 : Int32) = nI 32 from rfl, pk_mul, nI_add]
      refine ⟨fun c => absurd c (nI_ge (by omega) (by decide)), fun _ => ⟨vp_in_nI (by omega) (by decide), vp_in_nI (by omega) (by decide), ?_⟩⟩
      rw [nI_clamp (by omega), nI_clamp (by omega), nI_1]
      intro M2 e
      subst e
      refine ih (i + 1) (by omega) _ b0 b1 (fun j hj => ?_) b3 (fun j hj => ?_) (fun a ha => ?_) b6 b7
      · show sa M1.1.2 8 _ j = _
        unfold sa
        rw [if_neg hj]; exact b2 j hj
      · show upd (M1.1.2 8) (32 * q + i) (M1.1.2 7 i) (32 * q + j) = _
        by_cases e : j = i
        · subst e; rw [pk_us, b2 7 (by decide)]
        · rw [pk_un (by omega)]; exact b4 j (by omega)
      · have ha' := b5 a ha
        have hva : Vs (nO σ) (LO σ) ((remW (wO σ)).2.2 a) := (VN_rem hvw).2.2 a (by rw [b6]; omega)
        refine Ms_cg hva hL (fun j hj => ?_) ha'
        show upd (M1.1.2 8) (32 * q + i) (M1.1.2 7 i) (32 * a + j) = _
        rw [pk_un (by omega)]
  unfold wp_X6_note
  rw [hw.2.1, show (10 : Int32) = nI 10 from rfl, nI_eq (by omega) (by decide)]
  refine ⟨fun c => ?_, fun c => ?_⟩
  · have hlt : (wO σ).2.1 < 10 := by omega
    have er := remW_lt hlt
    refine ⟨33, key (wO σ).2.1 hlt 32 0 rfl M hw.2.1 (fun _ _ => rfl) (fun _ _ => rfl) rfl (fun j hj => absurd hj (by omega)) (fun a ha => ?_) (by rw [er]) (by rw [er]; exact if_pos rfl)⟩
    rw [er]
    show Ms (poU (wO σ).2.2 (wO σ).2.1 (wO σ).1 a) _
    unfold poU
    rw [if_neg (by omega)]
    exact hw.2.2 a ha
  · have hge : ¬ (wO σ).2.1 < 10 := by omega
    have er := remW_ge hge
    have key2 : ∀ k i, i + k = 288 → ∀ M1 : Mo, M1.1.1 = M.1.1 → (∀ j, j ≠ 8 → M1.1.2 j = M.1.2 j) → M1.2 = M.2 → (∀ j, j < i → M1.1.2 8 j = M.1.2 8 (32 + j)) → (∀ j, i ≤ j → M1.1.2 8 j = M.1.2 8 j) → wp_X6_note_L11 post (k + 1) (nI i) M1 := by
      intro k
      induction k with
      | zero =>
        intro i hi M1 b1 b2 b3 b4 b5
        have : i = 288 := by omega
        subst this
        rw [wp_X6_note_L11]
        refine ⟨fun _ => ?_, fun c => absurd (by decide) c⟩
        have e9 : M1.1.1 9 - 1 = nI 9 := by rw [b1, hw.2.1, c]; rfl
        rw [e9]
        refine ⟨33, key 9 (by decide) 32 0 rfl _ rfl (fun j hj => ?_) b2 b3 (fun j hj => absurd hj (by omega)) (fun a ha => ?_) (by rw [er]) (by rw [er]; rfl)⟩
        · show upd M1.1.1 9 _ j = _
          rw [pk_un hj, b1]
        · rw [er]
          show Ms (if a < 9 then (wO σ).2.2 (a + 1) else (wO σ).1) (fun j => M1.1.2 8 (32 * a + j))
          rw [if_pos ha]
          refine Ms_cg (hvw.2.2 (a + 1) (by omega)) hL (fun j hj => ?_) (hw.2.2 (a + 1) (by omega))
          rw [b4 _ (by omega)]
          show M.1.2 8 (32 + (32 * a + j)) = M.1.2 8 (32 * (a + 1) + j)
          rw [show 32 + (32 * a + j) = 32 * (a + 1) + j by omega]
      | succ k ih =>
        intro i hi M1 b1 b2 b3 b4 b5
        rw [wp_X6_note_L11, show (32 : Int32) = nI 32 from rfl, nI_add]
        refine ⟨fun c => absurd c (nI_ge (b := 288) (by omega) (by decide)), fun _ => ⟨vp_in_nI (by omega) (by decide), vp_in_nI (by omega) (by decide), ?_⟩⟩
        rw [nI_clamp (by omega), nI_clamp (by omega), nI_1]
        intro M2 e
        subst e
        refine ih (i + 1) (by omega) _ b1 (fun j hj => ?_) b3 (fun j hj => ?_) (fun j hj => ?_)
        · show sa M1.1.2 8 _ j = _
          unfold sa
          rw [if_neg hj]; exact b2 j hj
        · show upd (M1.1.2 8) i (M1.1.2 8 (32 + i)) j = _
          by_cases e : j = i
          · subst e; rw [pk_us]; exact b5 _ (by omega)
          · rw [pk_un e]; exact b4 j (by omega)
        · show upd (M1.1.2 8) i (M1.1.2 8 (32 + i)) j = _
          rw [pk_un (by omega)]; exact b5 j (by omega)
    exact ⟨289, key2 288 0 rfl M rfl (fun _ _ => rfl) rfl (fun j hj => absurd hj (by omega)) (fun _ _ => rfl)⟩
theorem m_undo (hV : VS σ) (h : RM σ M) {post : Int32 → Mo → Prop} (h1 : (wO σ).2.1 ≠ 0 → ∀ M', RM (wS σ (undW (wO σ))) M' → post (nI ((wO σ).2.1 - 1)) M') (h0 : (wO σ).2.1 = 0 → post (-2) M) : wp_X6_undo M post := by
  have hw := h.2.2.2.1
  have hvw := hV.2.2.2.1
  have hk := hvw.2.1
  unfold wp_X6_undo
  rw [hw.2.1, show (0 : Int32) = nI 0 from rfl, nI_eq (by omega) (by decide)]
  refine ⟨fun c => ?_, h0⟩
  rw [show (1 : Int32) = nI 1 from rfl, pk_sub (by omega)]
  have key : ∀ k i, i + k = 32 → ∀ M1 : Mo, M1.1.1 9 = nI ((wO σ).2.1 - 1) → (∀ j, j ≠ 9 → M1.1.1 j = M.1.1 j) → (∀ j, j ≠ 7 → M1.1.2 j = M.1.2 j) → M1.2 = M.2 → (∀ j, j < i → M1.1.2 7 j = M.1.2 8 (32 * ((wO σ).2.1 - 1) + j)) → wp_X6_undo_L22 post (k + 1) (nI i) M1 := by
    intro k
    induction k with
    | zero =>
      intro i hi M1 b0 b1 b2 b3 b4
      have : i = 32 := by omega
      subst this
      rw [wp_X6_undo_L22, b0]
      refine ⟨fun _ => h1 c _ (RM_w h b1 (fun j hj _ => b2 j hj) b3 ⟨?_, b0, fun a ha => ?_⟩), fun c => absurd (by decide) c⟩
      · exact Ms_cg (hvw.2.2 _ (by omega)) hV.2.1 b4 (hw.2.2 _ (by omega))
      · rw [b2 8 (by decide)]
        exact hw.2.2 a (by have : a < (wO σ).2.1 - 1 := ha; omega)
    | succ k ih =>
      intro i hi M1 b0 b1 b2 b3 b4
      rw [wp_X6_undo_L22, b0, show (32 : Int32) = nI 32 from rfl, pk_mul, nI_add]
      refine ⟨fun c => absurd c (nI_ge (by omega) (by decide)), fun _ => ⟨vp_in_nI (by omega) (by decide), vp_in_nI (by omega) (by decide), ?_⟩⟩
      rw [nI_clamp (by omega), nI_clamp (by omega), nI_1]
      intro M2 e
      subst e
      refine ih (i + 1) (by omega) _ b0 b1 (fun j hj => ?_) b3 (fun j hj => ?_)
      · show sa M1.1.2 7 _ j = _
        unfold sa
        rw [if_neg hj]; exact b2 j hj
      · show upd (M1.1.2 7) i _ j = _
        by_cases e : j = i
        · subst e; rw [pk_us, b2 8 (by decide)]
        · rw [pk_un e]; exact b4 j (by omega)
  exact ⟨33, key 32 0 rfl _ rfl (fun j hj => pk_un hj) (fun _ _ => rfl) rfl (fun j hj => absurd hj (by omega))⟩
end G
