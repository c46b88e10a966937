/-! ===== pure: what is asked ===== -/
theorem pOf_out {n : Nat} {y : Int32} (h : y.toInt < 0 ∨ (n : Int) - 1 < y.toInt) : pOf n y = none := by
  unfold pOf
  by_cases h1 : y.toInt < 0
  · rw [if_pos h1]
  · rw [if_neg h1, if_neg]
    omega
def nxt (r : List Nat) (l : Nat) : Nat := r.getD ((r.idxOf l + 1) % r.length) 0
theorem nxt_8 {r : List Nat} {l : Nat} (h8 : ∀ x ∈ r, x < 8) (hl : l ∈ r) : nxt r l < 8 := h8 _ (gd_mem (Nat.mod_lt _ (by have := List.idxOf_lt_length_of_mem hl; omega)))
theorem BH_nxt {r : List Nat} {B : Nat → Int32} (h : BH r B) {l : Nat} (hl : l ∈ r) : B l = nI (nxt r l) := by
  have hi := List.idxOf_lt_length_of_mem hl
  have := h.1 (r.idxOf l) hi
  have e : r.getD (r.idxOf l) 0 = l := by
    rw [List.getD_eq_getElem?_getD, List.getElem?_eq_getElem hi]
    simp
  rw [e] at this
  exact this
def lockA (σ : St) (x y : Int32) : Int32 :=
  match pOf (LO σ) x with
  | none => -1
  | some l =>
    match pOf 6 y with
    | some 0 => nI (cdO (scO σ) l)
    | some 1 => nI (shO (scO σ) l)
    | some 2 => nI (mk 6 fun p => knO (scO σ) p l)
    | some 3 => if l ∈ rgO (scO σ) then 1 else 0
    | some 4 => if l ∈ rgO (scO σ) then nI (nxt (rgO (scO σ)) l) else -9
    | some 5 => nI (st (shO (scO σ) l) (cdO (scO σ) l))
    | _ => -1
def countA (σ : St) (x : Int32) : Int32 :=
  match pOf 5 x with
  | some 0 => nI (nO σ)
  | some 1 => nI (LO σ)
  | some 2 => nI (heO σ).length
  | some 3 => nI (wO σ).2.1
  | some 4 => nI (txO σ).1
  | _ => -1
def leftA (σ : St) (x : Int32) : Int32 :=
  match pOf (LO σ) x with
  | none => -1
  | some l => if csB (scO σ) l = true then nI (mk 6 (lfB (scO σ) l)) else -9
theorem p60 : pOf 6 0 = some 0 := by decide
theorem p61 : pOf 6 1 = some 1 := by decide
theorem p62 : pOf 6 2 = some 2 := by decide
theorem p63 : pOf 6 3 = some 3 := by decide
theorem p64 : pOf 6 4 = some 4 := by decide
theorem p65 : pOf 6 5 = some 5 := by decide
theorem p50 : pOf 5 0 = some 0 := by decide
theorem p51 : pOf 5 1 = some 1 := by decide
theorem p52 : pOf 5 2 = some 2 := by decide
theorem p53 : pOf 5 3 = some 3 := by decide
theorem p54 : pOf 5 4 = some 4 := by decide
theorem p40 : pOf 4 0 = some 0 := by decide
theorem p41 : pOf 4 1 = some 1 := by decide
theorem p42 : pOf 4 2 = some 2 := by decide
theorem p43 : pOf 4 3 = some 3 := by decide
section G
variable {σ : St} {Z : GC} {M : Mo}
theorem c_lock (hV : VS σ) (h : RC σ Z) (x y : Int32) {post : Int32 → Prop} (hp : post (lockA σ x y)) : wp_X5_lock Z x y post := by
  have hL := hV.2.1
  have hs : Vs (nO σ) (LO σ) (scO σ) := hV.2.2.2.1.1
  have hc : Cs (scO σ) (Z.2.1 3) := h.2.2.2.1.1
  unfold wp_X5_lock
  unfold lockA at hp
  refine c_isLock hV h (fun l hx hl ex => t1 ?_) (fun hx => f1 ?_)
  · rw [hx] at hp
    subst ex
    have v8 : vp_in (nI l) 8 := vp_in_nI (by omega) (by decide)
    have cl : (nI l).toNatClampNeg = l := nI_clamp (by omega)
    rw [cl]
    refine ⟨fun e => ?_, fun e => ?_, fun e => ?_, fun e => ?_, fun e => ?_, fun e => ?_, fun e => ?_⟩
    · subst e; rw [p60] at hp
      exact ⟨v8, by rw [hc.1 l (by omega)]; exact hp⟩
    · subst e; rw [p61] at hp
      exact ⟨v8, by rw [hc.2.1 l (by omega)]; exact hp⟩
    · subst e; rw [p62] at hp
      exact ⟨v8, by rw [hc.2.2.1 l (by omega)]; exact hp⟩
    · subst e; rw [p63] at hp
      exact c_inRing hs hL hc l (by omega) (fun hm => t2 (by simp only [if_pos hm] at hp; exact hp)) (fun hm => f2 (by simp only [if_neg hm] at hp; exact hp))
    · subst e; rw [p64] at hp
      refine c_behindOf l (by omega) ?_
      by_cases hm : l ∈ rgO (scO σ)
      · rw [BH_nxt hc.2.2.2.1 hm]
        simp only [if_pos hm] at hp; exact hp
      · rw [hc.2.2.2.1.2 l (by omega) hm]
        simp only [if_neg hm] at hp; exact hp
    · subst e; rw [p65] at hp
      exact c_stepsOf hs hc (by omega) hp
    · rw [pOf_out (n := 6) e] at hp
      exact hp
  · rw [hx] at hp
    exact hp
theorem m_lock (hV : VS σ) (h : RM σ M) (x y : Int32) {post : Int32 → Prop} (hp : post (lockA σ x y)) : wp_X6_lock M x y post := by
  have hL := hV.2.1
  have hs : Vs (nO σ) (LO σ) (scO σ) := hV.2.2.2.1.1
  have hc : Ms (scO σ) (M.1.2 7) := h.2.2.2.1.1
  have h8 := len8 hs.1 (fun x hx => hs.lt8 hL hx)
  unfold wp_X6_lock
  unfold lockA at hp
  refine m_isLock hV h (fun l hx hl ex => t1 ?_) (fun hx => f1 ?_)
  · rw [hx] at hp
    subst ex
    have v10 : vp_in (10 + nI l) 32 := by rw [show (10 : Int32) = nI 10 from rfl, nI_add]; exact vp_in_nI (by omega) (by decide)
    have v18 : vp_in (18 + nI l) 32 := by rw [show (18 : Int32) = nI 18 from rfl, nI_add]; exact vp_in_nI (by omega) (by decide)
    have c10 : (10 + nI l).toNatClampNeg = 10 + l := by rw [show (10 : Int32) = nI 10 from rfl, nI_add]; exact nI_clamp (by omega)
    have c18 : (18 + nI l).toNatClampNeg = 18 + l := by rw [show (18 : Int32) = nI 18 from rfl, nI_add]; exact nI_clamp (by omega)
    rw [c10, c18, hc.2.2.2.1 l (by omega), hc.2.2.2.2.1 l (by omega)]
    refine ⟨fun e => ?_, fun e => ?_, fun e => ?_, fun e => ?_, fun e => ?_, fun e => ?_, fun e => ?_⟩
    · subst e; rw [p60] at hp
      exact ⟨v10, hp⟩
    · subst e; rw [p61] at hp
      exact ⟨v18, hp⟩
    · subst e; rw [p62] at hp
      exact m_knowers hs hV.1 h.1 hc (by omega) hp
    · subst e; rw [p63] at hp
      exact m_isRing hs hL hc (l := l) (by omega) (fun hm => t2 (by simp only [if_pos hm] at hp; exact hp)) (fun hm => f2 (by simp only [if_neg hm] at hp; exact hp))
    · subst e; rw [p64] at hp
      refine m_isRing hs hL hc (l := l) (by omega) (fun hm => t2 ?_) (fun hm => f2 (by simp only [if_neg hm] at hp; exact hp))
      refine m_placeOf hs hL hc (l := l) (by omega) (fun _ => ?_) (fun q => absurd hm q)
      have hi := List.idxOf_lt_length_of_mem hm
      have hmo : ((rgO (scO σ)).idxOf l + 1) % (rgO (scO σ)).length < (rgO (scO σ)).length := Nat.mod_lt _ (by omega)
      rw [hc.2.1, nI_1, pk_rem (by omega) (by omega) (by omega), nI_clamp (by omega), hc.1 _ hmo]
      simp only [if_pos hm] at hp
      exact ⟨nI_ne0 (by omega) (by omega), vp_in_nI (by omega) (by decide), hp⟩
    · subst e; rw [p65] at hp
      exact ⟨v18, v10, m_steps (hs.2.2.2.2.1 l) (hs.2.2.2.1 l) hp⟩
    · rw [pOf_out (n := 6) e] at hp
      exact hp
  · rw [hx] at hp
    exact hp
theorem c_count (hV : VS σ) (h : RC σ Z) (x : Int32) {post : Int32 → Prop} (hp : post (countA σ x)) : wp_X5_count Z x post := by
  unfold wp_X5_count
  unfold countA at hp
  refine ⟨fun e => ?_, fun e => ?_, fun e => ?_, fun e => ?_, fun e => ?_, fun e => ?_⟩
  · subst e; rw [p50] at hp; rw [h.1]; exact hp
  · subst e; rw [p51] at hp; rw [h.2.1]; exact hp
  · subst e; rw [p52] at hp; rw [h.2.2.2.2.2.2.2.1.2.1]; exact hp
  · subst e; rw [p53] at hp; rw [h.2.2.2.1.2.1]; exact hp
  · subst e; rw [p54] at hp; rw [h.2.2.2.2.2.2.1.1]; exact hp
  · rw [pOf_out (n := 5) e] at hp; exact hp
theorem m_count (hV : VS σ) (h : RM σ M) (x : Int32) {post : Int32 → Prop} (hp : post (countA σ x)) : wp_X6_count M x post := by
  unfold wp_X6_count
  unfold countA at hp
  refine ⟨fun e => ?_, fun e => ?_, fun e => ?_, fun e => ?_, fun e => ?_, fun e => ?_⟩
  · subst e; rw [p50] at hp; rw [h.1]; exact hp
  · subst e; rw [p51] at hp; rw [h.2.1]; exact hp
  · subst e; rw [p52] at hp; rw [h.2.2.2.2.2.2.2.2.1.1]; exact hp
  · subst e; rw [p53] at hp; rw [h.2.2.2.1.2.1]; exact hp
  · subst e; rw [p54] at hp; rw [h.2.2.2.2.2.2.2.1.1]; exact hp
  · rw [pOf_out (n := 5) e] at hp; exact hp
theorem c_left (hV : VS σ) (h : RC σ Z) (x : Int32) {post : Int32 → Prop} (hp : post (leftA σ x)) : wp_X5_left Z x post := by
  have hL := hV.2.1
  have hs : Vs (nO σ) (LO σ) (scO σ) := hV.2.2.2.1.1
  have hc : Cs (scO σ) (Z.2.1 3) := h.2.2.2.1.1
  unfold wp_X5_left
  unfold leftA at hp
  refine c_isLock hV h (fun l hx hl ex => t1 ?_) (fun hx => f1 ?_)
  · rw [hx] at hp
    subst ex
    exact c_leftBy hs hL hc (by omega) (fun q => by simp only [if_pos q] at hp; exact hp) (fun q => by simp only [q, Bool.false_eq_true, if_false] at hp; exact hp)
  · rw [hx] at hp; exact hp
theorem m_left (hV : VS σ) (h : RM σ M) (x : Int32) {post : Int32 → Prop} (hp : post (leftA σ x)) : wp_X6_left M x post := by
  have hL := hV.2.1
  have hs : Vs (nO σ) (LO σ) (scO σ) := hV.2.2.2.1.1
  have hc : Ms (scO σ) (M.1.2 7) := h.2.2.2.1.1
  unfold wp_X6_left
  unfold leftA at hp
  refine m_isLock hV h (fun l hx hl ex => t2 ?_) (fun hx => f2 ?_)
  · rw [hx] at hp
    subst ex
    exact m_leftBy hs hL hV.1 h.1 hc (by omega) (fun q => by simp only [if_pos q] at hp; exact hp) (fun q => by simp only [q, Bool.false_eq_true, if_false] at hp; exact hp)
  · rw [hx] at hp; exact hp
/-! kinds -/
def trS (σ : St) (t : Int64) : St := (nO σ, LO σ, frO σ, wO σ, imO σ, txO σ, heO σ, t)
def mkL (σ : St) (l : Nat) : Int32 := nI (ct 6 fun p => knO (scO σ) p l)
def mkB (σ : St) (l : Nat) : Int32 := mkL σ l + nI (st (shO (scO σ) l) (cdO (scO σ) l))
def mkR (σ : St) (l : Nat) : Int32 := mkL σ l - nI (rgO (scO σ)).length
def markA (σ : St) (x y : Int32) : Int32 × St :=
  match pOf (LO σ) y with
  | none => (-1000000, σ)
  | some l =>
    match pOf 6 x with
    | some 0 => (mkL σ l, trS σ (trO σ + 1))
    | some 1 => (mkB σ l, trS σ (trO σ + 10 + 1))
    | some 2 => (mkR σ l, trS σ (trO σ + 100 + 1))
    | some 3 => (mkB σ l * 2, trS σ (trO σ + 1000 + 10 + 1))
    | some 4 => (mkR σ l + nI l, trS σ (trO σ + 10000 + 100 + 1))
    | some 5 => (mkL σ l + nI (shO (scO σ) l), trS σ (trO σ + 100000 + 1))
    | _ => (-1000000, σ)
theorem VS_tr (h : VS σ) (t : Int64) : VS (trS σ t) := h
theorem v_mark (hV : VS σ) (x y : Int32) : VS (markA σ x y).2 := by
  unfold markA
  split
  · exact hV
  · split
    all_goals first
      | exact VS_tr hV _
      | exact hV
theorem trS_trS (σ : St) (t u : Int64) : trS (trS σ t) u = trS σ u := rfl
theorem trO_trS (σ : St) (t : Int64) : trO (trS σ t) = t := rfl
theorem mkL_tr (σ : St) (t : Int64) (l : Nat) : mkL (trS σ t) l = mkL σ l := rfl
theorem mkB_tr (σ : St) (t : Int64) (l : Nat) : mkB (trS σ t) l = mkB σ l := rfl
theorem mkR_tr (σ : St) (t : Int64) (l : Nat) : mkR (trS σ t) l = mkR σ l := rfl
theorem RC_tr (h : RC σ Z) (t : Int64) : RC (trS σ t) (gtr Z t) := by
  obtain ⟨a1, a2, a3, a4, a5, a6, a7, a8, a9⟩ := h
  exact ⟨a1, a2, a3, a4, a5, a6, a7, a8, rfl⟩
theorem RM_tr (h : RM σ M) (t : Int64) : RM (trS σ t) (pmt M t) := by
  obtain ⟨a1, a2, a3, a4, a5, a6, a7, a8, a9, a10⟩ := h
  exact ⟨a1, a2, a3, a4, a5, a6, a7, a8, a9, rfl⟩
theorem c_mkL (h : RC σ Z) {l : Nat} (hl : l < 8) {post : Int32 → GC → Prop} (hp : ∀ Z', RC (trS σ (trO σ + 1)) Z' → post (mkL σ l) Z') : wp_X5_markOfLock Z (nI l) post := by
  intro Z1 e1
  have hR : RC (trS σ (trO σ + 1)) Z1 := by
    rw [e1, h.2.2.2.2.2.2.2.2]; exact RC_tr h _
  exact c_knowerCount hR.2.2.2.1.1 hl (hp _ hR)
theorem c_mkB (hV : VS σ) (h : RC σ Z) {l : Nat} (hl : l < 8) {post : Int32 → GC → Prop} (hp : ∀ Z', RC (trS σ (trO σ + 10 + 1)) Z' → post (mkB σ l) Z') : wp_X5_markOfBrass Z (nI l) post := by
  intro Z1 e1
  have hR : RC (trS σ (trO σ + 10)) Z1 := by
    rw [e1, h.2.2.2.2.2.2.2.2]; exact RC_tr h _
  refine c_mkL hR hl (fun Z' h' => ?_)
  exact c_stepsOf hV.2.2.2.1.1 h'.2.2.2.1.1 hl (hp _ h')
theorem c_mkR (hV : VS σ) (h : RC σ Z) {l : Nat} (hl : l < 8) {post : Int32 → GC → Prop} (hp : ∀ Z', RC (trS σ (trO σ + 100 + 1)) Z' → post (mkR σ l) Z') : wp_X5_markOfRusty Z (nI l) post := by
  intro Z1 e1
  have hR : RC (trS σ (trO σ + 100)) Z1 := by
    rw [e1, h.2.2.2.2.2.2.2.2]; exact RC_tr h _
  refine c_mkL hR hl (fun Z' h' => ?_)
  exact c_ringSize hV.2.2.2.1.1 hV.2.1 h'.2.2.2.1.1 (hp _ h')
theorem c_mark (hV : VS σ) (h : RC σ Z) (x y : Int32) {post : Int32 → GC → Prop} (hp : ∀ Z', RC (markA σ x y).2 Z' → post (markA σ x y).1 Z') : wp_X5_mark Z x y post := by
  have hL := hV.2.1
  unfold wp_X5_mark
  unfold markA at hp
  refine c_isLock hV h (fun l hx hl ex => t1 ?_) (fun hx => f1 ?_)
  · rw [hx] at hp
    subst ex
    refine ⟨fun e => ?_, fun e => ?_, fun e => ?_, fun e => ?_, fun e => ?_, fun e => ?_, fun e => ?_⟩
    · subst e; rw [p60] at hp
      exact c_mkL h (by omega) hp
    · subst e; rw [p61] at hp
      exact c_mkB hV h (by omega) hp
    · subst e; rw [p62] at hp
      exact c_mkR hV h (by omega) hp
    · subst e; rw [p63] at hp
      intro Z1 e1
      have hR : RC (trS σ (trO σ + 1000)) Z1 := by
        rw [e1, h.2.2.2.2.2.2.2.2]; exact RC_tr h _
      refine c_mkB (VS_tr hV _) hR (by omega) (fun Z' h' => ?_)
      rw [trS_trS, trO_trS] at h'
      rw [mkB_tr]
      exact hp Z' h'
    · subst e; rw [p64] at hp
      intro Z1 e1
      have hR : RC (trS σ (trO σ + 10000)) Z1 := by
        rw [e1, h.2.2.2.2.2.2.2.2]; exact RC_tr h _
      refine c_mkR (VS_tr hV _) hR (by omega) (fun Z' h' => ?_)
      rw [trS_trS, trO_trS] at h'
      rw [mkR_tr]
      exact hp Z' h'
    · subst e; rw [p65] at hp
      intro Z1 e1
      have hR : RC (trS σ (trO σ + 100000)) Z1 := by
        rw [e1, h.2.2.2.2.2.2.2.2]; exact RC_tr h _
      refine c_mkL hR (by omega) (fun Z' h' => ⟨vp_in_nI (by omega) (by decide), ?_⟩)
      have hc : Cs (scO σ) (Z'.2.1 3) := h'.2.2.2.1.1
      rw [trS_trS, trO_trS] at h'
      rw [nI_clamp (by omega), hc.2.1 l (by omega), mkL_tr]
      exact hp _ h'
    · rw [pOf_out (n := 6) e] at hp
      exact hp Z h
  · rw [hx] at hp
    exact hp Z h
theorem m_mkL (hV : VS σ) (h : RM σ M) {l : Nat} (hl : l < 8) {post : Int32 → Mo → Prop} (hp : ∀ M', RM (trS σ (trO σ + 1)) M' → post (mkL σ l) M') : wp_X6_asLock M (nI l) post := by
  unfold wp_X6_asLock
  have hR : RM (trS σ (trO σ + 1)) (pmt M (M.2 + 1)) := by
    rw [h.2.2.2.2.2.2.2.2.2]; exact RM_tr h _
  refine m_knowers hV.2.2.2.1.1 hV.1 hR.1 hR.2.2.2.1.1 hl (on_ok (Nat.lt_of_lt_of_le (mk_6 _) (by decide)) ?_)
  rw [ct_mk6]
  exact hp _ hR
theorem m_mkB (hV : VS σ) (h : RM σ M) {l : Nat} (hl : l < 8) {post : Int32 → Mo → Prop} (hp : ∀ M', RM (trS σ (trO σ + 10 + 1)) M' → post (mkB σ l) M') : wp_X6_asBrass M (nI l) post := by
  unfold wp_X6_asBrass
  have hs : Vs (nO σ) (LO σ) (scO σ) := hV.2.2.2.1.1
  have hR : RM (trS σ (trO σ + 10)) (pmt M (M.2 + 10)) := by
    rw [h.2.2.2.2.2.2.2.2.2]; exact RM_tr h _
  refine m_mkL (VS_tr hV _) hR hl (fun M' h' => ?_)
  have hc : Ms (scO σ) (M'.1.2 7) := h'.2.2.2.1.1
  rw [show (10 : Int32) = nI 10 from rfl, nI_add, show (18 : Int32) = nI 18 from rfl, nI_add, nI_clamp (by omega), nI_clamp (by omega), hc.2.2.2.1 l hl, hc.2.2.2.2.1 l hl]
  exact ⟨vp_in_nI (by omega) (by decide), vp_in_nI (by omega) (by decide), m_steps (hs.2.2.2.2.1 l) (hs.2.2.2.1 l) (hp _ h')⟩
theorem m_mkR (hV : VS σ) (h : RM σ M) {l : Nat} (hl : l < 8) {post : Int32 → Mo → Prop} (hp : ∀ M', RM (trS σ (trO σ + 100 + 1)) M' → post (mkR σ l) M') : wp_X6_asRusty M (nI l) post := by
  unfold wp_X6_asRusty
  have hR : RM (trS σ (trO σ + 100)) (pmt M (M.2 + 100)) := by
    rw [h.2.2.2.2.2.2.2.2.2]; exact RM_tr h _
  refine m_mkL (VS_tr hV _) hR hl (fun M' h' => ?_)
  have hc : Ms (scO σ) (M'.1.2 7) := h'.2.2.2.1.1
  rw [hc.2.1]
  exact hp _ h'
theorem m_mark (hV : VS σ) (h : RM σ M) (x y : Int32) {post : Int32 → Mo → Prop} (hp : ∀ M', RM (markA σ x y).2 M' → post (markA σ x y).1 M') : wp_X6_mark M x y post := by
  have hL := hV.2.1
  unfold wp_X6_mark
  unfold markA at hp
  refine m_isLock hV h (fun l hx hl ex => t1 ?_) (fun hx => f1 ?_)
  · rw [hx] at hp
    subst ex
    refine ⟨fun e => ?_, fun e => ?_, fun e => ?_, fun e => ?_, fun e => ?_, fun e => ?_, fun e => ?_⟩
    · subst e; rw [p60] at hp
      exact m_mkL hV h (by omega) hp
    · subst e; rw [p61] at hp
      exact m_mkB hV h (by omega) hp
    · subst e; rw [p62] at hp
      exact m_mkR hV h (by omega) hp
    · subst e; rw [p63] at hp
      have hR : RM (trS σ (trO σ + 1000)) (pmt M (M.2 + 1000)) := by
        rw [h.2.2.2.2.2.2.2.2.2]; exact RM_tr h _
      refine m_mkB (VS_tr hV _) hR (by omega) (fun M' h' => ?_)
      rw [trS_trS, trO_trS] at h'
      rw [mkB_tr]
      exact hp M' h'
    · subst e; rw [p64] at hp
      have hR : RM (trS σ (trO σ + 10000)) (pmt M (M.2 + 10000)) := by
        rw [h.2.2.2.2.2.2.2.2.2]; exact RM_tr h _
      refine m_mkR (VS_tr hV _) hR (by omega) (fun M' h' => ?_)
      rw [trS_trS, trO_trS] at h'
      rw [mkR_tr]
      exact hp M' h'
    · subst e; rw [p65] at hp
      have hR : RM (trS σ (trO σ + 100000)) (pmt M (M.2 + 100000)) := by
        rw [h.2.2.2.2.2.2.2.2.2]; exact RM_tr h _
      refine m_mkL (VS_tr hV _) hR (by omega) (fun M' h' => ?_)
      have hc : Ms (scO σ) (M'.1.2 7) := h'.2.2.2.1.1
      rw [show (18 : Int32) = nI 18 from rfl, nI_add, nI_clamp (by omega), hc.2.2.2.2.1 l (by omega), mkL_tr]
      rw [trS_trS, trO_trS] at h'
      exact ⟨vp_in_nI (by omega) (by decide), hp _ h'⟩
    · rw [pOf_out (n := 6) e] at hp
      exact hp M h
  · rw [hx] at hp
    exact hp M h
/-! rounds of telling -/
def orf (f : Nat → Nat) (a : Nat) : Nat → Nat
  | 0 => 0
  | i + 1 => orf f a i ||| (if a.testBit i then f i else 0)
theorem orf_lt {f : Nat → Nat} (hf : ∀ p, f p < 64) (a : Nat) : ∀ i, orf f a i < 64
  | 0 => by unfold orf; decide
  | i + 1 => by
    unfold orf
    refine Nat.or_lt_two_pow (n := 6) (orf_lt hf a i) ?_
    split
    · exact hf i
    · decide
def rn (σ : St) (p : Nat) : Nat → Nat → Nat → Int32
  | 0, _, _ => -9
  | k + 1, a, i => if a.testBit p then nI i else rn σ p k (a ||| orf (frO σ) a (nO σ)) (i + 1)
def rnd (σ : St) (p : Nat) : Int32 := rn σ p 6 (mk 6 (giB (scO σ) (inR (scO σ)))) 0
theorem c_friends (hV : VS σ) (h : RC σ Z) {a : Nat} (ha : a < 64) {post : Int32 → Prop} (hp : post (nI (orf (frO σ) a (nO σ)))) : wp_X5_friendsOfAny Z (nI a) post := by
  have hn := hV.1
  have key : ∀ k i, i + k = nO σ → wp_X5_friendsOfAny_L4 post (nI a) Z (k + 1) (nI (orf (frO σ) a i)) (nI i) := by
    intro k
    induction k with
    | zero =>
      intro i hi
      have : i = nO σ := by omega
      subst this
      rw [wp_X5_friendsOfAny_L4, h.1]
      exact ⟨fun _ => hp, fun c => absurd (nI_le (Nat.le_refl _) (by omega)) c⟩
    | succ k ih =>
      intro i hi
      rw [wp_X5_friendsOfAny_L4, h.1, nI_clamp (by omega), nI_1]
      have ih1 := ih (i + 1) (by omega)
      unfold orf at ih1
      refine ⟨fun c => absurd c (nI_ge (by omega) (by omega)), fun _ => c_hasBit (by omega) (by omega) (fun q => t2 ⟨vp_in_nI (by omega) (by decide), ?_⟩) (fun q => f2 ?_)⟩
      · rw [if_pos q] at ih1
        rw [h.2.2.1 i (by omega), fa_or]; exact ih1
      · rw [q] at ih1
        simp only [Bool.false_eq_true, if_false, Nat.or_zero] at ih1
        exact ih1
  exact ⟨_, key (nO σ) 0 (by omega)⟩
theorem c_rounds (hV : VS σ) (h : RC σ Z) {p : Nat} (hpn : p < nO σ) {post : Int32 → Prop} (hp : post (rnd σ p)) : wp_X5_roundsOf Z (nI p) post := by
  have hn := hV.1
  unfold wp_X5_roundsOf
  refine c_whoGetsIn hV.2.2.2.1.1 hV.2.1 h.2.2.2.1.1 ?_
  have key : ∀ k i, i + k = 6 → ∀ a, a < 64 → post (rn σ p k a i) → wp_X5_roundsOf_L13 post (nI p) Z (k + 1) (nI a) (nI i) := by
    intro k
    induction k with
    | zero =>
      intro i hi a ha hq
      have : i = 6 := by omega
      subst this
      rw [wp_X5_roundsOf_L13]
      exact ⟨fun _ => hq, fun c => absurd (by decide) c⟩
    | succ k ih =>
      intro i hi a ha hq
      rw [wp_X5_roundsOf_L13]
      unfold rn at hq
      refine ⟨fun c => absurd c (nI_ge (b := 6) (by omega) (by decide)), fun _ => c_hasBit (by omega) (by omega) (fun q => t2 ?_) (fun q => f2 ?_)⟩
      · rw [if_pos q] at hq; exact hq
      · rw [q] at hq
        simp only [Bool.false_eq_true, if_false] at hq
        refine c_friends hV h ha ?_
        rw [fa_or, nI_1]
        exact ih (i + 1) (by omega) _ (Nat.or_lt_two_pow (n := 6) ha (orf_lt hV.2.2.1 _ _)) hq
  exact ⟨7, key 6 0 rfl _ (mk_6 _) hp⟩
theorem m_rounds (hV : VS σ) (h : RM σ M) {p : Nat} (hpn : p < nO σ) {post : Int32 → Prop} (hp : post (rnd σ p)) : wp_X6_roundsOf M (nI p) post := by
  have hn := hV.1
  unfold wp_X6_roundsOf
  refine m_whoIn hV.2.2.2.1.1 hV.2.1 hn h.1 h.2.2.2.1.1 ?_
  have key : ∀ k i, i + k = 6 → ∀ a, a < 64 → post (rn σ p k a i) → wp_X6_roundsOf_L11 post (nI p) M (k + 1) (nI a) (nI i) := by
    intro k
    induction k with
    | zero =>
      intro i hi a ha hq
      have : i = 6 := by omega
      subst this
      rw [wp_X6_roundsOf_L11]
      exact ⟨fun _ => hq, fun c => absurd (by decide) c⟩
    | succ k ih =>
      intro i hi a ha hq
      rw [wp_X6_roundsOf_L11]
      unfold rn at hq
      refine ⟨fun c => absurd c (nI_ge (b := 6) (by omega) (by decide)), fun _ => m_has (by omega) (by omega) (fun q => t2 ?_) (fun q => f2 ?_)⟩
      · rw [if_pos q] at hq; exact hq
      · rw [q] at hq
        simp only [Bool.false_eq_true, if_false] at hq
        have ih1 := ih (i + 1) (by omega) _ (Nat.or_lt_two_pow (n := 6) ha (orf_lt hV.2.2.1 _ _)) hq
        have k2 : ∀ d j, j + d = nO σ → wp_X6_roundsOf_L33 post (fun x2 x3 => wp_X6_roundsOf_L11 post (nI p) M (k + 1) x2 x3) (nI p) (nI a) (nI i) M (d + 1) (nI (a ||| orf (frO σ) a j)) (nI j) := by
          intro d
          induction d with
          | zero =>
            intro j hj
            have : j = nO σ := by omega
            subst this
            rw [wp_X6_roundsOf_L33, h.1, nI_1]
            exact ⟨fun _ => ih1, fun c => absurd (nI_le (Nat.le_refl _) (by omega)) c⟩
          | succ d ihd =>
            intro j hj
            rw [wp_X6_roundsOf_L33, h.1, nI_clamp (by omega), nI_1, nI_1]
            have i2 := ihd (j + 1) (by omega)
            unfold orf at i2
            refine ⟨fun c => absurd c (nI_ge (by omega) (by omega)), fun _ => m_has (by omega) (by omega) (fun q => t2 ⟨vp_in_nI (by omega) (by decide), ?_⟩) (fun q => f2 ?_)⟩
            · rw [if_pos q, ← Nat.or_assoc] at i2
              rw [h.2.2.1 j (by omega), fa_or]; exact i2
            · rw [q] at i2
              simp only [Bool.false_eq_true, if_false, Nat.or_zero] at i2
              rw [or0]; exact i2
        have k3 := k2 (nO σ) 0 (by omega)
        unfold orf at k3
        rw [Nat.or_zero] at k3
        exact ⟨_, k3⟩
  exact ⟨7, key 6 0 rfl _ (mk_6 _) hp⟩
def personA (σ : St) (x y : Int32) : Int32 :=
  match pOf (nO σ) x with
  | none => -1
  | some p =>
    match pOf 4 y with
    | some 0 => nI (mk 8 (knO (scO σ) p))
    | some 1 => nI (frO σ p)
    | some 2 => if giB (scO σ) (inR (scO σ)) p = true then 1 else 0
    | some 3 => rnd σ p
    | _ => -1
theorem c_person (hV : VS σ) (h : RC σ Z) (x y : Int32) {post : Int32 → Prop} (hp : post (personA σ x y)) : wp_X5_person Z x y post := by
  have hL := hV.2.1
  have hn := hV.1
  have hs : Vs (nO σ) (LO σ) (scO σ) := hV.2.2.2.1.1
  have hc : Cs (scO σ) (Z.2.1 3) := h.2.2.2.1.1
  unfold wp_X5_person
  unfold personA at hp
  refine c_isPerson hV h (fun p hx hpn ex => t1 ?_) (fun hx => f1 ?_)
  · rw [hx] at hp
    subst ex
    refine ⟨fun e => ?_, fun e => ?_, fun e => ?_, fun e => ?_, fun e => ?_⟩
    · subst e; rw [p40] at hp
      rw [sh1 p (by omega)]
      refine c_knownBy hc (a := 2 ^ p) (Nat.pow_lt_pow_right (by decide) (by omega : p < 6)) ?_
      have e : mk 8 (kbB (scO σ) (2 ^ p).testBit) = mk 8 (knO (scO σ) p) := mk_cg fun l hl => by
        unfold kbB
        rw [Bool.eq_iff_iff, any6_iff]
        constructor
        · rintro ⟨q, hq, e⟩
          rw [Nat.testBit_two_pow] at e
          simp only [Bool.and_eq_true, decide_eq_true_eq] at e
          rw [e.1]; exact e.2
        · intro e
          exact ⟨p, by omega, by rw [Nat.testBit_two_pow]; simp [e]⟩
      rw [e]; exact hp
    · subst e; rw [p41] at hp
      rw [nI_clamp (by omega), h.2.2.1 p (by omega)]
      exact ⟨vp_in_nI (by omega) (by decide), hp⟩
    · subst e; rw [p42] at hp
      refine c_whoGetsIn hs hL hc ?_
      have e : (mk 6 (giB (scO σ) (inR (scO σ)))).testBit p = giB (scO σ) (inR (scO σ)) p := by
        rw [mk_tb]
        have : p < 6 := by omega
        simp [this]
      refine c_hasBit (Nat.lt_of_lt_of_le (mk_6 _) (by decide)) (by omega) (fun q => t2 ?_) (fun q => f2 ?_)
      · rw [e] at q; simp only [q, if_true] at hp; exact hp
      · rw [e] at q; simp only [q, Bool.false_eq_true, if_false] at hp; exact hp
    · subst e; rw [p43] at hp
      exact c_rounds hV h hpn hp
    · rw [pOf_out (n := 4) e] at hp
      exact hp
  · rw [hx] at hp; exact hp
theorem m_person (hV : VS σ) (h : RM σ M) (x y : Int32) {post : Int32 → Prop} (hp : post (personA σ x y)) : wp_X6_person M x y post := by
  have hL := hV.2.1
  have hn := hV.1
  have hs : Vs (nO σ) (LO σ) (scO σ) := hV.2.2.2.1.1
  have hc : Ms (scO σ) (M.1.2 7) := h.2.2.2.1.1
  unfold wp_X6_person
  unfold personA at hp
  refine m_isOne hV h (fun p hx hpn ex => t1 ?_) (fun hx => f1 ?_)
  · rw [hx] at hp
    subst ex
    refine ⟨fun e => ?_, fun e => ?_, fun e => ?_, fun e => ?_, fun e => ?_⟩
    · subst e; rw [p40] at hp
      rw [show (26 : Int32) = nI 26 from rfl, nI_add, nI_clamp (by omega), hc.2.2.2.2.2 p (by omega)]
      exact ⟨vp_in_nI (by omega) (by decide), hp⟩
    · subst e; rw [p41] at hp
      rw [nI_clamp (by omega), h.2.2.1 p (by omega)]
      exact ⟨vp_in_nI (by omega) (by decide), hp⟩
    · subst e; rw [p42] at hp
      refine m_whoIn hs hL hn h.1 hc ?_
      have hlt : mk 6 (giB (scO σ) (inR (scO σ))) < 2 ^ 31 := Nat.lt_of_lt_of_le (mk_6 _) (by decide)
      have e : (mk 6 (giB (scO σ) (inR (scO σ)))).testBit p = giB (scO σ) (inR (scO σ)) p := by
        rw [mk_tb]
        have : p < 6 := by omega
        simp [this]
      rw [pk_shrN hlt (nI p &&& 31) p (s_l p (by omega)), show (1 : Int32) = nI 1 from rfl, fa_and, Nat.and_one_is_mod]
      rw [Nat.testBit_eq_decide_div_mod_eq] at e
      by_cases q : mk 6 (giB (scO σ) (inR (scO σ))) / 2 ^ p % 2 = 1
      · rw [q] at e ⊢
        have e : giB (scO σ) (inR (scO σ)) p = true := by simpa using e.symm
        simp only [e, if_true] at hp; exact hp
      · have q0 : mk 6 (giB (scO σ) (inR (scO σ))) / 2 ^ p % 2 = 0 := by omega
        rw [q0] at e ⊢
        have e : giB (scO σ) (inR (scO σ)) p = false := by simpa using e.symm
        simp only [e, Bool.false_eq_true, if_false] at hp; exact hp
    · subst e; rw [p43] at hp
      exact m_rounds hV h hpn hp
    · rw [pOf_out (n := 4) e] at hp
      exact hp
  · rw [hx] at hp; exact hp
end G
