/-! ===== pure: deeds, by the class ===== -/
def opnS (s : SC) (l : Nat) : SC := (cdO s, upN (shO s) l (cdO s l), knO s, rgO s, some l)
def telS (s : SC) (q l : Nat) : SC := (cdO s, shO s, fun p k => decide (p = q ∧ k = l) || knO s p k, rgO s, opO s)
def tryS (s : SC) (l x : Nat) : SC := (cdO s, upN (shO s) l x, knO s, rgO s, if rw3 x (cdO s l) = 3 then some l else none)
def opensA (σ : St) (x y : Int32) : Int32 × St :=
  match pOf (nO σ) x, pOf (LO σ) y with
  | some p, some l => if opO (scO σ) = none ∧ l ∈ rgO (scO σ) ∧ knO (scO σ) p l = true then (nI (rgO (scO σ)).length, scS (remS σ) (opnS (scO σ) l)) else (-2, σ)
  | _, _ => (-1, σ)
def shutsA (σ : St) (x y : Int32) : Int32 × St :=
  match pOf (LO σ) x, pOf 1000 y with
  | some l, some k => if csB (scO σ) l = true then (nI (bwS (scO σ) l).length, scS (remS σ) (shutS (scO σ) l k)) else (-2, σ)
  | _, _ => (-1, σ)
def hangsA (σ : St) (x y : Int32) : Int32 × St :=
  match pOf (nO σ) x, pOf (LO σ) y with
  | some p, some l => if opO (scO σ) ≠ none ∧ l ∉ rgO (scO σ) ∧ knO (scO σ) p l = true then (nI ((rgO (scO σ)).length + 1), scS (remS σ) (hangS (scO σ) l)) else (-2, σ)
  | _, _ => (-1, σ)
def tellsA (σ : St) (x y z : Int32) : Int32 × St :=
  match pOf (nO σ) x, pOf (nO σ) y, pOf (LO σ) z with
  | some p, some q, some l => if p = q then (-1, σ) else if knO (scO σ) p l = true ∧ knO (scO σ) q l = false then (nI (ct 6 fun i => knO (telS (scO σ) q l) i l), scS (remS σ) (telS (scO σ) q l)) else (-2, σ)
  | _, _, _ => (-1, σ)
def changesA (σ : St) (x y : Int32) : Int32 × St :=
  match pOf (nO σ) x, pOf 1000 y with
  | some p, some k => if opO (scO σ) ≠ none ∧ knO (scO σ) p ((opO (scO σ)).getD 0) = true then (nI (ct 6 fun q => knO (scO σ) q ((opO (scO σ)).getD 0) && !decide (q = p)), scS (remS σ) (codeS (scO σ) p k)) else (-2, σ)
  | _, _ => (-1, σ)
def triesA (σ : St) (x y : Int32) : Int32 × St :=
  match pOf (LO σ) x, pOf 1000 y with
  | some l, some k => if opO (scO σ) = none ∧ l ∈ rgO (scO σ) then (nI (rw3 k (cdO (scO σ) l)), scS (remS σ) (tryS (scO σ) l k)) else (-2, σ)
  | _, _ => (-1, σ)
def undoA (σ : St) : Int32 × St := if (wO σ).2.1 = 0 then (-2, σ) else (nI ((wO σ).2.1 - 1), wS σ (undW (wO σ)))
def imS (σ : St) (b : Nat) (w : NW) : St := (nO σ, LO σ, frO σ, wO σ, (fun j => if j = b then some w else imO σ j), txO σ, heO σ, trO σ)
def keepA (σ : St) (x : Int32) : Int32 × St :=
  match pOf 2 x with
  | some b => (nI (rgO (scO σ)).length, imS σ b (wO σ))
  | none => (-1, σ)
def backA (σ : St) (x : Int32) : Int32 × St :=
  match pOf 2 x with
  | some b => match imO σ b with
    | some w => (nI (rgO w.1).length, wS σ w)
    | none => (-2, σ)
  | none => (-1, σ)
theorem gx_gx (Z : GC) (b : Nat) (A B : Ob) : gx (gx Z b A) b B = gx Z b B := by
  unfold gx
  congr 1
  congr 1
  funext j
  by_cases h : j = b
  · rw [if_pos h, if_pos h]
  · rw [if_neg h, if_neg h]; exact if_neg h
theorem mk_set {n a : Nat} (f : Nat → Bool) (ha : a < n) : mk n f ||| 2 ^ a = mk n fun i => decide (i = a) || f i := mk_eq fun i => by
  rw [Nat.testBit_or, mk_tb, Nat.testBit_two_pow]
  by_cases e : i = a
  · subst e; simp [ha]
  · have : ¬ a = i := fun q => e q.symm
    simp [e, this]
/-! such scenes are as they should be -/
section V
variable {n L : Nat} {s : SC}
theorem upN_lt {f : Nat → Nat} {k v m : Nat} (hf : ∀ j, f j < m) (hv : v < m) (j : Nat) : upN f k v j < m := by
  unfold upN
  split
  · exact hv
  · exact hf j
theorem v_opn (h : Vs n L s) {l : Nat} (hl : l ∈ rgO s) : Vs n L (opnS s l) := by
  obtain ⟨h1, h2, h3, h4, h5, h6⟩ := h
  refine ⟨h1, h2, h3, h4, upN_lt h5 (h4 l), fun o e => ?_⟩
  have : l = o := by simpa [opnS, opO] using e
  rw [← this]; exact hl
theorem v_shut (h : Vs n L s) {l x : Nat} (hx : x < 1000) : Vs n L (shutS s l x) := by
  obtain ⟨h1, h2, h3, h4, h5, h6⟩ := h
  exact ⟨h1.filter _, fun y hy => h2 y (List.mem_filter.mp hy).1, h3, h4, upN_lt h5 hx, fun o e => by cases e⟩
theorem hang_perm (r : List Nat) (i l : Nat) : (r.take i ++ l :: r.drop i).Perm (l :: r) := by
  have := List.perm_middle (a := l) (l₁ := r.take i) (l₂ := r.drop i)
  rwa [List.take_append_drop] at this
theorem v_hang (h : Vs n L s) {l : Nat} (hl : l < L) (hm : l ∉ rgO s) : Vs n L (hangS s l) := by
  obtain ⟨h1, h2, h3, h4, h5, h6⟩ := h
  have hp := hang_perm (rgO s) ((rgO s).idxOf ((opO s).getD 0) + 1) l
  refine ⟨hp.nodup_iff.mpr (List.nodup_cons.mpr ⟨hm, h1⟩), fun y hy => ?_, h3, h4, h5, fun o e => hp.mem_iff.mpr (List.mem_cons_of_mem _ (h6 o e))⟩
  rcases List.mem_cons.mp (hp.mem_iff.mp hy) with e | e
  · rw [e]; exact hl
  · exact h2 y e
theorem v_tel (h : Vs n L s) {q l : Nat} (hq : q < n) (hl : l < L) : Vs n L (telS s q l) := by
  obtain ⟨h1, h2, h3, h4, h5, h6⟩ := h
  refine ⟨h1, h2, fun p k e => ?_, h4, h5, h6⟩
  have e : (decide (p = q ∧ k = l) || knO s p k) = true := e
  simp only [Bool.or_eq_true, decide_eq_true_eq] at e
  rcases e with ⟨rfl, rfl⟩ | e
  · exact ⟨hq, hl⟩
  · exact h3 p k e
theorem v_code (h : Vs n L s) {p x o : Nat} (hp : p < n) (ho : opO s = some o) (hx : x < 1000) : Vs n L (codeS s p x) := by
  obtain ⟨h1, h2, h3, h4, h5, h6⟩ := h
  refine ⟨h1, h2, fun q l e => ?_, upN_lt h4 hx, upN_lt h5 hx, h6⟩
  have e : (if l = (opO s).getD 0 then decide (q = p) else knO s q l) = true := e
  by_cases c : l = (opO s).getD 0
  · rw [if_pos c] at e
    have eq : q = p := by simpa using e
    rw [ho] at c
    have c : l = o := c
    rw [eq, c]
    exact ⟨hp, h2 o (h6 o ho)⟩
  · rw [if_neg c] at e; exact h3 q l e
theorem v_try (h : Vs n L s) {l x : Nat} (hl : l ∈ rgO s) (hx : x < 1000) : Vs n L (tryS s l x) := by
  obtain ⟨h1, h2, h3, h4, h5, h6⟩ := h
  refine ⟨h1, h2, h3, h4, upN_lt h5 hx, fun o e => ?_⟩
  have e : (if rw3 x (cdO s l) = 3 then some l else none) = some o := e
  split at e
  · have : l = o := by simpa using e
    rw [← this]; exact hl
  · cases e
end V
section W
variable {σ : St}
theorem v_opens (hV : VS σ) (x y : Int32) : VS (opensA σ x y).2 := by
  unfold opensA
  split
  · split
    · next h => exact VS_sc (VS_rem hV) (v_opn hV.2.2.2.1.1 h.2.1)
    · exact hV
  · exact hV
theorem v_shuts (hV : VS σ) (x y : Int32) : VS (shutsA σ x y).2 := by
  unfold shutsA
  split
  · next hx hy =>
    split
    · exact VS_sc (VS_rem hV) (v_shut hV.2.2.2.1.1 (pOf_of (by decide) hy).1)
    · exact hV
  · exact hV
theorem v_hangs (hV : VS σ) (x y : Int32) : VS (hangsA σ x y).2 := by
  unfold hangsA
  split
  · next hx hy =>
    split
    · next h => exact VS_sc (VS_rem hV) (v_hang hV.2.2.2.1.1 (pOf_of (by have := hV.2.1; omega) hy).1 h.2.1)
    · exact hV
  · exact hV
theorem v_tells (hV : VS σ) (x y z : Int32) : VS (tellsA σ x y z).2 := by
  unfold tellsA
  split
  · next hx hy hz =>
    split
    · exact hV
    · split
      · exact VS_sc (VS_rem hV) (v_tel hV.2.2.2.1.1 (pOf_of (by have := hV.1; omega) hy).1 (pOf_of (by have := hV.2.1; omega) hz).1)
      · exact hV
  · exact hV
theorem v_changes (hV : VS σ) (x y : Int32) : VS (changesA σ x y).2 := by
  unfold changesA
  split
  · next hx hy =>
    split
    · next h =>
      obtain ⟨o, ho⟩ := Option.ne_none_iff_exists'.mp h.1
      exact VS_sc (VS_rem hV) (v_code hV.2.2.2.1.1 (pOf_of (by have := hV.1; omega) hx).1 ho (pOf_of (by decide) hy).1)
    · exact hV
  · exact hV
theorem v_tries (hV : VS σ) (x y : Int32) : VS (triesA σ x y).2 := by
  unfold triesA
  split
  · next hx hy =>
    split
    · next h => exact VS_sc (VS_rem hV) (v_try hV.2.2.2.1.1 h.2 (pOf_of (by decide) hy).1)
    · exact hV
  · exact hV
theorem v_undo (hV : VS σ) : VS (undoA σ).2 := by
  unfold undoA
  split
  · exact hV
  · next h => exact VS_w hV (VN_und hV.2.2.2.1 h)
theorem v_keep (hV : VS σ) (x : Int32) : VS (keepA σ x).2 := by
  unfold keepA
  split
  · next b hb =>
    obtain ⟨a1, a2, a3, a4, a5, a6⟩ := hV
    refine ⟨a1, a2, a3, a4, fun c w e => ?_, a6⟩
    have e : (if c = b then some (wO σ) else imO σ c) = some w := e
    split at e
    · cases e; exact a4
    · exact a5 c w e
  · exact hV
theorem v_back (hV : VS σ) (x : Int32) : VS (backA σ x).2 := by
  unfold backA
  split
  · next b hb =>
    split
    · next w hw => exact VS_w hV (hV.2.2.2.2.1 b w hw)
    · exact hV
  · exact hV
end W
/-! the class -/
section C
variable {σ : St} {Z : GC}
theorem Cs_opn {s : SC} {S : Ob} (h : Cs s S) {l : Nat} (hl : l < 8) : Cs (opnS s l) (pf (pa S 1 l (S.2 0 l)) 4 (nI l)) := by
  obtain ⟨h1, h2, h3, h4, h5⟩ := h
  refine ⟨h1, fun y hy => ?_, h3, h4, rfl⟩
  show upd (S.2 1) l (S.2 0 l) y = nI (upN (shO s) l (cdO s l) y)
  unfold upd upN
  by_cases e : y = l
  · rw [if_pos e, if_pos e]; exact h1 l hl
  · rw [if_neg e, if_neg e]; exact h2 y hy
theorem c_opens (hV : VS σ) (h : RC σ Z) (x y : Int32) {post : Int32 → GC → Prop} (hp : ∀ Z', RC (opensA σ x y).2 Z' → post (opensA σ x y).1 Z') : wp_X5_opens Z x y post := by
  have hL := hV.2.1
  have hn := hV.1
  have hs : Vs (nO σ) (LO σ) (scO σ) := hV.2.2.2.1.1
  have hc : Cs (scO σ) (Z.2.1 3) := h.2.2.2.1.1
  unfold wp_X5_opens
  refine c_isPerson hV h (fun p hx hpn ex => t2 ?_) (fun hx => f2 ?_)
  · refine c_isLock hV h (fun l hy hln ey => t1 ?_) (fun hy => f1 ?_)
    · subst ex ey
      refine c_isOpen hs hL hc (fun o ho => t1 ?_) (fun ho => f1 ?_)
      · have e : opensA σ (nI p) (nI l) = (-2, σ) := by simp [opensA, hx, hy, ho]
        rw [e] at hp; exact hp Z h
      · refine c_inRing hs hL hc l (by omega) (fun hm => t2 ?_) (fun hm => f2 ?_)
        · refine c_knows hc (p := p) (l := l) (by omega) (by omega) (fun hk => t1 ?_) (fun hk => f1 ?_)
          · have e : opensA σ (nI p) (nI l) = (nI (rgO (scO σ)).length, scS (remS σ) (opnS (scO σ) l)) := by simp [opensA, hx, hy, ho, hm, hk]
            rw [e] at hp
            refine c_rem hV h (fun A B O hR Z1 e1 => ?_)
            subst e1
            refine ⟨vp_in_nI (by omega) (by decide), vp_in_nI (by omega) (by decide), ?_⟩
            rw [nI_clamp (by omega)]
            intro Z2 e2 Z3 e3
            have hB : Cs (scO σ) B := hR.2.2.2.1.1
            have hC := Cs_opn hB (l := l) (by omega)
            have e4 : Z3 = gx (gpo (gx (gx Z 2 A) 3 B) 0 O) 3 (pf (pa B 1 l (B.2 0 l)) 4 (nI l)) := by
              rw [e3, e2]; exact gx_gx _ _ _ _
            subst e4
            refine c_ringSize (v_opn hs hm) hL hC ?_
            exact hp _ (RC_sc hR hC)
          · have e : opensA σ (nI p) (nI l) = (-2, σ) := by simp [opensA, hx, hy, hk]
            rw [e] at hp; exact hp Z h
        · have e : opensA σ (nI p) (nI l) = (-2, σ) := by simp [opensA, hx, hy, hm]
          rw [e] at hp; exact hp Z h
    · have e : opensA σ x y = (-1, σ) := by simp [opensA, hx, hy]
      rw [e] at hp; exact hp Z h
  · have e : opensA σ x y = (-1, σ) := by simp [opensA, hx]
    rw [e] at hp; exact hp Z h
theorem c_shuts (hV : VS σ) (h : RC σ Z) (x y : Int32) {post : Int32 → GC → Prop} (hp : ∀ Z', RC (shutsA σ x y).2 Z' → post (shutsA σ x y).1 Z') : wp_X5_shuts Z x y post := by
  have hL := hV.2.1
  have hs : Vs (nO σ) (LO σ) (scO σ) := hV.2.2.2.1.1
  have hc : Cs (scO σ) (Z.2.1 3) := h.2.2.2.1.1
  unfold wp_X5_shuts
  refine c_isLock hV h (fun l hx hln ex => t2 ?_) (fun hx => f2 ?_)
  · refine c_isNumber (fun k hy hk ey => t1 ?_) (fun hy => f1 ?_)
    · subst ex ey
      refine c_canShutOn hs hL hc (l := l) (by omega) (fun hcs => t1 ?_) (fun hcs => f1 ?_)
      · have e : shutsA σ (nI l) (nI k) = (nI (bwS (scO σ) l).length, scS (remS σ) (shutS (scO σ) l k)) := by simp [shutsA, hx, hy, hcs]
        rw [e] at hp
        refine c_rem hV h (fun A B O hR Z1 e1 => ?_)
        subst e1
        have hB : Cs (scO σ) B := hR.2.2.2.1.1
        refine c_shutOn hs hL hB hcs (fun S' hS' Z2 e2 => ?_)
        subst e2
        exact hp _ (RC_sc hR hS')
      · have e : shutsA σ (nI l) (nI k) = (-2, σ) := by simp [shutsA, hx, hy, hcs]
        rw [e] at hp; exact hp Z h
    · have e : shutsA σ x y = (-1, σ) := by simp [shutsA, hx, hy]
      rw [e] at hp; exact hp Z h
  · have e : shutsA σ x y = (-1, σ) := by simp [shutsA, hx]
    rw [e] at hp; exact hp Z h
theorem c_hangs (hV : VS σ) (h : RC σ Z) (x y : Int32) {post : Int32 → GC → Prop} (hp : ∀ Z', RC (hangsA σ x y).2 Z' → post (hangsA σ x y).1 Z') : wp_X5_hangs Z x y post := by
  have hL := hV.2.1
  have hn := hV.1
  have hs : Vs (nO σ) (LO σ) (scO σ) := hV.2.2.2.1.1
  have hc : Cs (scO σ) (Z.2.1 3) := h.2.2.2.1.1
  unfold wp_X5_hangs
  refine c_isPerson hV h (fun p hx hpn ex => t2 ?_) (fun hx => f2 ?_)
  · refine c_isLock hV h (fun l hy hln ey => t1 ?_) (fun hy => f1 ?_)
    · subst ex ey
      refine c_isOpen hs hL hc (fun o ho => t2 ?_) (fun ho => f2 ?_)
      · refine c_inRing hs hL hc l (by omega) (fun hm => t1 ?_) (fun hm => f1 ?_)
        · have e : hangsA σ (nI p) (nI l) = (-2, σ) := by simp [hangsA, hx, hy, hm]
          rw [e] at hp; exact hp Z h
        · refine c_knows hc (p := p) (l := l) (by omega) (by omega) (fun hk => t1 ?_) (fun hk => f1 ?_)
          · have e : hangsA σ (nI p) (nI l) = (nI ((rgO (scO σ)).length + 1), scS (remS σ) (hangS (scO σ) l)) := by simp [hangsA, hx, hy, ho, hm, hk]
            rw [e] at hp
            refine c_rem hV h (fun A B O hR Z1 e1 => ?_)
            subst e1
            have hB : Cs (scO σ) B := hR.2.2.2.1.1
            refine c_hangIn hs hL hB ho (by omega) hm (fun S' hS' Z2 e2 => ?_)
            subst e2
            refine c_ringSize (v_hang hs hln hm) hL hS' ?_
            have el : (rgO (hangS (scO σ) l)).length = (rgO (scO σ)).length + 1 := (hang_perm _ _ _).length_eq
            rw [el]
            exact hp _ (RC_sc hR hS')
          · have e : hangsA σ (nI p) (nI l) = (-2, σ) := by simp [hangsA, hx, hy, hk]
            rw [e] at hp; exact hp Z h
      · have e : hangsA σ (nI p) (nI l) = (-2, σ) := by simp [hangsA, hx, hy, ho]
        rw [e] at hp; exact hp Z h
    · have e : hangsA σ x y = (-1, σ) := by simp [hangsA, hx, hy]
      rw [e] at hp; exact hp Z h
  · have e : hangsA σ x y = (-1, σ) := by simp [hangsA, hx]
    rw [e] at hp; exact hp Z h
theorem Cs_tel {s : SC} {S : Ob} (h : Cs s S) {q l : Nat} (hq : q < 6) : Cs (telS s q l) (pa S 2 l (S.2 2 l ||| nI (2 ^ q))) := by
  obtain ⟨h1, h2, h3, h4, h5⟩ := h
  refine ⟨h1, h2, fun y hy => ?_, h4, h5⟩
  show upd (S.2 2) l (S.2 2 l ||| nI (2 ^ q)) y = nI (mk 6 fun p => decide (p = q ∧ y = l) || knO s p y)
  unfold upd
  by_cases e : y = l
  · rw [if_pos e]
    subst e
    rw [h3 y hy, fa_or, mk_set _ hq]
    congr 1
    exact mk_cg fun i _ => by simp
  · rw [if_neg e, h3 y hy]
    congr 1
    exact mk_cg fun i _ => by simp [e]
theorem c_tells (hV : VS σ) (h : RC σ Z) (x y z : Int32) {post : Int32 → GC → Prop} (hp : ∀ Z', RC (tellsA σ x y z).2 Z' → post (tellsA σ x y z).1 Z') : wp_X5_tells Z x y z post := by
  have hL := hV.2.1
  have hn := hV.1
  have hs : Vs (nO σ) (LO σ) (scO σ) := hV.2.2.2.1.1
  have hc : Cs (scO σ) (Z.2.1 3) := h.2.2.2.1.1
  unfold wp_X5_tells
  refine c_isPerson hV h (fun p hx hpn ex => t2 ?_) (fun hx => f2 ?_)
  · refine c_isPerson hV h (fun q hy hqn ey => t2 ?_) (fun hy => f2 ?_)
    · subst ex ey
      rw [nI_eq (by omega) (by omega)]
      refine ⟨fun e0 => ?_, fun hpq => ?_⟩
      · have e : tellsA σ (nI p) (nI q) z = (-1, σ) := by
          unfold tellsA
          rw [hx, hy]
          cases pOf (LO σ) z with
          | none => rfl
          | some l => simp [e0]
        rw [e] at hp; exact hp Z h
      · refine c_isLock hV h (fun l hz hln ez => t1 ?_) (fun hz => f1 ?_)
        · subst ez
          refine c_knows hc (p := p) (l := l) (by omega) (by omega) (fun hk => t2 ?_) (fun hk => f2 ?_)
          · refine c_knows hc (p := q) (l := l) (by omega) (by omega) (fun hk2 => ?_) (fun hk2 => f2 ?_)
            · have e : tellsA σ (nI p) (nI q) (nI l) = (-2, σ) := by simp [tellsA, hx, hy, hz, hpq, hk2]
              rw [e] at hp; exact t2 (hp Z h)
            · have e : tellsA σ (nI p) (nI q) (nI l) = (nI (ct 6 fun i => knO (telS (scO σ) q l) i l), scS (remS σ) (telS (scO σ) q l)) := by simp [tellsA, hx, hy, hz, hpq, hk, hk2]
              rw [e] at hp
              refine c_rem hV h (fun A B O hR Z1 e1 => ?_)
              subst e1
              refine ⟨vp_in_nI (by omega) (by decide), vp_in_nI (by omega) (by decide), ?_⟩
              rw [nI_clamp (by omega), sh1 q (by omega)]
              intro Z2 e2
              have hB : Cs (scO σ) B := hR.2.2.2.1.1
              have hC := Cs_tel hB (q := q) (l := l) (by omega)
              subst e2
              exact c_knowerCount hC (l := l) (by omega) (hp _ (RC_sc hR hC))
          · have e : tellsA σ (nI p) (nI q) (nI l) = (-2, σ) := by simp [tellsA, hx, hy, hz, hpq, hk]
            rw [e] at hp; exact hp Z h
        · have e : tellsA σ (nI p) (nI q) z = (-1, σ) := by simp [tellsA, hx, hy, hz]
          rw [e] at hp; exact hp Z h
    · have e : tellsA σ x y z = (-1, σ) := by simp [tellsA, hx, hy]
      rw [e] at hp; exact hp Z h
  · have e : tellsA σ x y z = (-1, σ) := by simp [tellsA, hx]
    rw [e] at hp; exact hp Z h
theorem c_changes (hV : VS σ) (h : RC σ Z) (x y : Int32) {post : Int32 → GC → Prop} (hp : ∀ Z', RC (changesA σ x y).2 Z' → post (changesA σ x y).1 Z') : wp_X5_changes Z x y post := by
  have hL := hV.2.1
  have hn := hV.1
  have hs : Vs (nO σ) (LO σ) (scO σ) := hV.2.2.2.1.1
  have hc : Cs (scO σ) (Z.2.1 3) := h.2.2.2.1.1
  unfold wp_X5_changes
  refine c_isPerson hV h (fun p hx hpn ex => t2 ?_) (fun hx => f2 ?_)
  · refine c_isNumber (fun k hy hk ey => t1 ?_) (fun hy => f1 ?_)
    · subst ex ey
      refine c_isOpen hs hL hc (fun o ho => t2 ?_) (fun ho => f2 ?_)
      · have ho8 := hs.lt8 hL (hs.2.2.2.2.2 o ho)
        rw [hc.2.2.2.2, ho]
        show wp_X3_knows _ (nI p) (nI o) _
        refine c_knows hc (p := p) (l := o) (by omega) ho8 (fun hk1 => t1 ?_) (fun hk1 => f1 ?_)
        · have e : changesA σ (nI p) (nI k) = (nI (ct 6 fun q => knO (scO σ) q o && !decide (q = p)), scS (remS σ) (codeS (scO σ) p k)) := by simp [changesA, hx, hy, ho, hk1]
          rw [e] at hp
          refine c_rem hV h (fun A B O hR Z1 e1 => ?_)
          subst e1
          have hB : Cs (scO σ) B := hR.2.2.2.1.1
          refine c_giveCode hs hL hB ho (by omega) (fun S' hS' Z2 e2 => ?_)
          subst e2
          exact hp _ (RC_sc hR hS')
        · have e : changesA σ (nI p) (nI k) = (-2, σ) := by simp [changesA, hx, hy, ho, hk1]
          rw [e] at hp; exact hp Z h
      · have e : changesA σ (nI p) (nI k) = (-2, σ) := by simp [changesA, hx, hy, ho]
        rw [e] at hp; exact hp Z h
    · have e : changesA σ x y = (-1, σ) := by simp [changesA, hx, hy]
      rw [e] at hp; exact hp Z h
  · have e : changesA σ x y = (-1, σ) := by simp [changesA, hx]
    rw [e] at hp; exact hp Z h
theorem Cs_try {s : SC} {S : Ob} (h : Cs s S) {l x : Nat} (hl : l < 8) : Cs (cdO s, upN (shO s) l x, knO s, rgO s, opO s) (pa S 1 l (nI x)) := by
  obtain ⟨h1, h2, h3, h4, h5⟩ := h
  refine ⟨h1, fun y hy => ?_, h3, h4, h5⟩
  show upd (S.2 1) l (nI x) y = nI (upN (shO s) l x y)
  unfold upd upN
  by_cases e : y = l
  · rw [if_pos e, if_pos e]
  · rw [if_neg e, if_neg e]; exact h2 y hy
theorem c_tries (hV : VS σ) (h : RC σ Z) (x y : Int32) {post : Int32 → GC → Prop} (hp : ∀ Z', RC (triesA σ x y).2 Z' → post (triesA σ x y).1 Z') : wp_X5_tries Z x y post := by
  have hL := hV.2.1
  have hs : Vs (nO σ) (LO σ) (scO σ) := hV.2.2.2.1.1
  have hc : Cs (scO σ) (Z.2.1 3) := h.2.2.2.1.1
  unfold wp_X5_tries
  refine c_isLock hV h (fun l hx hln ex => t2 ?_) (fun hx => f2 ?_)
  · refine c_isNumber (fun k hy hk ey => t1 ?_) (fun hy => f1 ?_)
    · subst ex ey
      refine c_isOpen hs hL hc (fun o ho => t1 ?_) (fun ho => f1 ?_)
      · have e : triesA σ (nI l) (nI k) = (-2, σ) := by simp [triesA, hx, hy, ho]
        rw [e] at hp; exact hp Z h
      · refine c_inRing hs hL hc l (by omega) (fun hm => t1 ?_) (fun hm => f1 ?_)
        · have e : triesA σ (nI l) (nI k) = (nI (rw3 k (cdO (scO σ) l)), scS (remS σ) (tryS (scO σ) l k)) := by simp [triesA, hx, hy, ho, hm]
          rw [e] at hp
          refine c_rem hV h (fun A B O hR Z1 e1 => ?_)
          subst e1
          refine ⟨vp_in_nI (by omega) (by decide), ?_⟩
          rw [nI_clamp (by omega)]
          intro Z2 e2
          have hB : Cs (scO σ) B := hR.2.2.2.1.1
          have hC := Cs_try hB (l := l) (x := k) (by omega)
          refine ⟨vp_in_nI (by omega) (by decide), ?_⟩
          have ec : (Z2.2.1 3).2 0 l = nI (cdO (scO σ) l) := by rw [e2]; exact hC.1 l (by omega)
          rw [ec]
          refine c_right hk (hs.2.2.2.1 l) ?_
          have h3 := rw3_le k (cdO (scO σ) l)
          rw [show (3 : Int32) = nI 3 from rfl, nI_eq (Nat.lt_of_le_of_lt (rw3_le _ _) (by decide)) (by decide)]
          refine ⟨fun c => ?_, fun c Z3 e3 => ?_⟩
          · subst e2
            refine hp _ (RC_sc hR ?_)
            have et : tryS (scO σ) l k = (cdO (scO σ), upN (shO (scO σ)) l k, knO (scO σ), rgO (scO σ), opO (scO σ)) := by
              unfold tryS; rw [if_neg c, ho]
            rw [et]
            exact hC
          · have e4 : Z3 = gx (gpo (gx (gx Z 2 A) 3 B) 0 O) 3 (pf (pa B 1 l (nI k)) 4 (nI l)) := by
              rw [e3, e2]; exact gx_gx _ _ _ _
            subst e4
            refine hp _ (RC_sc hR ?_)
            have et : tryS (scO σ) l k = (cdO (scO σ), upN (shO (scO σ)) l k, knO (scO σ), rgO (scO σ), some l) := by
              unfold tryS; rw [if_pos c]
            rw [et]
            exact ⟨hC.1, hC.2.1, hC.2.2.1, hC.2.2.2.1, rfl⟩
        · have e : triesA σ (nI l) (nI k) = (-2, σ) := by simp [triesA, hx, hy, hm]
          rw [e] at hp; exact hp Z h
    · have e : triesA σ x y = (-1, σ) := by simp [triesA, hx, hy]
      rw [e] at hp; exact hp Z h
  · have e : triesA σ x y = (-1, σ) := by simp [triesA, hx]
    rw [e] at hp; exact hp Z h
theorem c_undo (hV : VS σ) (h : RC σ Z) {post : Int32 → GC → Prop} (hp : ∀ Z', RC (undoA σ).2 Z' → post (undoA σ).1 Z') : wp_X5_undo Z post := by
  have hw := h.2.2.2.1
  have hk := hV.2.2.2.1.2.1
  unfold wp_X5_undo
  rw [hw.2.1, show (0 : Int32) = nI 0 from rfl, nI_eq (by omega) (by decide)]
  unfold undoA at hp
  refine ⟨fun c => ?_, fun c => ?_⟩
  · rw [if_neg c] at hp
    refine c_takeBack hV.2.2.2.1 hV.2.1 c hw (fun A B O hC Z1 e1 => ?_)
    subst e1
    have e2 : ((gpo (gx (gx Z 2 A) 3 B) 0 O).2.1 2).1 2 = nI ((wO σ).2.1 - 1) := hC.2.1
    rw [e2]
    exact hp _ (RC_w h hC)
  · rw [if_pos c] at hp; exact hp Z h
theorem c_keep (hV : VS σ) (h : RC σ Z) (x : Int32) {post : Int32 → GC → Prop} (hp : ∀ Z', RC (keepA σ x).2 Z' → post (keepA σ x).1 Z') : wp_X5_keep Z x post := by
  have hL := hV.2.1
  have hs : Vs (nO σ) (LO σ) (scO σ) := hV.2.2.2.1.1
  have hw := h.2.2.2.1
  unfold wp_X5_keep
  refine c_isImage (fun b hx hb ex => t1 ?_) (fun hx => f1 ?_)
  · subst ex
    have e : keepA σ (nI b) = (nI (rgO (scO σ)).length, imS σ b (wO σ)) := by simp [keepA, hx]
    rw [e] at hp
    refine ⟨vp_in_nI hb (by decide), ?_⟩
    obtain ⟨a1, a2, a3, a4, a5, a6, a7, a8, a9⟩ := h
    rcases (show b = 0 ∨ b = 1 by omega) with rfl | rfl
    · refine ⟨fun _ => ?_, fun c => absurd c (by decide)⟩
      refine c_copyNow hV.2.2.2.1 hL hw (fun A1 B1 O1 hC Z1 e1 => ⟨vp_in_nI (n := 0) (by decide) (by decide), fun Z2 e2 => ?_⟩)
      subst e1 e2
      refine c_ringSize hs hL hw.1 (hp _ ?_)
      exact ⟨a1, a2, a3, a4, ⟨rfl, fun w ew => by cases ew; exact hC⟩, a6, a7, a8, a9⟩
    · refine ⟨fun c => absurd c (by decide), fun _ => ?_⟩
      refine c_copyNow hV.2.2.2.1 hL hw (fun A1 B1 O1 hC Z1 e1 => ⟨vp_in_nI (n := 1) (by decide) (by decide), fun Z2 e2 => ?_⟩)
      subst e1 e2
      refine c_ringSize hs hL hw.1 (hp _ ?_)
      exact ⟨a1, a2, a3, a4, a5, ⟨rfl, fun w ew => by cases ew; exact hC⟩, a7, a8, a9⟩
  · have e : keepA σ x = (-1, σ) := by simp [keepA, hx]
    rw [e] at hp; exact hp Z h
theorem c_back (hV : VS σ) (h : RC σ Z) (x : Int32) {post : Int32 → GC → Prop} (hp : ∀ Z', RC (backA σ x).2 Z' → post (backA σ x).1 Z') : wp_X5_back Z x post := by
  have hL := hV.2.1
  unfold wp_X5_back
  refine c_isImage (fun b hx hb ex => t1 ?_) (fun hx => f1 ?_)
  · subst ex
    refine ⟨vp_in_nI hb (by decide), ?_⟩
    rw [nI_clamp (by omega)]
    obtain ⟨a1, a2, a3, a4, a5, a6, a7, a8, a9⟩ := id h
    have hvi := hV.2.2.2.2.1 b
    rcases (show b = 0 ∨ b = 1 by omega) with rfl | rfl
    · rw [a5.1]
      cases hi : imO σ 0 with
      | none =>
        have e : backA σ (nI 0) = (-2, σ) := by simp [backA, hx, hi]
        rw [e] at hp; exact f1 (hp Z h)
      | some w =>
        have e : backA σ (nI 0) = (nI (rgO w.1).length, wS σ w) := by simp [backA, hx, hi]
        rw [e] at hp
        have hC0 := a5.2 w hi
        refine t1 ⟨vp_in_nI (n := 0) (by decide) (by decide), fun _ => ?_, fun c => absurd c (by decide)⟩
        refine c_copyNow (hvi w hi) hL hC0 (fun A1 B1 O1 hC Z1 e1 => ?_)
        subst e1
        refine c_ringSize (hvi w hi).1 hL hC.1 (hp _ ?_)
        exact ⟨a1, a2, a3, hC, ⟨a5.1, a5.2⟩, a6, a7, a8, a9⟩
    · rw [a6.1]
      cases hi : imO σ 1 with
      | none =>
        have e : backA σ (nI 1) = (-2, σ) := by simp [backA, hx, hi]
        rw [e] at hp; exact f1 (hp Z h)
      | some w =>
        have e : backA σ (nI 1) = (nI (rgO w.1).length, wS σ w) := by simp [backA, hx, hi]
        rw [e] at hp
        have hC0 := a6.2 w hi
        refine t1 ⟨vp_in_nI (n := 1) (by decide) (by decide), fun c => absurd c (by decide), fun _ => ?_⟩
        refine c_copyNow (hvi w hi) hL hC0 (fun A1 B1 O1 hC Z1 e1 => ?_)
        subst e1
        refine c_ringSize (hvi w hi).1 hL hC.1 (hp _ ?_)
        exact ⟨a1, a2, a3, hC, a5, ⟨a6.1, a6.2⟩, a7, a8, a9⟩
  · have e : backA σ x = (-1, σ) := by simp [backA, hx]
    rw [e] at hp; exact hp Z h
end C
