/-! ===== pure: items, by the model ===== -/
theorem kI_tab : ∀ k, k < 5 → ∀ m, m < 4 → (kI k = nI m ↔ k = m) := by decide +kernel
theorem kI_eq {k m : Nat} (hk : k ≤ 4) (hm : m < 4) : kI k = nI m ↔ k = m := kI_tab k (by omega) m hm
def MR (π : PL) (M : Mo) : Prop := M.1.1 3 = nI π.1 ∧ M.1.1 4 = nI π.2.1 ∧ (∀ k, k < π.2.1 → M.1.2 6 k = nI k) ∧ (∀ l, l < 8 → M.1.2 6 (10 + l) = nI (π.2.2.1 l)) ∧ (∀ l, l < 8 → M.1.2 6 (18 + l) = nI 0) ∧ (∀ p, p < 6 → M.1.2 6 (26 + p) = nI (mk 8 (π.2.2.2.1 p))) ∧ ∀ p, p < 6 → M.1.2 5 p = nI (π.2.2.2.2 p)
def RE (M M' : Mo) : Prop := (∀ k, k ≠ 3 → k ≠ 4 → (k < 20 ∨ 23 < k) → M'.1.1 k = M.1.1 k) ∧ (∀ k, k ≠ 5 → k ≠ 6 → M'.1.2 k = M.1.2 k) ∧ M'.2 = M.2
theorem RE_refl (M : Mo) : RE M M := ⟨fun _ _ _ _ => rfl, fun _ _ _ => rfl, rfl⟩
theorem RE_TE {M M' : Mo} (h : TE M M') : RE M M' := ⟨fun k _ _ hk => h.1 k hk, fun k _ _ => by rw [h.2.1], h.2.2⟩
theorem RE_trans {M M1 M2 : Mo} (h : RE M M1) (g : RE M1 M2) : RE M M2 := ⟨fun k a b c => (g.1 k a b c).trans (h.1 k a b c), fun k a b => (g.2.1 k a b).trans (h.2.1 k a b), g.2.2.trans h.2.2⟩
theorem RE_pf {M M1 : Mo} (h : RE M M1) {k : Nat} (hk : k = 3 ∨ k = 4) (v : Int32) : RE M (pmf M1 k v) := by
  refine ⟨fun j a b c => ?_, h.2.1, h.2.2⟩
  show upd M1.1.1 k v j = _
  rw [upd_at, if_neg (by omega)]
  exact h.1 j a b c
theorem RE_pa {M M1 : Mo} (h : RE M M1) {k : Nat} (hk : k = 5 ∨ k = 6) (i : Nat) (v : Int32) : RE M (pma M1 k i v) := by
  refine ⟨h.1, fun j a b => ?_, h.2.2⟩
  show sa M1.1.2 k _ j = _
  rw [sa_ne _ _ (by omega)]
  exact h.2.1 j a b
theorem RE_tx {t : Nat × (Nat → Nat)} {M M' : Mo} (h : RE M M') (ht : TX t (M.1.1 14) (M.1.2 15)) : TX t (M'.1.1 14) (M'.1.2 15) := by rw [h.1 14 (by decide) (by decide) (by decide), h.2.1 15 (by decide) (by decide)]; exact ht
theorem MR_TE {π : PL} {M M' : Mo} (h : TE M M') (g : MR π M) : MR π M' := by
  unfold MR
  rw [h.1 3 (by decide), h.1 4 (by decide), h.2.1]
  exact g
def IM2 (res : Rs) (r : Int32) (M : Mo) : Prop :=
  match res with
  | .inl p => r = 0 ∧ M.1.1 21 = nI p
  | .inr e => r = 1 ∧ M.1.1 20 = nI e.2 ∧ MR e.1 M
section D
variable {N : Nat} {b : Nat → Nat} {M : Mo} {π : PL}
theorem m_num (hN : N ≤ 150) (hb : ∀ i, b i < 256) (ht : TX (N, b) (M.1.1 14) (M.1.2 15)) {a : Nat} (ha : M.1.1 20 = nI a) (haN : a ≤ N) {h : Nat} {x1 : Int32} (hx : ∀ v, v < 1000 → (x1 < nI v ↔ h ≤ v)) {post : Int32 → Mo → Prop} (h1 : ∀ M', MT (nx N b a) M' → TE M M' → (nx N b a).1 = 2 → (nx N b a).2.1 < h → M'.1.1 23 = nI (nx N b a).2.1 → post 1 M') (h0 : ∀ M', MT (nx N b a) M' → TE M M' → ¬ ((nx N b a).1 = 2 ∧ (nx N b a).2.1 < h) → post 0 M') : wp_X6_isNumber M x1 post := by
  unfold wp_X6_isNumber
  obtain ⟨n1, n2, n3, n4, n5, n6, n7, n8⟩ := nx_ok (b := b) haN
  refine m_next hN hb ht ha haN (fun M' hM hT => ?_)
  rw [hM.1, show (2 : Int32) = nI 2 from rfl, kI_eq n8 (by decide)]
  refine ⟨fun c => h0 M' hM hT (fun q => c q.1), fun c => ?_⟩
  have h5 := hM.2.2.1 (Or.inr c)
  rw [h5, hx _ (n7 c)]
  exact ⟨fun c2 => h0 M' hM hT (fun q => by omega), fun c2 => h1 M' hM hT c (by omega) h5⟩
theorem m_end (hN : N ≤ 150) (hb : ∀ i, b i < 256) (ht : TX (N, b) (M.1.1 14) (M.1.2 15)) {a : Nat} (ha : M.1.1 20 = nI a) (haN : a ≤ N) (hR : MR π M) {post : Int32 → Mo → Prop} (hp : ∀ r M', IM2 (enI N b π a) r M' → TE M M' → (r = 0 ∨ r = 1) → post r M') : wp_X6_isEnd M post := by
  unfold wp_X6_isEnd
  obtain ⟨n1, n2, n3, n4, n5, n6, n7, n8⟩ := nx_ok (b := b) haN
  refine m_next hN hb ht ha haN (fun M' hM hT => ?_)
  rw [hM.1, show (3 : Int32) = nI 3 from rfl, kI_eq n8 (by decide)]
  unfold enI at hp
  refine ⟨fun c => ?_, fun c => ?_⟩
  · rw [if_neg c] at hp
    exact hp 0 M' ⟨rfl, hM.2.1⟩ hT (Or.inl rfl)
  · rw [if_pos c] at hp
    exact hp 1 M' ⟨rfl, hM.2.2.2 (by omega), MR_TE hT hR⟩ hT (Or.inr rfl)
theorem m_no145 {x1 t : Int32} {post : Int32 → Mo → Prop} (e3 : ¬ t = 107) (e4 : ¬ t = 102) (h : post 0 M) : wp_X6_item_J145 post x1 t M := by
  unfold wp_X6_item_J145
  exact ⟨fun c => absurd c e3, fun _ => ⟨fun _ => h, fun c => absurd c e4⟩⟩
theorem m_no74 {x1 t : Int32} {post : Int32 → Mo → Prop} (e2 : ¬ t = 108) (e3 : ¬ t = 107) (e4 : ¬ t = 102) (h : post 0 M) : wp_X6_item_J74 post x1 t M := by
  unfold wp_X6_item_J74
  exact ⟨fun _ => m_no145 e3 e4 h, fun c => absurd c e2⟩
theorem m_no16 {x1 t : Int32} {post : Int32 → Mo → Prop} (e1 : ¬ t = 110) (e2 : ¬ t = 108) (e3 : ¬ t = 107) (e4 : ¬ t = 102) (h : post 0 M) : wp_X6_item_J16 post x1 t M := by
  unfold wp_X6_item_J16
  exact ⟨fun _ => m_no74 e2 e3 e4 h, fun c => absurd c e1⟩
theorem MR_K (hv2 : π.2.1 ≤ 8) (hR : MR π M) {p l : Nat} (hp : p < 6) (hl : l < 8) : MR (plK π p l) (pma M 6 (26 + p) (M.1.2 6 (26 + p) ||| nI (2 ^ l))) := by
  obtain ⟨h1, h2, h3, h4, h5, h6, h7⟩ := hR
  refine ⟨h1, h2, fun k hk => ?_, fun y hy => ?_, fun y hy => ?_, fun q hq => ?_, h7⟩
  · have hk : k < π.2.1 := hk
    show upd (M.1.2 6) _ _ k = _
    rw [upd_at, if_neg (by omega)]; exact h3 k hk
  · show upd (M.1.2 6) _ _ _ = _
    rw [upd_at, if_neg (by omega)]; exact h4 y hy
  · show upd (M.1.2 6) _ _ _ = _
    rw [upd_at, if_neg (by omega)]; exact h5 y hy
  · show upd (M.1.2 6) _ _ _ = nI (mk 8 fun k => decide (q = p ∧ k = l) || π.2.2.2.1 q k)
    rw [upd_at]
    by_cases e : q = p
    · rw [if_pos (by omega)]
      subst e
      rw [h6 q hq, fa_or, mk_set _ hl]
      congr 1
      exact mk_cg fun i _ => by simp
    · rw [if_neg (by omega), h6 q hq]
      congr 1
      exact mk_cg fun i _ => by simp [e]
theorem MR_F (hR : MR π M) {a c : Nat} (ha : a < 6) (hc : c < 6) (hne : c ≠ a) {M1 M2 : Mo} (e1 : M1 = pma M 5 a (M.1.2 5 a ||| nI (2 ^ c))) (e2 : M2 = pma M1 5 c (M1.1.2 5 c ||| nI (2 ^ a))) : MR (plF π a c) M2 := by
  obtain ⟨h1, h2, h3, h4, h5, h6, h7⟩ := hR
  rw [e2, e1]
  refine ⟨h1, h2, h3, h4, h5, h6, fun y hy => ?_⟩
  show upd (upd (M.1.2 5) _ _) _ (upd (M.1.2 5) _ _ _ ||| _) y = nI (upN (upN π.2.2.2.2 _ _) _ _ y)
  rw [upd_at, upd_at, upd_at, if_neg hne]
  unfold upN
  by_cases z : y = c
  · rw [if_pos z, if_pos z, h7 _ hc, fa_or]
  · rw [if_neg z, if_neg z]
    by_cases z2 : y = a
    · rw [if_pos z2, if_pos z2, h7 _ ha, fa_or]
    · rw [if_neg z2, if_neg z2]; exact h7 y hy
theorem MR_L (hv2 : π.2.1 < 8) (hR : MR π M) {v : Nat} {M1 M2 : Mo} (e1 : M1 = pma M 6 (10 + π.2.1) (nI v)) (e2 : M2 = pma M1 6 π.2.1 (nI π.2.1)) : MR (plL π v) (pmf M2 4 (nI (π.2.1 + 1))) := by
  obtain ⟨h1, h2, h3, h4, h5, h6, h7⟩ := hR
  rw [e2, e1]
  refine ⟨h1, rfl, fun k hk => ?_, fun y hy => ?_, fun y hy => ?_, fun q hq => ?_, h7⟩
  · have hk : k < π.2.1 + 1 := hk
    show upd (upd (M.1.2 6) _ _) _ _ k = _
    rw [upd_at]
    by_cases z : k = π.2.1
    · rw [if_pos z, z]
    · rw [if_neg z, upd_at, if_neg (by omega)]; exact h3 k (by omega)
  · show upd (upd (M.1.2 6) _ _) _ _ _ = nI (upN π.2.2.1 π.2.1 v y)
    rw [upd_at, if_neg (by omega), upd_at]
    unfold upN
    by_cases z : y = π.2.1
    · rw [if_pos (by omega), if_pos z]
    · rw [if_neg (by omega), if_neg z]; exact h4 y hy
  · show upd (upd (M.1.2 6) _ _) _ _ _ = _
    rw [upd_at, if_neg (by omega), upd_at, if_neg (by omega)]; exact h5 y hy
  · show upd (upd (M.1.2 6) _ _) _ _ _ = _
    rw [upd_at, if_neg (by omega), upd_at, if_neg (by omega)]; exact h6 q hq
theorem m_item (hN : N ≤ 150) (hb : ∀ i, b i < 256) (ht : TX (N, b) (M.1.1 14) (M.1.2 15)) {a0 : Nat} (ha0 : a0 ≤ N) (hM : MT (nx N b a0) M) (hv : VP π) (hR : MR π M) (f : Bool) {post : Int32 → Mo → Prop} (hp : ∀ r M', IM2 (itm N b π f (nx N b a0)) r M' → RE M M' → post r M') : wp_X6_item M (bI f) post := by
  obtain ⟨n1, n2, n3, n4, n5, n6, n7, n8⟩ := nx_ok (b := b) ha0
  have hv1 := hv.1
  have hv2 := hv.2.1
  unfold wp_X6_item
  rw [hM.1, show (1 : Int32) = nI 1 from rfl, kI_eq n8 (by decide)]
  unfold itm at hp
  refine ⟨fun c1 => ?_, fun c1 => ?_⟩
  · rw [if_neg c1] at hp
    exact m_no16 (by decide) (by decide) (by decide) (by decide) (hp 0 M ⟨rfl, hM.2.1⟩ (RE_refl M))
  · rw [if_pos c1] at hp
    have hvl := nx_let hb c1
    have h5 := hM.2.2.1 (Or.inl c1)
    have h2 := hM.2.2.2 (by omega)
    generalize hτ : nx N b a0 = τ at *
    obtain ⟨m1, m2, m3, m4, m5, m6, m7, m8⟩ := nx_ok (b := b) n3
    rw [h5]
    have E : ∀ m : Nat, m < 256 → (nI τ.2.1 = nI m ↔ τ.2.1 = m) := fun m hm => nI_eq (by omega) (by omega)
    have nE : ∀ m : Nat, m < 256 → τ.2.1 ≠ m → ¬ nI τ.2.1 = nI m := fun m hm h q => h ((E m hm).mp q)
    by_cases e1 : τ.2.1 = 110
    · rw [if_pos e1] at hp
      by_cases e2 : f = true
      · rw [if_pos e2] at hp
        unfold itN at hp
        unfold wp_X6_item_J16
        refine ⟨fun c => absurd ((E 110 (by decide)).mpr e1) c, fun _ => ⟨fun c => absurd c (by rw [e2]; decide), fun _ => ?_⟩⟩
        refine m_num hN hb ht h2 n3 (h := 7) (fun v hv => by rw [show (6 : Int32) = nI 6 from rfl, nI_ltI (by decide) (by omega)]; omega) (fun M1 hM1 hT1 q1 q2 v1 => t2 ?_) (fun M1 hM1 hT1 q => f2 (f2 ?_))
        · rw [v1]
          have hR1 := MR_TE hT1 hR
          have hE1 := RE_pf (RE_TE hT1) (k := 3) (Or.inl rfl) (nI (nx N b τ.2.2.2).2.1)
          have z0 : nI (nx N b τ.2.2.2).2.1 ≤ 0 ↔ (nx N b τ.2.2.2).2.1 ≤ 0 := nI_leI (b := 0) (by omega) (by decide)
          refine ⟨fun q3 => ?_, fun q3 => ?_⟩
          · rw [z0] at q3
            rw [if_neg (fun z => by omega)] at hp
            exact f2 (hp 0 _ ⟨rfl, hM1.2.1⟩ hE1)
          · rw [z0] at q3
            rw [if_pos ⟨q1, by omega, by omega⟩] at hp
            refine t2 ?_
            have hR2 : MR (plN π (nx N b τ.2.2.2).2.1) (pmf M1 3 (nI (nx N b τ.2.2.2).2.1)) := by
              obtain ⟨g1, g2, g3, g4, g5, g6, g7⟩ := hR1
              exact ⟨rfl, g2, g3, g4, g5, g6, g7⟩
            refine m_end hN hb (RE_tx hE1 ht) (hM1.2.2.2 (by omega)) m3 hR2 (fun r M3 hr hT3 hrr => ?_)
            have := hp r M3 hr (RE_trans hE1 (RE_TE hT3))
            rcases hrr with rfl | rfl
            · exact f2 this
            · exact t2 this
        · rw [if_neg (fun z => q ⟨z.1, by omega⟩)] at hp
          exact hp 0 _ ⟨rfl, hM1.2.1⟩ (RE_pf (RE_TE hT1) (k := 3) (Or.inl rfl) _)
      · rw [if_neg e2] at hp
        have e2 : f = false := by simpa using e2
        unfold wp_X6_item_J16
        refine ⟨fun c => absurd ((E 110 (by decide)).mpr e1) c, fun _ => ⟨fun _ => m_no74 (nE 108 (by decide) (by omega)) (nE 107 (by decide) (by omega)) (nE 102 (by decide) (by omega)) (hp 0 M ⟨rfl, hM.2.1⟩ (RE_refl M)), fun c => absurd (by rw [e2]; rfl) c⟩⟩
    · rw [if_neg e1] at hp
      unfold wp_X6_item_J16
      refine ⟨fun _ => ?_, fun c => absurd c (nE 110 (by decide) e1)⟩
      by_cases e2 : τ.2.1 = 108
      · rw [if_pos e2] at hp
        unfold wp_X6_item_J74
        refine ⟨fun c => absurd ((E 108 (by decide)).mpr e2) c, fun _ => ?_⟩
        rw [hR.2.1, show (8 : Int32) = nI 8 from rfl, nI_leI (by decide) (by omega)]
        refine ⟨fun q0 => ?_, fun q0 => ?_⟩
        · rw [if_neg (by omega)] at hp
          exact m_no145 (nE 107 (by decide) (by omega)) (nE 102 (by decide) (by omega)) (hp 0 M ⟨rfl, hM.2.1⟩ (RE_refl M))
        · rw [if_pos (by omega)] at hp
          unfold itL at hp
          refine m_num hN hb ht h2 n3 (h := 1000) (fun v hv => by rw [show (999 : Int32) = nI 999 from rfl, nI_ltI (by decide) (by omega)]; omega) (fun M1 hM1 hT1 q1 q2 v1 => t1 ?_) (fun M1 hM1 hT1 q => f1 ?_)
          · rw [if_pos q1] at hp
            have hR1 := MR_TE hT1 hR
            rw [v1, hR1.2.1, show (10 : Int32) = nI 10 from rfl, nI_add, nI_clamp (by omega)]
            refine ⟨vp_in_nI (by omega) (by decide), fun M2 e5 => ?_⟩
            have b4 : M2.1.1 4 = nI π.2.1 := by rw [e5]; exact hR1.2.1
            rw [b4, nI_clamp (by omega)]
            refine ⟨vp_in_nI (by omega) (by decide), fun M3 e6 => ?_⟩
            have c4 : M3.1.1 4 = nI π.2.1 := by rw [e6]; exact b4
            rw [c4, nI_1]
            have hE3 : RE M (pmf M3 4 (nI (π.2.1 + 1))) := by
              rw [e6, e5]
              exact RE_pf (RE_pa (RE_pa (RE_TE hT1) (Or.inr rfl) _ _) (Or.inr rfl) _ _) (Or.inr rfl) _
            have a20 : (pmf M3 4 (nI (π.2.1 + 1))).1.1 20 = nI (nx N b τ.2.2.2).2.2.2 := by
              rw [e6, e5]
              exact hM1.2.2.2 (by omega)
            refine m_end hN hb (RE_tx hE3 ht) a20 m3 (MR_L (by omega) hR1 e5 e6) (fun r M4 hr hT4 hrr => ?_)
            have := hp r M4 hr (RE_trans hE3 (RE_TE hT4))
            rcases hrr with rfl | rfl
            · exact ⟨nar0, this⟩
            · exact ⟨nar1, this⟩
          · rw [if_neg (fun z => q ⟨z, m7 z⟩)] at hp
            exact hp 0 M1 ⟨rfl, hM1.2.1⟩ (RE_TE hT1)
      · rw [if_neg e2] at hp
        unfold wp_X6_item_J74
        refine ⟨fun _ => ?_, fun c => absurd c (nE 108 (by decide) e2)⟩
        by_cases e3 : τ.2.1 = 107
        · rw [if_pos e3] at hp
          unfold itK at hp
          unfold wp_X6_item_J145
          refine ⟨fun _ => ?_, fun c => absurd ((E 107 (by decide)).mpr e3) c⟩
          unfold wp_X6_item_J157
          refine m_num hN hb ht h2 n3 (h := π.1) (by rw [hR.1]; exact lt_pred (by omega)) (fun M1 hM1 hT1 q1 q2 v1 => t1 ?_) (fun M1 hM1 hT1 q => f1 ?_)
          · rw [if_pos ⟨q1, q2⟩] at hp
            have hR1 := MR_TE hT1 hR
            refine ⟨fun c => absurd ((E 107 (by decide)).mpr e3) c, fun _ => ?_⟩
            refine m_num hN hb (RE_tx (RE_TE hT1) ht) (hM1.2.2.2 (by omega)) m3 (h := π.2.1) (by rw [hR1.2.1]; exact lt_pred (by omega)) (fun M2 hM2 hT2 q3 q4 v2 => t1 ?_) (fun M2 hM2 hT2 q => f1 ?_)
            · obtain ⟨o1, o2, o3, o4, o5, o6, o7, o8⟩ := nx_ok (b := b) m3
              rw [if_pos ⟨q3, q4⟩] at hp
              have hR2 := MR_TE hT2 hR1
              rw [v1, v2, show (26 : Int32) = nI 26 from rfl, nI_add, nI_clamp (by omega), sh1 _ (by omega)]
              refine ⟨vp_in_nI (by omega) (by decide), vp_in_nI (by omega) (by decide), fun M3 e5 => ?_⟩
              have hE3 : RE M M3 := by
                rw [e5]
                exact RE_pa (RE_trans (RE_TE hT1) (RE_TE hT2)) (Or.inr rfl) _ _
              have hR3 : MR (plK π (nx N b τ.2.2.2).2.1 (nx N b (nx N b τ.2.2.2).2.2.2).2.1) M3 := by
                rw [e5]
                exact MR_K hv2 hR2 (by omega) (by omega)
              have a20 : M3.1.1 20 = nI (nx N b (nx N b τ.2.2.2).2.2.2).2.2.2 := by
                rw [e5]
                exact hM2.2.2.2 (by omega)
              refine m_end hN hb (RE_tx hE3 ht) a20 o3 hR3 (fun r M4 hr hT4 hrr => ?_)
              have := hp r M4 hr (RE_trans hE3 (RE_TE hT4))
              rcases hrr with rfl | rfl
              · exact ⟨nar0, this⟩
              · exact ⟨nar1, this⟩
            · rw [if_neg q] at hp
              exact hp 0 M2 ⟨rfl, hM2.2.1⟩ (RE_trans (RE_TE hT1) (RE_TE hT2))
          · rw [if_neg q] at hp
            exact hp 0 M1 ⟨rfl, hM1.2.1⟩ (RE_TE hT1)
        · rw [if_neg e3] at hp
          by_cases e4 : τ.2.1 = 102
          · rw [if_pos e4] at hp
            unfold itF at hp
            unfold wp_X6_item_J145
            refine ⟨fun c => absurd c (nE 107 (by decide) e3), fun _ => ⟨fun c => absurd ((E 102 (by decide)).mpr e4) c, fun _ => ?_⟩⟩
            unfold wp_X6_item_J157
            refine m_num hN hb ht h2 n3 (h := π.1) (by rw [hR.1]; exact lt_pred (by omega)) (fun M1 hM1 hT1 q1 q2 v1 => t1 ?_) (fun M1 hM1 hT1 q => f1 ?_)
            · rw [if_pos ⟨q1, q2⟩] at hp
              have hR1 := MR_TE hT1 hR
              refine ⟨fun _ => ?_, fun c => absurd c (nE 107 (by decide) e3)⟩
              refine m_num hN hb (RE_tx (RE_TE hT1) ht) (hM1.2.2.2 (by omega)) m3 (h := π.1) (by rw [hR1.1]; exact lt_pred (by omega)) (fun M2 hM2 hT2 q3 q4 v2 => t2 ?_) (fun M2 hM2 hT2 q => f2 ?_)
              · obtain ⟨o1, o2, o3, o4, o5, o6, o7, o8⟩ := nx_ok (b := b) m3
                have hR2 := MR_TE hT2 hR1
                rw [v1, v2, nI_eq (by omega) (by omega)]
                refine ⟨fun q5 => ?_, fun q5 => ?_⟩
                · rw [if_pos ⟨q3, q4, q5⟩] at hp
                  rw [nI_clamp (by omega), sh1 _ (by omega), sh1 _ (by omega)]
                  refine ⟨vp_in_nI (by omega) (by decide), vp_in_nI (by omega) (by decide), fun M3 e5 => ?_⟩
                  have b23 : M3.1.1 23 = nI (nx N b (nx N b τ.2.2.2).2.2.2).2.1 := by rw [e5]; exact v2
                  rw [b23, nI_clamp (by omega)]
                  refine ⟨vp_in_nI (by omega) (by decide), vp_in_nI (by omega) (by decide), fun M4 e6 => ?_⟩
                  have hE4 : RE M M4 := by
                    rw [e6, e5]
                    exact RE_pa (RE_pa (RE_trans (RE_TE hT1) (RE_TE hT2)) (Or.inl rfl) _ _) (Or.inl rfl) _ _
                  have a20 : M4.1.1 20 = nI (nx N b (nx N b τ.2.2.2).2.2.2).2.2.2 := by
                    rw [e6, e5]
                    exact hM2.2.2.2 (by omega)
                  refine m_end hN hb (RE_tx hE4 ht) a20 o3 (MR_F hR2 (by omega) (by omega) q5 e5 e6) (fun r M5 hr hT5 hrr => ?_)
                  have := hp r M5 hr (RE_trans hE4 (RE_TE hT5))
                  rcases hrr with rfl | rfl
                  · exact ⟨nar0, this⟩
                  · exact ⟨nar1, this⟩
                · rw [if_neg (fun z => z.2.2 q5)] at hp
                  exact hp 0 M2 ⟨rfl, hM2.2.1⟩ (RE_trans (RE_TE hT1) (RE_TE hT2))
              · rw [if_neg (fun z => q ⟨z.1, z.2.1⟩)] at hp
                exact hp 0 M2 ⟨rfl, hM2.2.1⟩ (RE_trans (RE_TE hT1) (RE_TE hT2))
            · rw [if_neg q] at hp
              exact hp 0 M1 ⟨rfl, hM1.2.1⟩ (RE_TE hT1)
          · rw [if_neg e4] at hp
            exact m_no145 (nE 107 (by decide) e3) (nE 102 (by decide) e4) (hp 0 M ⟨rfl, hM.2.1⟩ (RE_refl M))
end D
