/-! ===== pure: bits and masks ===== -/
def bt (x : Int32) (i : Nat) : Bool := x.toBitVec.getLsbD i
theorem b_ext {x y : Int32} (h : ∀ i, i < 32 → bt x i = bt y i) : x = y := Int32.toBitVec_inj.mp (BitVec.eq_of_getLsbD_eq (fun i hi => h i hi))
theorem b_or (x y : Int32) (i : Nat) : bt (x ||| y) i = (bt x i || bt y i) := by unfold bt; rw [Int32.toBitVec_or, BitVec.getLsbD_or]
theorem b_and (x y : Int32) (i : Nat) : bt (x &&& y) i = (bt x i && bt y i) := by unfold bt; rw [Int32.toBitVec_and, BitVec.getLsbD_and]
theorem b_xor (x y : Int32) (i : Nat) : bt (x ^^^ y) i = (bt x i ^^ bt y i) := by unfold bt; rw [Int32.toBitVec_xor, BitVec.getLsbD_xor]
theorem b_m1 : ∀ i, i < 32 → bt (-1) i = true := by decide +kernel
theorem s_l : ∀ n, n < 32 → ((nI n &&& 31).toBitVec.smod 32).toNat = n := by decide +kernel
theorem bt_nI {a i : Nat} (hi : i < 32) : bt (nI a) i = a.testBit i := by
  show (BitVec.ofNat 32 a).getLsbD i = _
  rw [BitVec.getLsbD_ofNat]
  simp [hi]
theorem fa_and (a b : Nat) : nI a &&& nI b = nI (a &&& b) := b_ext fun i hi => by
  rw [b_and, bt_nI hi, bt_nI hi, bt_nI hi, Nat.testBit_and]
theorem fa_or (a b : Nat) : nI a ||| nI b = nI (a ||| b) := b_ext fun i hi => by
  rw [b_or, bt_nI hi, bt_nI hi, bt_nI hi, Nat.testBit_or]
/-- the number whose bits below n are f's -/
def mk : Nat → (Nat → Bool) → Nat
  | 0, _ => 0
  | n + 1, f => mk n f ||| (if f n then 2 ^ n else 0)
theorem mk_lt (f : Nat → Bool) : ∀ n, mk n f < 2 ^ n
  | 0 => by simp [mk]
  | n + 1 => by
    have h := mk_lt f n
    unfold mk
    refine Nat.or_lt_two_pow (by rw [Nat.pow_succ]; omega) ?_
    split
    · exact Nat.pow_lt_pow_right (by omega) (by omega)
    · exact Nat.two_pow_pos _
theorem mk_tb (f : Nat → Bool) (i : Nat) : ∀ n, (mk n f).testBit i = (decide (i < n) && f i)
  | 0 => by simp [mk]
  | n + 1 => by
    unfold mk
    rw [Nat.testBit_or, mk_tb f i n]
    by_cases h : f n = true
    · rw [if_pos h, Nat.testBit_two_pow]
      by_cases e : n = i
      · subst e; simp [h]
      · have : (i < n + 1) ↔ (i < n) := by omega
        simp [e, this]
    · rw [if_neg h]
      by_cases e : n = i
      · subst e; simp [h]
      · have : (i < n + 1) ↔ (i < n) := by omega
        simp [this]
theorem mk_cg {f g : Nat → Bool} {n : Nat} (h : ∀ i, i < n → f i = g i) : mk n f = mk n g := by
  apply Nat.eq_of_testBit_eq
  intro i
  rw [mk_tb, mk_tb]
  by_cases hi : i < n
  · simp [hi, h i hi]
  · simp [hi]
theorem mk_8 (f : Nat → Bool) : mk 8 f < 256 := mk_lt f 8
theorem mk_6 (f : Nat → Bool) : mk 6 f < 64 := mk_lt f 6
/-- two masks are alike by their bits -/
theorem nb_eq {a b : Nat} (h : ∀ i, i < 32 → a.testBit i = b.testBit i) : nI a = nI b := b_ext fun i hi => by rw [bt_nI hi, bt_nI hi]; exact h i hi
theorem mk_eq {a n : Nat} {f : Nat → Bool} (h : ∀ i, a.testBit i = (decide (i < n) && f i)) : a = mk n f := by
  apply Nat.eq_of_testBit_eq
  intro i
  rw [h i, mk_tb]
theorem mk_step (n : Nat) (f : Nat → Bool) : mk n f ||| (if f n then 2 ^ n else 0) = mk (n + 1) f := rfl
theorem mk_t {n : Nat} {f : Nat → Bool} (h : f n = true) : mk n f ||| 2 ^ n = mk (n + 1) f := by rw [← mk_step, if_pos h]
theorem mk_f {n : Nat} {f : Nat → Bool} (h : f n = false) : mk n f = mk (n + 1) f := by rw [← mk_step, if_neg (by rw [h]; decide), Nat.or_zero]
theorem sh1 : ∀ k, k < 31 → (1 : Int32) <<< (nI k &&& 31) = nI (2 ^ k) := by decide +kernel
theorem hb {a p : Nat} (ha : a < 2 ^ 31) (hp : p < 31) : (((nI a >>> (nI p &&& 31)) &&& 1) = 1) ↔ a.testBit p = true := by
  rw [pk_shrN ha (nI p &&& 31) p (s_l p (by omega)), show (1 : Int32) = nI 1 from rfl, fa_and, Nat.and_one_is_mod, nI_eq (by omega) (by decide), Nat.testBit_eq_decide_div_mod_eq]
  simp
/-- without: the bits of a that b hasn't -/
theorem bnot {a b : Nat} (ha : a < 256) : nI a &&& (nI b ^^^ (-1)) = nI (mk 8 fun i => a.testBit i && !b.testBit i) := b_ext fun i hi => by
  rw [b_and, b_xor, bt_nI hi, bt_nI hi, bt_nI hi, b_m1 i hi, mk_tb]
  by_cases h : i < 8
  · simp [h]
  · have : a.testBit i = false := Nat.testBit_lt_two_pow (Nat.lt_of_lt_of_le ha (show 2 ^ 8 ≤ 2 ^ i from Nat.pow_le_pow_right (by decide) (show 8 ≤ i by omega)))
    simp [this]
/-- how many below n -/
def ct : Nat → (Nat → Bool) → Nat
  | 0, _ => 0
  | n + 1, f => ct n f + (if f n then 1 else 0)
theorem ct_le (f : Nat → Bool) : ∀ n, ct n f ≤ n
  | 0 => Nat.le_refl _
  | n + 1 => by have := ct_le f n; unfold ct; split <;> omega
theorem ct_cg {f g : Nat → Bool} : ∀ {n : Nat}, (∀ i, i < n → f i = g i) → ct n f = ct n g
  | 0, _ => rfl
  | n + 1, h => by unfold ct; rw [ct_cg (fun i hi => h i (by omega)), h n (by omega)]
theorem ct_mk8 (f : Nat → Bool) : ct 8 (mk 8 f).testBit = ct 8 f := ct_cg fun i hi => by rw [mk_tb]; simp [hi]
theorem ct_mk6 (f : Nat → Bool) : ct 8 (mk 6 f).testBit = ct 6 f := by
  have h : ct 8 (mk 6 f).testBit = ct 6 (mk 6 f).testBit := by
    show ct 6 (mk 6 f).testBit + (if (mk 6 f).testBit 6 then 1 else 0) + (if (mk 6 f).testBit 7 then 1 else 0) = _
    rw [mk_tb, mk_tb]
    simp
  rw [h]
  exact ct_cg fun i hi => by rw [mk_tb]; simp [hi]
def bcv (x : Int32) : Int32 :=
  let y1 := x - ((x.toUInt32 >>> ((1 : Int32).toUInt32 &&& Int32.toUInt32 31)).toInt32 &&& 1431655765)
  let y2 := (y1 &&& 858993459) + ((y1.toUInt32 >>> ((2 : Int32).toUInt32 &&& Int32.toUInt32 31)).toInt32 &&& 858993459)
  let y3 := (y2 + (y2.toUInt32 >>> ((4 : Int32).toUInt32 &&& Int32.toUInt32 31)).toInt32) &&& 252645135
  let y4 := y3 + (y3.toUInt32 >>> ((8 : Int32).toUInt32 &&& Int32.toUInt32 31)).toInt32
  let y5 := y4 + (y4.toUInt32 >>> ((16 : Int32).toUInt32 &&& Int32.toUInt32 31)).toInt32
  y5 &&& 63
theorem bcv_tab : ∀ a, a < 256 → bcv (nI a) = nI (ct 8 a.testBit) := by decide +kernel
theorem bc_ok {a : Nat} (ha : a < 256) {post : Int32 → Prop} (h : post (nI (ct 8 a.testBit))) : wp_J6_bitCount_0f7a4 (nI a) post := by
  unfold wp_J6_bitCount_0f7a4
  intro y1 e1 y2 e2 y3 e3 y4 e4 y5 e5
  subst e1 e2 e3 e4 e5
  have := bcv_tab a ha
  rw [← this] at h
  exact h
theorem on_tab : ∀ a, a < 256 → a ≠ 0 → (a &&& (a - 1)) < a ∧ ct 8 a.testBit = ct 8 (a &&& (a - 1)).testBit + 1 := by decide +kernel
theorem on_L {post : Int32 → Prop} {x0 : Int32} : ∀ (a c : Nat), a < 256 → post (nI (c + ct 8 a.testBit)) → ∃ n, wp_X6_ones_L4 post x0 n (nI c) (nI a) := by
  intro a
  induction a using Nat.strongRecOn with
  | ind a ih =>
    intro c ha hp
    by_cases h0 : a = 0
    · subst h0
      refine ⟨1, ?_⟩
      rw [wp_X6_ones_L4]
      refine ⟨fun _ => ?_, fun q => absurd rfl q⟩
      have : ct 8 (Nat.testBit 0) = 0 := by decide
      rw [this] at hp
      exact hp
    · obtain ⟨t1, t2⟩ := on_tab a ha h0
      obtain ⟨n, hn⟩ := ih (a &&& (a - 1)) t1 (c + 1) (by omega) (by rw [show c + 1 + ct 8 (a &&& (a - 1)).testBit = c + ct 8 a.testBit by omega]; exact hp)
      refine ⟨n + 1, ?_⟩
      rw [wp_X6_ones_L4]
      refine ⟨fun q => absurd q (nI_ne0 (by omega) (by omega)), fun _ => ?_⟩
      have e1 : nI a &&& (nI a - 1) = nI (a &&& (a - 1)) := by
        rw [show (1 : Int32) = nI 1 from rfl, pk_sub (by omega), fa_and]
      rw [e1, nI_1]
      exact hn
theorem on_ok {a : Nat} (ha : a < 256) {post : Int32 → Prop} (h : post (nI (ct 8 a.testBit))) : wp_X6_ones (nI a) post := by
  unfold wp_X6_ones
  exact on_L a 0 ha (by rw [Nat.zero_add]; exact h)
/-! small numbers -/
theorem n9 {a : Nat} (h : a < 2 ^ 31) : ¬ nI a = (-9) := by
  intro e
  have := nI_toInt h
  rw [e] at this
  have h2 : (-9 : Int32).toInt = -9 := by decide
  omega
theorem n9' {a : Nat} (h : a < 2 ^ 31) : ¬ (-9) = nI a := fun e => n9 h e.symm
theorem wide_le (a b : Int32) : a.toInt64 ≤ b.toInt64 ↔ a ≤ b := by
  rw [Int64.le_iff_toInt_le, Int32.le_iff_toInt_le, Int32.toInt_toInt64, Int32.toInt_toInt64]
theorem in_ok {v a b : Int64} {post : Int32 → Prop} (h1 : a ≤ v → v ≤ b → post 1) (h0 : ¬ (a ≤ v ∧ v ≤ b) → post 0) : wp_X6_in v a b post := by
  unfold wp_X6_in
  have g := lg_cmp_ge v a
  have k : (0 < lg_cmp v b) ↔ ¬ v ≤ b := by
    unfold lg_cmp
    simp only [gt_iff_lt, Int64.lt_iff_toInt_lt, Int64.le_iff_toInt_le, ← Int64.toInt_inj]
    by_cases q : b.toInt < v.toInt
    · rw [if_pos q]; simp; omega
    · rw [if_neg q]
      by_cases q2 : v.toInt = b.toInt
      · rw [if_pos q2]; simp; omega
      · rw [if_neg q2]
        constructor
        · intro h; exact absurd h (by decide)
        · intro h; omega
  refine ⟨fun c => h0 fun z => ?_, fun c => ⟨fun c2 => h0 fun z => (k.mp c2) z.2, fun c2 => ?_⟩⟩
  · have := g.mpr z.1
    rw [Int32.le_iff_toInt_le] at this
    rw [Int32.lt_iff_toInt_lt] at c
    omega
  · refine h1 (g.mp ?_) (Decidable.not_not.mp fun z => c2 (k.mpr z))
    rw [Int32.lt_iff_toInt_lt] at c
    rw [Int32.le_iff_toInt_le]
    omega
/-- x is one of 0 .. n - 1, or not -/
theorem in_nI {x : Int32} {n : Nat} (hn : n < 2 ^ 31) {post : Int32 → Prop} (h1 : ∀ j, j < n → x = nI j → post 1) (h0 : (∀ j, j < n → x ≠ nI j) → post 0) : wp_X6_in (x.toInt64) 0 ((nI n - 1).toInt64) post := by
  refine in_ok (fun a b => ?_) (fun z => ?_)
  · rw [show (0 : Int64) = (0 : Int32).toInt64 from rfl, wide_le] at a
    rw [wide_le] at b
    rcases pk_ix x hn with h | h | ⟨j, hj, e⟩
    · rw [Int32.lt_iff_toInt_lt] at h; rw [Int32.le_iff_toInt_le] at a; omega
    · exfalso
      rw [Int32.le_iff_toInt_le, nI_toInt hn] at h
      rw [Int32.le_iff_toInt_le] at b
      have : (nI n - 1).toInt = (n : Int) - 1 := by
        by_cases h0 : n = 0
        · subst h0; decide
        · rw [show (1 : Int32) = nI 1 from rfl, pk_sub (by omega), nI_toInt (by omega)]; omega
      omega
    · exact h1 j hj e
  · refine h0 fun j hj e => z ?_
    subst e
    rw [show (0 : Int64) = (0 : Int32).toInt64 from rfl, wide_le, wide_le]
    refine ⟨nI_pos' (by omega), ?_⟩
    rw [show (1 : Int32) = nI 1 from rfl, pk_sub (by omega)]
    exact nI_le (by omega) (by omega)
/-- the same with the last one told -/
theorem in_le {x : Int32} {n : Nat} (hn : n < 2 ^ 31) {post : Int32 → Prop} {b : Int64} (hb : b = (nI n).toInt64) (h1 : ∀ j, j ≤ n → x = nI j → post 1) (h0 : (∀ j, j ≤ n → x ≠ nI j) → post 0) : wp_X6_in (x.toInt64) 0 b post := by
  subst hb
  refine in_ok (fun a b => ?_) (fun z => ?_)
  · rw [show (0 : Int64) = (0 : Int32).toInt64 from rfl, wide_le] at a
    rw [wide_le] at b
    obtain ⟨j, hj, e⟩ := nI_of (x := x) (by rw [Int32.lt_iff_toInt_lt]; rw [Int32.le_iff_toInt_le] at a; omega)
    subst e
    exact h1 j ((nI_leI hj hn).mp b) rfl
  · refine h0 fun j hj e => z ?_
    subst e
    rw [show (0 : Int64) = (0 : Int32).toInt64 from rfl, wide_le, wide_le]
    exact ⟨nI_pos' (by omega), nI_le hj hn⟩
/-- a byte that is such a figure or letter -/
theorem in_mid {c lo hi : Nat} (hc : c < 2 ^ 31) (hlo : lo < 2 ^ 31) (hhi : hi < 2 ^ 31) {post : Int32 → Prop} {a b : Int64} (ea : a = (nI lo).toInt64) (eb : b = (nI hi).toInt64) (h1 : lo ≤ c → c ≤ hi → post 1) (h0 : ¬ (lo ≤ c ∧ c ≤ hi) → post 0) : wp_X6_in ((nI c).toInt64) a b post := by
  subst ea eb
  refine in_ok (fun a b => ?_) (fun z => ?_)
  · rw [wide_le] at a b
    exact h1 ((nI_leI hlo hc).mp a) ((nI_leI hc hhi).mp b)
  · refine h0 fun q => z ?_
    rw [wide_le, wide_le]
    exact ⟨nI_le q.1 hc, nI_le q.2 hhi⟩
theorem nar0 : narrow .boolean (.int (0 : Int32)) = .int 0 := rfl
theorem nar1 : narrow .boolean (.int (1 : Int32)) = .int 1 := rfl
