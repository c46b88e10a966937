def figs (j : Nat) : Int32 := [1, 2, 2, 2, 2, 1].getD j 0
def wp_X5_numbersWithin_L25 (post : Int32 → Prop) (K4 : Int32 → Int32 → Prop) (K14 : Int32 → Int32 → Prop) (x0_25 : Int32) (x2_25 : Int32) (x3_25 : Int32) : Nat → Int32 → Int32 → Prop
  | 0, _, _ => False
  | n25 + 1, x1_25, x4_25 => ((6 ≤ x4_25 → (K14 x1_25 (x3_25 + 1))) ∧ (¬ 6 ≤ x4_25 → ((x0_25 < ((x2_25 + x3_25) + x4_25) → (wp_X5_numbersWithin_L25 post K4 K14 x0_25 x2_25 x3_25 n25 x1_25 (x4_25 + 1))) ∧ (¬ x0_25 < ((x2_25 + x3_25) + x4_25) → (vp_in x2_25 6 ∧ (vp_in x3_25 6 ∧ (vp_in x4_25 6 ∧ ∀ y_5 : Int32, y_5 = (x1_25 + (((figs x2_25.toNatClampNeg) * (figs x3_25.toNatClampNeg)) * (figs x4_25.toNatClampNeg))) → (wp_X5_numbersWithin_L25 post K4 K14 x0_25 x2_25 x3_25 n25 y_5 (x4_25 + 1)))))))))
def wp_X5_numbersWithin_L14 (post : Int32 → Prop) (K4 : Int32 → Int32 → Prop) (x0_14 : Int32) (x2_14 : Int32) : Nat → Int32 → Int32 → Prop
  | 0, _, _ => False
  | n14 + 1, x1_14, x3_14 => ((6 ≤ x3_14 → (K4 x1_14 (x2_14 + 1))) ∧ (¬ 6 ≤ x3_14 → (∃ n25, wp_X5_numbersWithin_L25 post K4 (fun x1_14 x3_14 => (wp_X5_numbersWithin_L14 post K4 x0_14 x2_14 n14 x1_14 x3_14)) x0_14 x2_14 x3_14 n25 x1_14 0)))
def wp_X5_numbersWithin_L4 (post : Int32 → Prop) (x0_4 : Int32) : Nat → Int32 → Int32 → Prop
  | 0, _, _ => False
  | n4 + 1, x1_4, x2_4 => ((6 ≤ x2_4 → (post x1_4)) ∧ (¬ 6 ≤ x2_4 → (∃ n14, wp_X5_numbersWithin_L14 post (fun x1_4 x2_4 => (wp_X5_numbersWithin_L4 post x0_4 n4 x1_4 x2_4)) x0_4 x2_4 n14 x1_4 0)))
def wp_X5_numbersWithin (x0 : Int32) (post : Int32 → Prop) : Prop := (∃ n4, wp_X5_numbersWithin_L4 post x0 n4 0 0)
def wp_X5_near (Z0 : GC) (x1 : Int32) (x2 : Int32) (post : Int32 → Prop) : Prop := (wp_X5_isLock Z0 x1 (fun r_1 => ((r_1 = 0 → (post (-1))) ∧ (¬ r_1 = 0 → ((x2 < 0 → (post (-1))) ∧ (¬ x2 < 0 → ((x2 ≤ 15 → (wp_X5_numbersWithin x2 (fun r_5 => (post r_5)))) ∧ (¬ x2 ≤ 15 → (post (-1))))))))))
