theorem law_pure : ∃ postR : Ob → Prop, wp_X2_forgetAll obZero postR ∧ ∀ L : Nat, L ≤ 2048 → ∀ (xs : Nat → Int32) (S : Ob), postR S → ∃ n, wp_law L xs n 0 (gcInit S) moInit := sorry
