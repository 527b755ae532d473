/-! figures as bits -/
def fgA (f : Nat → Nat) : Nat → Nat
  | 0 => 0
  | n + 1 => fgA f n ||| (f n * 2 ^ (8 * n))
theorem fgA_bit {f : Nat → Nat} (hf : ∀ v, f v < 256) (k : Nat) : ∀ n, (fgA f n).testBit k = (decide (k / 8 < n) && (f (k / 8)).testBit (k % 8))
  | 0 => by rw [decide_eq_false (Nat.not_lt_zero _)]; exact Nat.zero_testBit k
  | n + 1 => by
    rw [fgA, Nat.testBit_or, fgA_bit hf k n, ← Nat.shiftLeft_eq, Nat.testBit_shiftLeft]
    rcases Nat.lt_trichotomy (k / 8) n with q | q | q
    · rw [decide_eq_true q, decide_eq_true (show k / 8 < n + 1 from by omega), decide_eq_false (show ¬ k ≥ 8 * n from by omega)]; simp
    · subst q
      rw [decide_eq_false (Nat.lt_irrefl _), decide_eq_true (show k / 8 < k / 8 + 1 from by omega), decide_eq_true (show k ≥ 8 * (k / 8) from by omega), show k - 8 * (k / 8) = k % 8 from by omega]; simp
    · rw [decide_eq_false (show ¬ k / 8 < n from by omega), decide_eq_false (show ¬ k / 8 < n + 1 from by omega), tb_hi (hf n) (show 8 ≤ k - 8 * n from by omega)]; simp
theorem fgA_lt {f : Nat → Nat} (hf : ∀ v, f v < 256) : ∀ n, fgA f n < 2 ^ (8 * n)
  | 0 => Nat.two_pow_pos _
  | n + 1 => by
    rw [fgA]
    refine Nat.or_lt_two_pow (Nat.lt_of_lt_of_le (fgA_lt hf n) (Nat.pow_le_pow_right (by decide) (by omega))) ?_
    rw [show 8 * (n + 1) = 8 + 8 * n from by omega, Nat.pow_add]
    exact Nat.mul_lt_mul_of_pos_right (hf n) (Nat.two_pow_pos _)
theorem fgA_hi {f : Nat → Nat} {a : Nat} : ∀ d, (∀ v, a ≤ v → v < a + d → f v = 0) → fgA f (a + d) = fgA f a
  | 0, _ => rfl
  | d + 1, h => by
    show fgA f (a + d) ||| (f (a + d) * 2 ^ (8 * (a + d))) = _
    rw [h (a + d) (by omega) (by omega), Nat.zero_mul, Nat.or_zero]
    exact fgA_hi d (fun v h1 h2 => h v h1 (by omega))
theorem v_shifted {b v : Nat} (hb : b < 4096) (hv : v < 8) {post : Int64 → Prop} (h : post (lN (b * 2 ^ (8 * v)))) : P_X2_shifted (nI b) (nI v) post := by
  unfold P_X2_shifted
  rw [nI_l (by omega), show (8 : Int32) * nI v = nI (8 * v) from pk_mul 8 v, wb_shl b (by omega)]
  exact h
theorem v_columnAt64 {n v : Nat} (hn : n < 2 ^ 64) (hv : v < 8) {post : Int32 → Prop} (h : post (nI (n / 2 ^ (8 * v) % 256))) : P_X2_columnAt (lN n) (nI v) post := by
  unfold P_X2_columnAt
  rw [show (8 : Int32) * nI v = nI (8 * v) from pk_mul 8 v, wb_shr hn (by omega), lN_i, show (255 : Int32) = nI (2 ^ 8 - 1) from rfl, fa_mask]
  exact h
theorem fg_col {f : Nat → Nat} (hf : ∀ v, f v < 256) {v : Nat} (hv : v < 8) : fgA f 8 / 2 ^ (8 * v) % 256 = f v := by
  refine byte_ext (Nat.mod_lt _ (by decide)) (hf v) (fun z hz => ?_)
  rw [show (256 : Nat) = 2 ^ 8 from rfl, Nat.testBit_mod_two_pow, decide_eq_true hz, Bool.true_and, Nat.testBit_div_two_pow, fgA_bit hf]
  rw [show (z + 8 * v) / 8 = v from by omega, show (z + 8 * v) % 8 = z from by omega, decide_eq_true hv, Bool.true_and]
section FIG
variable {W D Z cx cy : Nat} {c : Nat → Nat → Nat} {u : St}
theorem rcl_8 (hO : OKs W D Z cx cy c) (ax pl v : Nat) : rcl c ax pl v < 256 := by
  unfold rcl
  split
  · exact hO.c8 _ _
  · exact hO.c8 _ _
theorem rcl_0 (hO : OKs W D Z cx cy c) {ax pl v : Nat} (h : rbN W D (1 - ax) ≤ v) (ha : ax < 2) : rcl c ax pl v = 0 := by
  rcases (show ax = 0 ∨ ax = 1 by omega) with q | q
  · subst q
    exact hO.2.2.2.2.2.2 _ _ (fun w => by have : rbN W D (1 - 0) = D := rfl
                                          omega)
  · subst q
    exact hO.2.2.2.2.2.2 _ _ (fun w => by have : rbN W D (1 - 1) = W := rfl
                                          omega)
theorem v_figureOf (hO : OKs W D Z cx cy c) (hS : SIs W D Z cx cy c u) {ax pl : Nat} (ha : ax < 2) (hp : pl < 8) {post : Int64 → Prop} (h : post (lN (fgA (rcl c ax pl) 8))) : P_X3_figureOf u (nI ax) (nI pl) post := by
  have hb := rb_bd hO (1 - ax)
  show ∃ n, L_X3_figureOf_5 post _ u (nI ax) (nI pl) n (0 : Int64) (0 : Int32)
  refine loop_0 (σ := Unit) (fun n v _ => L_X3_figureOf_5 post _ u (nI ax) (nI pl) n (lN (fgA (rcl c ax pl) v)) (nI v)) (fun _ _ => True) (rbN W D (1 - ax)) () trivial ?_ ?_
  · intro n _ _
    rw [L_X3_figureOf_5, one_sub ha]
    refine v_ribCount hS (by omega) ?_
    refine if_t (nI_le (Nat.le_refl _) (by omega)) ?_
    have := fgA_hi (f := rcl c ax pl) (a := rbN W D (1 - ax)) (8 - rbN W D (1 - ax)) (fun v h1 _ => rcl_0 hO h1 ha)
    rw [show rbN W D (1 - ax) + (8 - rbN W D (1 - ax)) = 8 from by omega] at this
    show post (lN (fgA (rcl c ax pl) (rbN W D (1 - ax))))
    rw [← this]
    exact h
  · intro n v _ hv _ ih
    rw [L_X3_figureOf_5, one_sub ha]
    refine v_ribCount hS (by omega) ?_
    refine if_f (fun q => absurd ((nI_leI (by omega) (by omega)).mp q) (by omega)) ?_
    refine v_ribColumn hO hS ha hp (by omega) ?_
    have h8 := rcl_8 hO ax pl v
    refine v_shifted (by omega) (by omega) ?_
    intro y6 e6 y7 e7
    rw [show nI v + (1 : Int32) = nI (v + 1) from nI_1 v] at e7
    rw [fb_orL] at e6
    subst e6 e7
    exact ih () trivial
/-- a column of the cut of a rib -/
def ctl (cx cy : Nat) (c : Nat → Nat → Nat) (ax pl v : Nat) : Nat := if (crN cx cy ax pl).testBit v then (if ax = 0 then rcl c ax pl v &&& (255 ^^^ upN (rcl c ax pl v)) else upN (rcl c ax pl v)) else rcl c ax pl v
set_option maxRecDepth 100000 in
theorem up_dec0 : ∀ b : Fin 256, upN b.val < 256 ∧ upN b.val &&& b.val = upN b.val := by decide +kernel
theorem ctl_8 (hO : OKs W D Z cx cy c) (ax pl v : Nat) : ctl cx cy c ax pl v < 256 := by
  have h8 := rcl_8 hO ax pl v
  unfold ctl
  split
  · split
    · exact Nat.lt_of_le_of_lt Nat.and_le_left h8
    · exact (up_dec0 ⟨_, h8⟩).1
  · exact h8
theorem ctl_0 (hO : OKs W D Z cx cy c) {ax pl v : Nat} (h : rbN W D (1 - ax) ≤ v) (ha : ax < 2) : ctl cx cy c ax pl v = 0 := by
  unfold ctl
  rw [rcl_0 hO h ha]
  split
  · split <;> decide
  · rfl
theorem v_cutOf (hO : OKs W D Z cx cy c) (hS : SIs W D Z cx cy c u) {ax pl : Nat} (ha : ax < 2) (hp : pl < 8) {post : Int64 → Prop} (h : post (lN (fgA (ctl cx cy c ax pl) 8))) : P_X3_cutOf u (nI ax) (nI pl) post := by
  have hb := rb_bd hO (1 - ax)
  unfold P_X3_cutOf
  refine v_crossingsOf hO hS ha (by omega) ?_
  show ∃ n, L_X3_cutOf_13 post _ u (nI ax) (nI pl) (nI (crN cx cy ax pl)) n (0 : Int64) (0 : Int32)
  refine loop_0 (σ := Unit) (fun n v _ => L_X3_cutOf_13 post _ u (nI ax) (nI pl) (nI (crN cx cy ax pl)) n (lN (fgA (ctl cx cy c ax pl) v)) (nI v)) (fun _ _ => True) (rbN W D (1 - ax)) () trivial ?_ ?_
  · intro n _ _
    rw [L_X3_cutOf_13, one_sub ha]
    refine v_ribCount hS (by omega) ?_
    refine if_t (nI_le (Nat.le_refl _) (by omega)) ?_
    have := fgA_hi (f := ctl cx cy c ax pl) (a := rbN W D (1 - ax)) (8 - rbN W D (1 - ax)) (fun v h1 _ => ctl_0 hO h1 ha)
    rw [show rbN W D (1 - ax) + (8 - rbN W D (1 - ax)) = 8 from by omega] at this
    show post (lN (fgA (ctl cx cy c ax pl) (rbN W D (1 - ax))))
    rw [← this]
    exact h
  · intro n v _ hv _ ih
    rw [L_X3_cutOf_13, one_sub ha]
    refine v_ribCount hS (by omega) ?_
    refine if_f (fun q => absurd ((nI_leI (by omega) (by omega)).mp q) (by omega)) ?_
    refine v_ribColumn hO hS ha hp (by omega) ?_
    have h8 := rcl_8 hO ax pl v
    have hc8 := ctl_8 hO ax pl v
    have fin : ∀ w : Int32, w = nI (ctl cx cy c ax pl v) → P_X2_shifted w (nI v) (fun r_10 : Int64 => ∀ y_11 : Int64, y_11 = (lN (fgA (ctl cx cy c ax pl) v) ||| r_10) → ∀ y_12 : Int32, y_12 = nI v + (1 : Int32) → L_X3_cutOf_13 post (fun (v4_13 : Int64) => post v4_13) u (nI ax) (nI pl) (nI (crN cx cy ax pl)) n y_11 y_12) := by
      intro w ew
      subst ew
      refine v_shifted (by omega) (by omega) ?_
      intro y6 e6 y7 e7
      rw [show nI v + (1 : Int32) = nI (v + 1) from nI_1 v] at e7
      rw [fb_orL] at e6
      subst e6 e7
      exact ih () trivial
    refine v_hasBit (cr_8 hO ax pl) (by omega) ?_
    refine if_bI (fun t => ?_) (fun t => ?_)
    · refine v_upperHalves h8 ?_
      refine if_i (nI_eq (a := ax) (b := 0) (by omega) (by decide)) (fun q => ?_) (fun q => ?_)
      · refine fin _ ?_
        rw [m1, fb_xorI, fa_and, not8 h8]
        unfold ctl
        rw [if_pos t, if_pos q]
      · refine fin _ ?_
        unfold ctl
        rw [if_pos t, if_neg q]
    · refine fin _ ?_
      unfold ctl
      rw [if_neg (by rw [t]; decide)]
end FIG
