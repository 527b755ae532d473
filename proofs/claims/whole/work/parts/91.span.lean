/-! from the least to the greatest -/
def Span (P : Nat → Prop) (r : Nat) : Prop := ((∀ v, ¬ P v) ∧ r = 0) ∨ ∃ lo hi, P lo ∧ P hi ∧ (∀ v, P v → lo ≤ v ∧ v ≤ hi) ∧ r = hi + 1 - lo
theorem Span.one {P : Nat → Prop} {r r' : Nat} (h : Span P r) (h' : Span P r') : r = r' := by
  rcases h with ⟨a, b⟩ | ⟨lo, hi, a, b, d, e⟩
  · rcases h' with ⟨a', b'⟩ | ⟨lo', hi', a', b', d', e'⟩
    · rw [b, b']
    · exact absurd a' (a lo')
  · rcases h' with ⟨a', b'⟩ | ⟨lo', hi', a', b', d', e'⟩
    · exact absurd a (a' lo)
    · have h1 := d lo' a'
      have h2 := d' lo a
      have h3 := d hi' b'
      have h4 := d' hi b
      omega
theorem Span.of {P Q : Nat → Prop} {r : Nat} (h : Span P r) (e : ∀ v, P v ↔ Q v) : Span Q r := by
  have : P = Q := funext fun v => propext (e v)
  rw [← this]; exact h
theorem spA_span (b : Nat) : ∀ k, ((spA b k).2 = 0 ∧ ∀ v, v < k → b.testBit v = false) ∨ (0 < (spA b k).2 ∧ b.testBit (spA b k).1 = true ∧ b.testBit ((spA b k).2 - 1) = true ∧ ∀ v, v < k → b.testBit v = true → (spA b k).1 ≤ v ∧ v ≤ (spA b k).2 - 1)
  | 0 => Or.inl ⟨rfl, fun v hv => absurd hv (Nat.not_lt_zero v)⟩
  | k + 1 => by
    have ih := spA_span b k
    have hle := spA_le b k
    cases e : b.testBit k with
    | false =>
      have e1 : spA b (k + 1) = spA b k := by rw [spA, if_neg (by rw [e]; decide)]
      rw [e1]
      rcases ih with ⟨h1, h2⟩ | ⟨h1, h2, h3, h4⟩
      · refine Or.inl ⟨h1, fun v hv => ?_⟩
        by_cases q : v = k
        · subst q; exact e
        · exact h2 v (by omega)
      · refine Or.inr ⟨h1, h2, h3, fun v hv hb => ?_⟩
        by_cases q : v = k
        · subst q; rw [e] at hb; cases hb
        · exact h4 v (by omega) hb
    | true =>
      have e1 : spA b (k + 1) = (if (spA b k).2 = 0 then k else (spA b k).1, k + 1) := by rw [spA, if_pos e]
      rw [e1]
      dsimp only
      refine Or.inr ⟨by omega, ?_⟩
      rw [show k + 1 - 1 = k from rfl]
      rcases ih with ⟨h1, h2⟩ | ⟨h1, h2, h3, h4⟩
      · rw [if_pos h1]
        refine ⟨e, e, fun v hv hb => ?_⟩
        by_cases q : v = k
        · omega
        · rw [h2 v (by omega)] at hb; cases hb
      · rw [if_neg (by omega)]
        refine ⟨h2, e, fun v hv hb => ?_⟩
        by_cases q : v = k
        · omega
        · have := h4 v (by omega) hb
          omega
theorem spN_span {b : Nat} (hb : b < 256) : Span (fun v => b.testBit v = true) (spN b) := by
  have h8 : ∀ v, b.testBit v = true → v < 8 := by
    intro v hv
    rcases Nat.lt_or_ge v 8 with q | q
    · exact q
    · rw [tb_hi hb q] at hv; cases hv
  have hl := spA_le b 8
  unfold spN
  rcases spA_span b 8 with ⟨h1, h2⟩ | ⟨h1, h2, h3, h4⟩
  · refine Or.inl ⟨fun v hv => ?_, by omega⟩
    have hv : b.testBit v = true := hv
    rw [h2 v (h8 v hv)] at hv; cases hv
  · exact Or.inr ⟨(spA b 8).1, (spA b 8).2 - 1, h2, h3, fun v hv => h4 v (h8 v hv) hv, by omega⟩
-- the class
def flU (f : Nat → Nat) : Nat → Nat
  | 0 => 0
  | n + 1 => if f n = 0 then flU f n else flU f n ||| 2 ^ n
def orZ (f : Nat → Nat) : Nat → Nat
  | 0 => 0
  | n + 1 => orZ f n ||| f n
theorem flU_bit (f : Nat → Nat) (v : Nat) : ∀ n, (flU f n).testBit v = true ↔ v < n ∧ f v ≠ 0
  | 0 => by rw [flU, Nat.zero_testBit]; exact ⟨fun w => (by cases w), fun w => absurd w.1 (Nat.not_lt_zero v)⟩
  | n + 1 => by
    have ih := flU_bit f v n
    rw [flU]
    by_cases q : f n = 0
    · rw [if_pos q, ih]
      constructor
      · rintro ⟨a, b⟩; exact ⟨by omega, b⟩
      · rintro ⟨a, b⟩
        refine ⟨?_, b⟩
        rcases Nat.lt_or_ge v n with w | w
        · exact w
        · have : v = n := by omega
          subst this
          exact absurd q b
    · rw [if_neg q, fb_bit_set, Bool.or_eq_true, ih, decide_eq_true_eq]
      constructor
      · rintro (⟨a, b⟩ | a)
        · exact ⟨by omega, b⟩
        · subst a; exact ⟨by omega, q⟩
      · rintro ⟨a, b⟩
        by_cases e : v = n
        · exact Or.inr e
        · exact Or.inl ⟨by omega, b⟩
theorem orZ_bit (f : Nat → Nat) (z : Nat) : ∀ n, (orZ f n).testBit z = true ↔ ∃ v, v < n ∧ (f v).testBit z = true
  | 0 => by rw [orZ, Nat.zero_testBit]; exact ⟨fun w => (by cases w), fun ⟨v, w, _⟩ => absurd w (Nat.not_lt_zero v)⟩
  | n + 1 => by
    rw [orZ, Nat.testBit_or, Bool.or_eq_true, orZ_bit f z n]
    constructor
    · rintro (⟨v, a, b⟩ | a)
      · exact ⟨v, by omega, b⟩
      · exact ⟨n, by omega, a⟩
    · rintro ⟨v, a, b⟩
      by_cases e : v = n
      · subst e; exact Or.inr b
      · exact Or.inl ⟨v, by omega, b⟩
theorem flU_lt (f : Nat → Nat) : ∀ n, flU f n < 2 ^ n
  | 0 => by rw [flU]; decide
  | n + 1 => by
    have ih := flU_lt f n
    have : 2 ^ (n + 1) = 2 * 2 ^ n := by rw [Nat.pow_succ, Nat.mul_comm]
    rw [flU]
    split
    · omega
    · exact Nat.or_lt_two_pow (by omega) (by have := Nat.two_pow_pos n; omega)
theorem orZ_lt {f : Nat → Nat} (hf : ∀ v, f v < 256) : ∀ n, orZ f n < 256
  | 0 => by rw [orZ]; decide
  | n + 1 => by
    rw [orZ]
    exact Nat.or_lt_two_pow (n := 8) (orZ_lt hf n) (hf n)
theorem v_spanOfU {f : Nat → Nat} (hf : ∀ v, f v < 256) {post : Int32 → Prop} (h : post (nI (spN (flU f 8)))) : P_X2_spanOfU (lN (fgA f 8)) post := by
  show ∃ n, L_X2_spanOfU_4 post (fun (v2_7 : Int32) => P_X1_span v2_7 (fun r_8 : Int32 => post r_8)) (lN (fgA f 8)) n (0 : Int32) (0 : Int32)
  refine loop_0 (σ := Unit) (fun n v _ => L_X2_spanOfU_4 post (fun (v2_7 : Int32) => P_X1_span v2_7 (fun r_8 : Int32 => post r_8)) (lN (fgA f 8)) n (nI (flU f v)) (nI v)) (fun _ _ => True) 8 () trivial ?_ ?_
  · intro n _ _
    rw [L_X2_spanOfU_4]
    exact if_t (by decide) (v_span (flU_lt f 8) h)
  · intro n v _ hv _ ih
    have ih := ih () trivial
    rw [flU] at ih
    rw [L_X2_spanOfU_4, show nI v + (1 : Int32) = nI (v + 1) from nI_1 v]
    refine if_f (fun q => absurd ((nI_leI (a := 8) (by decide) (by omega)).mp q) (by omega)) ?_
    refine v_columnAt64 (fgA_lt hf 8) hv ?_
    rw [fg_col hf hv]
    have := hf v
    refine if_i (nI_eq (a := f v) (b := 0) (by omega) (by decide)) (fun q => ?_) (fun q => ?_)
    · intro y ey
      rw [if_pos q] at ih
      subst ey
      exact ih
    · intro y4 e4 y ey
      rw [if_neg q] at ih
      have hsh := sh_dec0 ⟨v, by omega⟩
      dsimp only at hsh
      rw [hsh, fa_or] at e4
      subst ey e4
      exact ih
theorem v_spanOfZ {f : Nat → Nat} (hf : ∀ v, f v < 256) {post : Int32 → Prop} (h : post (nI (spN (orZ f 8)))) : P_X2_spanOfZ (lN (fgA f 8)) post := by
  show ∃ n, L_X2_spanOfZ_4 post (fun (v2_6 : Int32) => P_X1_span v2_6 (fun r_7 : Int32 => post r_7)) (lN (fgA f 8)) n (0 : Int32) (0 : Int32)
  refine loop_0 (σ := Unit) (fun n v _ => L_X2_spanOfZ_4 post (fun (v2_6 : Int32) => P_X1_span v2_6 (fun r_7 : Int32 => post r_7)) (lN (fgA f 8)) n (nI (orZ f v)) (nI v)) (fun _ _ => True) 8 () trivial ?_ ?_
  · intro n _ _
    rw [L_X2_spanOfZ_4]
    exact if_t (by decide) (v_span (orZ_lt hf 8) h)
  · intro n v _ hv _ ih
    have ih := ih () trivial
    rw [orZ] at ih
    rw [L_X2_spanOfZ_4, show nI v + (1 : Int32) = nI (v + 1) from nI_1 v]
    refine if_f (fun q => absurd ((nI_leI (a := 8) (by decide) (by omega)).mp q) (by omega)) ?_
    refine v_columnAt64 (fgA_lt hf 8) hv ?_
    rw [fg_col hf hv]
    intro y4 e4 y ey
    rw [fa_or] at e4
    subst ey e4
    exact ih
-- the reference
def SpI (P : Nat → Prop) (l m : Int32) : Prop := (l = nI 8 ∧ m = -1 ∧ ∀ v, ¬ P v) ∨ ∃ lo hi, lo < 8 ∧ hi < 8 ∧ l = nI lo ∧ m = nI hi ∧ P lo ∧ P hi ∧ ∀ v, P v → lo ≤ v ∧ v ≤ hi
theorem SpI.of {P Q : Nat → Prop} {l m : Int32} (h : SpI P l m) (e : ∀ v, P v ↔ Q v) : SpI Q l m := by
  have : P = Q := funext fun v => propext (e v)
  rw [← this]; exact h
theorem SpI.step {P : Nat → Prop} {l m : Int32} (h : SpI P l m) {w : Nat} (hw : w < 8) {J : Int32 → Int32 → Prop} (hJ : ∀ l' m', SpI (fun v => P v ∨ v = w) l' m' → J l' m') : jn1 (fun (w_10 : Int32) => jn1 (fun (w_11 : Int32) => J w_10 w_11) (fun J_90 => if nI w ≤ m then (J_90 m) else (J_90 (nI w)))) (fun J_74 => if l ≤ nI w then (J_74 l) else (J_74 (nI w))) := by
  rcases h with ⟨h1, h2, h3⟩ | ⟨lo, hi, b1, b2, h1, h2, h3, h4, h5⟩
  · subst h1 h2
    refine if_i (nI_leI (a := 8) (by decide) (by omega)) (fun q => absurd q (by omega)) (fun _ => ?_)
    refine if_f (fun q => ?_) ?_
    · rw [fa_le, nI_toInt (by omega), show (-1 : Int32).toInt = -1 from by decide] at q
      omega
    · exact hJ _ _ (Or.inr ⟨w, w, hw, hw, rfl, rfl, Or.inr rfl, Or.inr rfl, fun v hv => by
        rcases hv with q | q
        · exact absurd q (h3 v)
        · omega⟩)
  · subst h1 h2
    refine if_i (nI_leI (by omega) (by omega)) (fun q => ?_) (fun q => ?_)
    · refine if_i (nI_leI (by omega) (by omega)) (fun q2 => ?_) (fun q2 => ?_)
      · exact hJ _ _ (Or.inr ⟨lo, hi, b1, b2, rfl, rfl, Or.inl h3, Or.inl h4, fun v hv => by
          rcases hv with z | z
          · exact h5 v z
          · omega⟩)
      · exact hJ _ _ (Or.inr ⟨lo, w, b1, hw, rfl, rfl, Or.inl h3, Or.inr rfl, fun v hv => by
          rcases hv with z | z
          · have := h5 v z; omega
          · omega⟩)
    · refine if_i (nI_leI (by omega) (by omega)) (fun q2 => ?_) (fun q2 => ?_)
      · exact hJ _ _ (Or.inr ⟨w, hi, hw, b2, rfl, rfl, Or.inr rfl, Or.inl h4, fun v hv => by
          rcases hv with z | z
          · have := h5 v z; omega
          · omega⟩)
      · exact hJ _ _ (Or.inr ⟨w, w, hw, hw, rfl, rfl, Or.inr rfl, Or.inr rfl, fun v hv => by
          rcases hv with z | z
          · have := h5 v z; omega
          · omega⟩)
section SPN
variable {W D Z cx cy : Nat} {c : Nat → Nat → Nat} {u : St}
def wyN (way : Bool) (v z : Nat) : Nat := if way then z else v
def seen (c : Nat → Nat → Nat) (way : Bool) (ax pl i j : Nat) (w : Nat) : Prop := ∃ v z, (v < i ∨ (v = i ∧ z < j)) ∧ (rcl c ax pl v).testBit z = true ∧ w = wyN way v z
def seenA (c : Nat → Nat → Nat) (way : Bool) (ax pl : Nat) (w : Nat) : Prop := ∃ v z, (rcl c ax pl v).testBit z = true ∧ w = wyN way v z
theorem v_spanOf (hO : OKs W D Z cx cy c) (hM : MIs W D Z cx cy c u) {ax pl : Nat} (ha : ax < 2) (hp : pl < 8) (way : Bool) {post : Int32 → Prop} (h : ∀ r, r ≤ 8 → Span (seenA c way ax pl) r → post (nI r)) : P_X5_spanOf u (nI ax) (nI pl) (bI way) post := by
  have hb := rb_bd hO (1 - ax)
  have hZ := hO.2.2.1
  have zb : ∀ v z, (rcl c ax pl v).testBit z = true → z < Z ∧ v < rbN W D (1 - ax) := by
    intro v z hz
    constructor
    · unfold rcl at hz
      split at hz
      · exact (hO.bit hz).2.2
      · exact (hO.bit hz).2.2
    · rcases Nat.lt_or_ge v (rbN W D (1 - ax)) with q | q
      · exact q
      · rw [rcl_0 hO q ha, Nat.zero_testBit] at hz; cases hz
  show ∃ n, L_X5_spanOf_10 post (fun (v4_18 : Int32) (v5_19 : Int32) => if 0 ≤ v5_19 then (post ((v5_19 - v4_18) + (1 : Int32))) else (post (0 : Int32))) u (nI ax) (nI pl) (bI way) n (8 : Int32) (-1 : Int32) (0 : Int32)
  refine loop_0 (σ := Int32 × Int32) (fun n v x => L_X5_spanOf_10 post (fun (v4_18 : Int32) (v5_19 : Int32) => if 0 ≤ v5_19 then (post ((v5_19 - v4_18) + (1 : Int32))) else (post (0 : Int32))) u (nI ax) (nI pl) (bI way) n x.1 x.2 (nI v)) (fun v x => SpI (seen c way ax pl v 0) x.1 x.2) (rbN W D (1 - ax)) (8, -1) (Or.inl ⟨rfl, rfl, fun w ⟨v, z, hv, _⟩ => by omega⟩) ?_ ?_
  · intro n x hx
    rw [L_X5_spanOf_10, one_sub ha]
    refine v_places hM (by omega) ?_
    refine if_t (nI_le (Nat.le_refl _) (by omega)) ?_
    have hall : ∀ w, seen c way ax pl (rbN W D (1 - ax)) 0 w ↔ seenA c way ax pl w := by
      intro w
      constructor
      · rintro ⟨v, z, _, a, b⟩; exact ⟨v, z, a, b⟩
      · rintro ⟨v, z, a, b⟩; exact ⟨v, z, Or.inl (zb v z a).2, a, b⟩
    rcases hx.of hall with ⟨h1, h2, h3⟩ | ⟨lo, hi, b1, b2, h1, h2, h3, h4, h5⟩
    · rw [h1, h2]
      exact if_f (by decide) (h 0 (by omega) (Or.inl ⟨h3, rfl⟩))
    · have hlh := h5 lo h3
      rw [h1, h2]
      refine if_t (nI_le (a := 0) (by omega) (by omega)) ?_
      rw [pk_sub hlh.2, show nI (hi - lo) + (1 : Int32) = nI (hi - lo + 1) from nI_1 _]
      exact h _ (by omega) (Or.inr ⟨lo, hi, h3, h4, h5, by omega⟩)
  · intro n v x hv hx ih
    rw [L_X5_spanOf_10, one_sub ha]
    refine v_places hM (by omega) ?_
    refine if_f (fun q => absurd ((nI_leI (by omega) (by omega)).mp q) (by omega)) ?_
    refine loop_0 (σ := Int32 × Int32) (fun n' z x' => L_X5_spanOf_25 post (fun (v4_15 : Int32) (v5_16 : Int32) => ∀ y_17 : Int32, y_17 = nI v + (1 : Int32) → L_X5_spanOf_10 post (fun (v4_18 : Int32) (v5_19 : Int32) => if 0 ≤ v5_19 then (post ((v5_19 - v4_18) + (1 : Int32))) else (post (0 : Int32))) u (nI ax) (nI pl) (bI way) n v4_15 v5_16 y_17) u (nI ax) (nI pl) (bI way) (nI v) n' x'.1 x'.2 (nI z)) (fun z x' => SpI (seen c way ax pl v z) x'.1 x'.2) Z x hx ?_ ?_
    · intro n' x' hx'
      rw [L_X5_spanOf_25, hM.2.2.1]
      refine if_t (nI_le (Nat.le_refl _) (by omega)) ?_
      intro y ey
      rw [show nI v + (1 : Int32) = nI (v + 1) from nI_1 v] at ey
      subst ey
      refine ih x' (hx'.of (fun w => ?_))
      constructor
      · rintro ⟨v', z', a, b, d⟩; exact ⟨v', z', by omega, b, d⟩
      · rintro ⟨v', z', a, b, d⟩
        have := (zb v' z' b).1
        exact ⟨v', z', by omega, b, d⟩
    · intro n' z x' hz hx' ih'
      rw [L_X5_spanOf_25, hM.2.2.1]
      refine if_f (fun q => absurd ((nI_leI (by omega) (by omega)).mp q) (by omega)) ?_
      refine v_hasIn hM ha hp (by omega) (by omega) ?_
      refine if_bI (fun t => ?_) (fun t => ?_)
      · refine ifJ ?_
        rw [show (if way = true then nI z else nI v) = nI (wyN way v z) from by unfold wyN; cases way <;> rfl]
        refine SpI.step hx' (w := wyN way v z) (by unfold wyN; split <;> omega) (fun l' m' hs => ?_)
        intro y ey
        rw [show nI z + (1 : Int32) = nI (z + 1) from nI_1 z] at ey
        subst ey
        refine ih' (l', m') (hs.of (fun w => ?_))
        constructor
        · rintro (⟨v', z', a, b, d⟩ | a)
          · exact ⟨v', z', by omega, b, d⟩
          · exact ⟨v, z, by omega, t, a⟩
        · rintro ⟨v', z', a, b, d⟩
          by_cases q : v' = v ∧ z' = z
          · rw [q.1, q.2] at d; exact Or.inr d
          · exact Or.inl ⟨v', z', by omega, b, d⟩
      · intro y ey
        rw [show nI z + (1 : Int32) = nI (z + 1) from nI_1 z] at ey
        subst ey
        refine ih' x' (hx'.of (fun w => ?_))
        constructor
        · rintro ⟨v', z', a, b, d⟩; exact ⟨v', z', by omega, b, d⟩
        · rintro ⟨v', z', a, b, d⟩
          by_cases q : v' = v ∧ z' = z
          · rw [q.1, q.2, t] at b; cases b
          · exact ⟨v', z', by omega, b, d⟩
theorem spU_seen (hO : OKs W D Z cx cy c) {ax pl : Nat} (ha : ax < 2) : Span (seenA c false ax pl) (spN (flU (rcl c ax pl) 8)) := by
  refine (spN_span (flU_lt (rcl c ax pl) 8)).of (fun v => ?_)
  rw [flU_bit]
  constructor
  · rintro ⟨_, h0⟩
    obtain ⟨z, hz⟩ : ∃ z, (rcl c ax pl v).testBit z = true := by
      apply Classical.byContradiction
      intro hn
      apply h0
      apply Nat.eq_of_testBit_eq
      intro z
      rw [Nat.zero_testBit]
      cases e : (rcl c ax pl v).testBit z with
      | false => rfl
      | true => exact absurd ⟨z, e⟩ hn
    exact ⟨v, z, hz, rfl⟩
  · rintro ⟨v', z, hz, e⟩
    have e : v = v' := e
    subst e
    refine ⟨?_, fun w => ?_⟩
    · rcases Nat.lt_or_ge v 8 with q | q
      · exact q
      · have hb := rb_bd hO (1 - ax)
        rw [rcl_0 hO (by omega) ha, Nat.zero_testBit] at hz; cases hz
    · rw [w, Nat.zero_testBit] at hz; cases hz
theorem spZ_seen (hO : OKs W D Z cx cy c) {ax pl : Nat} (ha : ax < 2) : Span (seenA c true ax pl) (spN (orZ (rcl c ax pl) 8)) := by
  refine (spN_span (orZ_lt (rcl_8 hO ax pl) 8)).of (fun z => ?_)
  rw [orZ_bit]
  constructor
  · rintro ⟨v, _, hz⟩; exact ⟨v, z, hz, rfl⟩
  · rintro ⟨v, z', hz, e⟩
    have e : z = z' := e
    subst e
    refine ⟨v, ?_, hz⟩
    rcases Nat.lt_or_ge v 8 with q | q
    · exact q
    · have hb := rb_bd hO (1 - ax)
      rw [rcl_0 hO (by omega) ha, Nat.zero_testBit] at hz; cases hz
end SPN
