/-! small tools, and the functions of one column -/
theorem if_t {c A B : Prop} [Decidable c] (h : c) (a : A) : if c then A else B := by rw [if_pos h]; exact a
theorem if_f {c A B : Prop} [Decidable c] (h : ¬ c) (b : B) : if c then A else B := by rw [if_neg h]; exact b
theorem if_i {c d A B : Prop} [Decidable c] (e : c ↔ d) (a : d → A) (b : ¬ d → B) : if c then A else B := by
  by_cases h : c
  · rw [if_pos h]; exact a (e.mp h)
  · rw [if_neg h]; exact b (fun q => h (e.mpr q))
theorem if_b {x : Int32} {A B : Prop} (b : Bool) (e : x = if b then 1 else 0) (h1 : b = true → B) (h0 : b = false → A) : if x = 0 then A else B := by
  subst e
  cases b
  · exact if_t rfl (h0 rfl)
  · exact if_f (by decide) (h1 rfl)
theorem up_loop {σ : Type} (L : Nat → σ → Prop) (s : Nat → σ) (N : Nat) (hs : ∀ n k, k < N → L n (s (k + 1)) → L (n + 1) (s k)) (he : ∀ n, L (n + 1) (s N)) : ∃ n, L n (s 0) := by
  have key : ∀ j, j ≤ N → L (j + 1) (s (N - j)) := by
    intro j
    induction j with
    | zero => intro _; exact he 0
    | succ j ih =>
      intro hj
      refine hs (j + 1) (N - (j + 1)) (by omega) ?_
      have e : N - (j + 1) + 1 = N - j := by omega
      rw [e]
      exact ih (by omega)
  have h := key N (Nat.le_refl N)
  rw [Nat.sub_self] at h
  exact ⟨_, h⟩
def bI (b : Bool) : Int32 := if b then 1 else 0
theorem bI_nar (b : Bool) : narrow .boolean (.int (bI b)) = .int (bI b) := by cases b <;> rfl
theorem if_bI {b : Bool} {A B : Prop} (h1 : b = true → B) (h0 : b = false → A) : if bI b = 0 then A else B := if_b b rfl h1 h0
theorem bI_nI (b : Bool) : bI b = nI (if b then 1 else 0) := by cases b <;> rfl
theorem p31 {n : Nat} (h : n < 4096) : n < 2 ^ 31 := by omega
-- bits of a byte
set_option maxRecDepth 100000 in
theorem bit_dec0 : ∀ b : Fin 256, ∀ p : Fin 8, ((nI b.val >>> (nI p.val &&& 31)) &&& 1 = 1) ↔ b.val.testBit p.val = true := by decide +kernel
theorem bit_dec {b p : Nat} (hb : b < 256) (hp : p < 8) : ((nI b >>> (nI p &&& 31)) &&& 1 = 1) ↔ b.testBit p = true := bit_dec0 ⟨b, hb⟩ ⟨p, hp⟩
theorem tb_hi {b p : Nat} (hb : b < 256) (hp : 8 ≤ p) : b.testBit p = false := Nat.testBit_lt_two_pow (Nat.lt_of_lt_of_le hb (show 2 ^ 8 ≤ 2 ^ p from Nat.pow_le_pow_right (by decide) hp))
theorem v_hasBit {b p : Nat} (hb : b < 256) (hp : p < 4096) {post : Int32 → Prop} (h : post (bI (b.testBit p))) : P_X1_hasBit (nI b) (nI p) post := by
  unfold P_X1_hasBit
  refine if_f (nI_pos (p31 hp)) ?_
  refine if_i (nI_leI (a := 8) (b := p) (by decide) (p31 hp)) (fun h8 => ?_) (fun h8 => ?_)
  · rw [tb_hi hb h8] at h; exact h
  · refine if_i (bit_dec hb (by omega)) (fun hc => ?_) (fun hc => ?_)
    · rw [hc] at h; exact h
    · rw [Bool.eq_false_iff.mpr hc] at h; exact h
def bgN (b z : Nat) : Bool := b.testBit z && (z == 0 || !b.testBit (z - 1))
theorem v_beginsRun {b z : Nat} (hb : b < 256) (hz : z < 4096) {post : Int32 → Prop} (h : post (bI (bgN b z))) : P_X1_beginsRun (nI b) (nI z) post := by
  unfold P_X1_beginsRun
  refine v_hasBit hb hz ?_
  refine if_bI (fun h1 => ?_) (fun h0 => ?_)
  · rcases Nat.eq_zero_or_pos z with e | e
    · subst e
      have e0 : bgN b 0 = true := by simp [bgN, h1]
      rw [e0] at h
      unfold P_X1_hasBit
      refine if_t (by decide) ?_
      exact if_t rfl h
    · rw [show nI z - 1 = nI (z - 1) from pk_sub e]
      refine v_hasBit hb (by omega) ?_
      refine if_bI (fun h2 => ?_) (fun h2 => ?_)
      · have e0 : bgN b z = false := by simp [bgN, h1, h2]; omega
        rw [e0] at h; exact h
      · have e0 : bgN b z = true := by simp [bgN, h1, h2]
        rw [e0] at h; exact h
  · have e0 : bgN b z = false := by simp [bgN, h0]
    rw [e0] at h; exact h
/-- how long the row of bits from z on is -/
def rlN (b z : Nat) : Nat := fa_first (fun j => !b.testBit (z + j)) 8
theorem rlN_le (b z : Nat) : rlN b z ≤ 8 := fa_first_le _ 8
theorem rlN_in {b z j : Nat} (h : j < rlN b z) : b.testBit (z + j) = true := by
  have := fa_first_no _ 8 j h
  simpa using this
theorem rlN_out {b z : Nat} (h : rlN b z < 8) : b.testBit (z + rlN b z) = false := by
  have := fa_first_yes _ 8 h
  unfold rlN
  simpa using this
theorem v_runLength {b z : Nat} (hb : b < 256) (hz : z < 8) {post : Int32 → Prop} (h : post (nI (rlN b z))) : P_X1_runLength (nI b) (nI z) post := by
  have hl := rlN_le b z
  refine up_loop (fun n (x : Int32) => L_X1_runLength_2 post (fun v => post v) (nI b) (nI z) n x) (fun k => nI k) (rlN b z) ?_ ?_
  · intro n k hk ih
    show L_X1_runLength_2 post (fun v => post v) (nI b) (nI z) (n + 1) (nI k)
    rw [L_X1_runLength_2]
    refine if_f (fun q => ?_) ?_
    · exact absurd ((nI_leI (a := 8) (b := k) (by decide) (by omega)).mp q) (by omega)
    · rw [nI_add]
      refine v_hasBit hb (by omega) ?_
      rw [rlN_in hk]
      refine if_f (by decide) ?_
      intro y hy
      rw [hy, show nI k + 1 = nI (k + 1) from nI_1 k]
      exact ih
  · intro n
    show L_X1_runLength_2 post (fun v => post v) (nI b) (nI z) (n + 1) (nI (rlN b z))
    rw [L_X1_runLength_2]
    refine if_i (nI_leI (a := 8) (b := rlN b z) (by decide) (by omega)) (fun _ => h) (fun q => ?_)
    rw [nI_add]
    refine v_hasBit hb (by omega) ?_
    rw [rlN_out (by omega)]
    exact if_t rfl h
-- bits from f to e
def bbN (f e : Nat) : Nat := 2 ^ e - 2 ^ f
set_option maxRecDepth 100000 in
theorem bb_step0 : ∀ f : Fin 8, ∀ g : Fin 8, f.val ≤ g.val → nI (bbN f.val g.val) ||| ((1 : Int32) <<< (nI g.val &&& 31)) = nI (bbN f.val (g.val + 1)) := by decide +kernel
theorem v_bitsBetween {f e : Nat} (x0 x1 : Int32) (hf : (if x0 < (0 : Int32) then (0 : Int32) else x0) = nI f) (he : (if (8 : Int32) < x1 then (8 : Int32) else x1) = nI e) (he8 : e ≤ 8) (hf8 : f < 4096) {post : Int32 → Prop} (h : post (nI (bbN f e))) : P_X1_bitsBetween x0 x1 post := by
  unfold P_X1_bitsBetween
  intro y hy
  rw [hf] at hy
  subst hy
  rcases Nat.lt_or_ge f e with q | q
  · obtain ⟨d, rfl⟩ : ∃ d, e = f + d := ⟨e - f, by omega⟩
    have key := up_loop (fun n (x : Int32 × Int32) => L_X1_bitsBetween_8 post (fun v => post v) x1 n x.1 x.2) (fun k => (nI (bbN f (f + k)), nI (f + k))) d ?_ ?_
    · obtain ⟨n, hn⟩ := key
      refine ⟨n, ?_⟩
      simp only [Nat.add_zero] at hn
      rw [show bbN f f = 0 from Nat.sub_self _] at hn
      exact hn
    · intro n k hk ih
      show L_X1_bitsBetween_8 post (fun v => post v) x1 (n + 1) (nI (bbN f (f + k))) (nI (f + k))
      rw [L_X1_bitsBetween_8, he]
      refine if_f (fun q => ?_) ?_
      · exact absurd ((nI_leI (by omega) (by omega)).mp q) (by omega)
      · intro y hy y2 hy2
        rw [bb_step0 ⟨f, by omega⟩ ⟨f + k, by omega⟩ (Nat.le_add_right f k)] at hy
        rw [hy, hy2, show nI (f + k) + 1 = nI (f + k + 1) from nI_1 _]
        exact ih
    · intro n
      show L_X1_bitsBetween_8 post (fun v => post v) x1 (n + 1) (nI (bbN f (f + d))) (nI (f + d))
      rw [L_X1_bitsBetween_8, he]
      exact if_t (nI_le (Nat.le_refl _) (by omega)) h
  · refine ⟨1, ?_⟩
    show L_X1_bitsBetween_8 post (fun v => post v) x1 1 0 (nI f)
    rw [L_X1_bitsBetween_8, he]
    refine if_t (nI_le q (by omega)) ?_
    have e0 : bbN f e = 0 := by
      have : 2 ^ e ≤ 2 ^ f := Nat.pow_le_pow_right (by decide) q
      unfold bbN; omega
    rw [e0] at h
    exact h
/-- what axis 0 loses of a column -/
def upA (b : Nat) : Nat → Nat
  | 0 => 0
  | z + 1 => if bgN b z then upA b z ||| bbN (z + rlN b z - rlN b z / 2) (z + rlN b z) else upA b z
def upN (b : Nat) : Nat := upA b 8
theorem rl_top {b z : Nat} (hb : b < 256) (hz : z < 8) : z + rlN b z ≤ 8 := by
  rcases Nat.lt_or_ge 8 (z + rlN b z) with q | q
  · have h1 := rlN_in (b := b) (z := z) (j := 8 - z) (by omega)
    rw [show z + (8 - z) = 8 from by omega, tb_hi hb (Nat.le_refl 8)] at h1
    exact absurd h1 (by decide)
  · exact q
theorem div2 {n : Nat} (h : n < 4096) : nI n / (2 : Int32) = nI (n / 2) := pk_div (d := 2) (p31 h) (by decide) (by decide)
theorem v_upperHalves {b : Nat} (hb : b < 256) {post : Int32 → Prop} (h : post (nI (upN b))) : P_X1_upperHalves (nI b) post := by
  have key := up_loop (fun n (x : Int32 × Int32) => L_X1_upperHalves_4 post (fun v => post v) (nI b) n x.1 x.2) (fun k => (nI (upA b k), nI k)) 8 ?_ ?_
  · obtain ⟨n, hn⟩ := key
    exact ⟨n, hn⟩
  · intro n z hz ih
    show L_X1_upperHalves_4 post (fun v => post v) (nI b) (n + 1) (nI (upA b z)) (nI z)
    rw [L_X1_upperHalves_4]
    refine if_f (fun q => ?_) ?_
    · exact absurd ((nI_leI (a := 8) (b := z) (by decide) (by omega)).mp q) (by omega)
    · refine v_beginsRun hb (by omega) ?_
      have hl := rl_top hb hz
      refine if_bI (fun h1 => ?_) (fun h0 => ?_)
      · refine v_runLength hb hz ?_
        rw [nI_add, div2 (by omega), pk_sub (by omega)]
        refine v_bitsBetween (f := z + rlN b z - rlN b z / 2) (e := z + rlN b z) _ _ ?_ ?_ hl (by omega) ?_
        · rw [if_neg (nI_pos (by omega))]
        · exact if_neg (fun q => absurd ((nI_ltI (a := 8) (b := z + rlN b z) (by decide) (by omega)).mp q) (by omega))
        · intro y hy y2 hy2
          rw [fa_or] at hy
          rw [hy, hy2, show nI z + 1 = nI (z + 1) from nI_1 z]
          have e : upA b (z + 1) = upA b z ||| bbN (z + rlN b z - rlN b z / 2) (z + rlN b z) := by rw [upA, if_pos h1]
          rw [← e]
          exact ih
      · intro y2 hy2
        rw [hy2, show nI z + 1 = nI (z + 1) from nI_1 z]
        have e : upA b (z + 1) = upA b z := by rw [upA, if_neg (by rw [h0]; decide)]
        rw [← e]
        exact ih
  · intro n
    show L_X1_upperHalves_4 post (fun v => post v) (nI b) (n + 1) (nI (upA b 8)) (nI 8)
    rw [L_X1_upperHalves_4]
    exact if_t (by decide) h
/-- the span of the bits -/
def spA (b : Nat) : Nat → Nat × Nat
  | 0 => (0, 0)
  | z + 1 => if b.testBit z then (if (spA b z).2 = 0 then z else (spA b z).1, z + 1) else spA b z
def spN (b : Nat) : Nat := (spA b 8).2 - (spA b 8).1
theorem spA_le (b : Nat) : ∀ k, (spA b k).1 ≤ (spA b k).2 ∧ (spA b k).2 ≤ k
  | 0 => by simp [spA]
  | k + 1 => by
    have ih := spA_le b k
    unfold spA
    split
    · split <;> constructor <;> simp only <;> omega
    · omega
theorem v_span {b : Nat} (hb : b < 256) {post : Int32 → Prop} (h : post (nI (spN b))) : P_X1_span (nI b) post := by
  have key := up_loop (fun n (x : Int32 × Int32 × Int32) => L_X1_span_6 post (fun v1 v2 => post (v2 - v1)) (nI b) n x.1 x.2.1 x.2.2) (fun k => (nI (spA b k).1, nI (spA b k).2, nI k)) 8 ?_ ?_
  · obtain ⟨n, hn⟩ := key
    exact ⟨n, hn⟩
  · intro n z hz ih
    show L_X1_span_6 post (fun v1 v2 => post (v2 - v1)) (nI b) (n + 1) (nI (spA b z).1) (nI (spA b z).2) (nI z)
    rw [L_X1_span_6]
    refine if_f (fun q => ?_) ?_
    · exact absurd ((nI_leI (a := 8) (b := z) (by decide) (by omega)).mp q) (by omega)
    · refine v_hasBit hb (by omega) ?_
      have hl := spA_le b z
      refine if_bI (fun h1 => ?_) (fun h0 => ?_)
      · have e : spA b (z + 1) = (if (spA b z).2 = 0 then z else (spA b z).1, z + 1) := by rw [spA, if_pos h1]
        refine if_i (nI_eq (a := (spA b z).2) (b := 0) (by omega) (by decide)) (fun q => ?_) (fun q => ?_)
        · intro y hy y2 hy2
          rw [hy, hy2, show nI z + 1 = nI (z + 1) from nI_1 z]
          rw [e, if_pos q] at ih
          exact ih
        · intro y hy y2 hy2
          rw [hy, hy2, show nI z + 1 = nI (z + 1) from nI_1 z]
          rw [e, if_neg q] at ih
          exact ih
      · intro y2 hy2
        have e : spA b (z + 1) = spA b z := by rw [spA, if_neg (by rw [h0]; decide)]
        rw [hy2, show nI z + 1 = nI (z + 1) from nI_1 z]
        rw [e] at ih
        exact ih
  · intro n
    show L_X1_span_6 post (fun v1 v2 => post (v2 - v1)) (nI b) (n + 1) (nI (spA b 8).1) (nI (spA b 8).2) (nI 8)
    rw [L_X1_span_6]
    refine if_t (by decide) ?_
    show post (nI (spA b 8).2 - nI (spA b 8).1)
    rw [pk_sub (spA_le b 8).1]
    exact h
/-- how many bits are set -/
def pcN (b : Nat) : Nat := fa_cnt (fun z => b.testBit z) 8
set_option maxRecDepth 100000 in
set_option maxHeartbeats 4000000 in
theorem bc_dec0 : ∀ b : Fin 256,
    (((fun x : Int32 => ((fun y3 : Int32 => (fun y4 : Int32 => (fun y5 : Int32 => y5 &&& (63 : Int32)) (y4 + ((y4.toUInt32 >>> ((16 : Int32).toUInt32 &&& Int32.toUInt32 31)).toInt32))) (y3 + ((y3.toUInt32 >>> ((8 : Int32).toUInt32 &&& Int32.toUInt32 31)).toInt32))) ((fun y2 : Int32 => ((y2 + ((y2.toUInt32 >>> ((4 : Int32).toUInt32 &&& Int32.toUInt32 31)).toInt32)) &&& (252645135 : Int32))) ((fun y1 : Int32 => ((y1 &&& (858993459 : Int32)) + (((y1.toUInt32 >>> ((2 : Int32).toUInt32 &&& Int32.toUInt32 31)).toInt32) &&& (858993459 : Int32)))) (x - (((x.toUInt32 >>> ((1 : Int32).toUInt32 &&& Int32.toUInt32 31)).toInt32) &&& (1431655765 : Int32))))))) (nI b.val)) = nI (pcN b.val)) := by decide +kernel
theorem v_bitCount {b : Nat} (hb : b < 256) {post : Int32 → Prop} (h : post (nI (pcN b))) : P_J6_bitCount_0f7a4 (nI b) post := by
  unfold P_J6_bitCount_0f7a4
  intro y1 e1 y2 e2 y3 e3 y4 e4 y5 e5
  have := bc_dec0 ⟨b, hb⟩
  subst e1 e2 e3 e4 e5
  rw [← this] at h
  exact h
def rcN (b : Nat) : Nat := fa_cnt (fun z => bgN b z) 8
set_option maxRecDepth 100000 in
theorem rc_dec0 : ∀ b : Fin 256, (nI b.val &&& ((nI b.val <<< ((1 : Int32) &&& 31)) ^^^ (-1 : Int32))) = nI (b.val &&& (511 ^^^ (2 * b.val))) ∧ pcN (b.val &&& (511 ^^^ (2 * b.val))) = rcN b.val ∧ b.val &&& (511 ^^^ (2 * b.val)) < 256 := by decide +kernel
theorem v_runCount {b : Nat} (hb : b < 256) {post : Int32 → Prop} (h : post (nI (rcN b))) : P_X1_runCount (nI b) post := by
  unfold P_X1_runCount
  obtain ⟨h1, h2, h3⟩ := rc_dec0 ⟨b, hb⟩
  dsimp only at h1 h2 h3
  rw [h1]
  refine v_bitCount h3 ?_
  rw [h2]
  exact h
