/-! the solid as numbers; what the readers of both sides answer -/
/-- sizes W, D, Z; which ribs, as bits; the columns as bits -/
def OKs (W D Z cx cy : Nat) (c : Nat → Nat → Nat) : Prop := (1 ≤ W ∧ W ≤ 8) ∧ (1 ≤ D ∧ D ≤ 8) ∧ (1 ≤ Z ∧ Z ≤ 8) ∧ cx < 2 ^ W ∧ cy < 2 ^ D ∧ (∀ x y, c x y < 2 ^ Z) ∧ ∀ x y, ¬ (x < W ∧ y < D) → c x y = 0
def SIs (W D Z cx cy : Nat) (c : Nat → Nat → Nat) (u : St) : Prop := u.1 2 = nI W ∧ u.1 3 = nI D ∧ u.1 4 = nI Z ∧ u.1 5 = nI cx ∧ u.1 6 = nI cy ∧ ∀ x y, x < 8 → y < 8 → u.2 0 (8 * x + y) = nI (c x y)
def MIs (W D Z cx cy : Nat) (c : Nat → Nat → Nat) (u : St) : Prop := u.1 0 = nI W ∧ u.1 1 = nI D ∧ u.1 2 = nI Z ∧ u.2 4 0 = nI cx ∧ u.2 4 1 = nI cy ∧ ∀ x y z, x < 8 → y < 8 → z < 8 → u.2 3 (64 * x + 8 * y + z) = bI ((c x y).testBit z)
section OKF
variable {W D Z cx cy : Nat} {c : Nat → Nat → Nat}
theorem OKs.pw {n : Nat} (h : n ≤ 8) : 2 ^ n ≤ 256 := Nat.pow_le_pow_right (n := 2) (by decide) h
theorem OKs.c8 (h : OKs W D Z cx cy c) (x y : Nat) : c x y < 256 := Nat.lt_of_lt_of_le (h.2.2.2.2.2.1 x y) (OKs.pw h.2.2.1.2)
theorem OKs.x8 (h : OKs W D Z cx cy c) : cx < 256 := Nat.lt_of_lt_of_le h.2.2.2.1 (OKs.pw h.1.2)
theorem OKs.y8 (h : OKs W D Z cx cy c) : cy < 256 := Nat.lt_of_lt_of_le h.2.2.2.2.1 (OKs.pw h.2.1.2)
theorem OKs.bit (h : OKs W D Z cx cy c) {x y z : Nat} (hz : (c x y).testBit z = true) : x < W ∧ y < D ∧ z < Z := by
  have h1 : z < Z := by
    rcases Nat.lt_or_ge z Z with q | q
    · exact q
    · rw [Nat.testBit_lt_two_pow (Nat.lt_of_lt_of_le (h.2.2.2.2.2.1 x y) (Nat.pow_le_pow_right (by decide) q))] at hz
      exact absurd hz (by decide)
  by_cases q : x < W ∧ y < D
  · exact ⟨q.1, q.2, h1⟩
  · rw [h.2.2.2.2.2.2 x y q, Nat.zero_testBit] at hz
    exact absurd hz (by decide)
theorem OKs.bx (h : OKs W D Z cx cy c) {x : Nat} (hz : cx.testBit x = true) : x < W := by
  rcases Nat.lt_or_ge x W with q | q
  · exact q
  · rw [Nat.testBit_lt_two_pow (Nat.lt_of_lt_of_le h.2.2.2.1 (Nat.pow_le_pow_right (by decide) q))] at hz
    exact absurd hz (by decide)
theorem OKs.by (h : OKs W D Z cx cy c) {x : Nat} (hz : cy.testBit x = true) : x < D := by
  rcases Nat.lt_or_ge x D with q | q
  · exact q
  · rw [Nat.testBit_lt_two_pow (Nat.lt_of_lt_of_le h.2.2.2.2.1 (Nat.pow_le_pow_right (by decide) q))] at hz
    exact absurd hz (by decide)
end OKF
/-- a number between two, as Java's tests say it -/
theorem rng (x : Int32) (n : Nat) (hn : n < 4096) : (x < 0 ∨ nI n ≤ x) ∨ ∃ j, j < n ∧ x = nI j := by
  rcases pk_ix x (p31 hn) with h | h | h
  · exact Or.inl (Or.inl h)
  · exact Or.inl (Or.inr h)
  · exact Or.inr h
section SRD
variable {W D Z cx cy : Nat} {c : Nat → Nat → Nat} {u : St}
/-- whether there is such a place, the bounds as numbers -/
def inN (x : Int32) (n : Nat) : Bool := decide (0 ≤ x.toInt ∧ x.toInt < n)
theorem inN_nI {j n : Nat} (hj : j < 4096) : inN (nI j) n = decide (j < n) := by
  unfold inN
  rw [nI_toInt (p31 hj)]
  by_cases h : j < n
  · rw [decide_eq_true h]; exact decide_eq_true ⟨by omega, by omega⟩
  · rw [decide_eq_false h]; exact decide_eq_false (fun q => h (by omega))
theorem inN_t {x : Int32} {n : Nat} (hn : n < 4096) (h : inN x n = true) : ∃ j, j < n ∧ x = nI j := by
  have h := of_decide_eq_true h
  have : ¬ x < 0 := fun q => by rw [fa_lt] at q; have e : (0 : Int32).toInt = 0 := by decide
                                omega
  obtain ⟨j, hj, rfl⟩ := nI_of this
  rw [nI_toInt hj] at h
  exact ⟨j, by omega, rfl⟩
theorem lt0_iff {x : Int32} {n : Nat} : x < 0 ↔ x.toInt < 0 := by rw [fa_lt]; exact Iff.rfl
theorem nIle_iff {x : Int32} {n : Nat} (hn : n < 4096) : nI n ≤ x ↔ (n : Int) ≤ x.toInt := by rw [fa_le, nI_toInt (p31 hn)]
theorem v_hasColumn (hO : OKs W D Z cx cy c) (hS : SIs W D Z cx cy c u) {x y : Int32} {post : Int32 → Prop} (h : post (bI (inN x W && inN y D))) : P_X3_hasColumn u x y post := by
  unfold P_X3_hasColumn
  rw [hS.1, hS.2.1]
  have hW := hO.1
  have hD := hO.2.1
  refine if_i (lt0_iff (n := 0)) (fun q => ?_) (fun q => ?_)
  · rw [show inN x W = false from decide_eq_false (by omega)] at h; exact h
  · refine if_i (nIle_iff (by omega)) (fun q2 => ?_) (fun q2 => ?_)
    · rw [show inN x W = false from decide_eq_false (by omega)] at h; exact h
    · rw [show inN x W = true from decide_eq_true (by omega), Bool.true_and] at h
      refine if_i (lt0_iff (n := 0)) (fun q3 => ?_) (fun q3 => ?_)
      · rw [show inN y D = false from decide_eq_false (by omega)] at h; exact h
      · refine if_i (nIle_iff (by omega)) (fun q4 => ?_) (fun q4 => ?_)
        · rw [show inN y D = false from decide_eq_false (by omega)] at h; exact h
        · rw [show inN y D = true from decide_eq_true (by omega)] at h; exact h
theorem v_hasLayer (hO : OKs W D Z cx cy c) (hS : SIs W D Z cx cy c u) {x : Int32} {post : Int32 → Prop} (h : post (bI (inN x Z))) : P_X3_hasLayer u x post := by
  unfold P_X3_hasLayer
  rw [hS.2.2.1]
  have hZ := hO.2.2.1
  refine if_i (lt0_iff (n := 0)) (fun q => ?_) (fun q => ?_)
  · rw [show inN x Z = false from decide_eq_false (by omega)] at h; exact h
  · refine if_i (nIle_iff (by omega)) (fun q2 => ?_) (fun q2 => ?_)
    · rw [show inN x Z = false from decide_eq_false (by omega)] at h; exact h
    · rw [show inN x Z = true from decide_eq_true (by omega)] at h; exact h
/-- ribs of an axis -/
def rbN (W D ax : Nat) : Nat := if ax = 0 then W else D
def chN (cx cy ax : Nat) : Nat := if ax = 0 then cx else cy
theorem v_ribCount (hS : SIs W D Z cx cy c u) {ax : Nat} (ha : ax < 2) {post : Int32 → Prop} (h : post (nI (rbN W D ax))) : P_X3_ribCount u (nI ax) post := by
  unfold P_X3_ribCount
  refine if_i (nI_eq (a := ax) (b := 0) (by omega) (by decide)) (fun q => ?_) (fun q => ?_)
  · rw [hS.1]; rw [rbN, if_pos q] at h; exact h
  · rw [hS.2.1]; rw [rbN, if_neg q] at h; exact h
theorem rb_bd (hO : OKs W D Z cx cy c) (ax : Nat) : 1 ≤ rbN W D ax ∧ rbN W D ax ≤ 8 := by
  unfold rbN
  split
  · exact hO.1
  · exact hO.2.1
/-- whether there is such a rib -/
def ribB (W D : Nat) (a p : Int32) : Bool := (a == 0 && inN p W) || (a == 1 && inN p D)
theorem v_hasRib (hO : OKs W D Z cx cy c) (hS : SIs W D Z cx cy c u) {a p : Int32} {post : Int32 → Prop} (h : post (bI (ribB W D a p))) : P_X3_hasRib u a p post := by
  unfold P_X3_hasRib
  have key : ∀ ax : Nat, ax < 2 → a = nI ax → (if p < 0 then (post (0 : Int32)) else (P_X3_ribCount u a (fun r_1 : Int32 => if r_1 ≤ p then (post (0 : Int32)) else (post (1 : Int32))))) := by
    intro ax hax ea
    have hb := rb_bd hO ax
    have e : ribB W D a p = inN p (rbN W D ax) := by
      rcases (show ax = 0 ∨ ax = 1 by omega) with q | q
      · subst q; subst ea; simp [ribB, rbN, nI]
      · subst q; subst ea; simp [ribB, rbN, nI]
    rw [e] at h
    refine if_i (lt0_iff (n := 0)) (fun q => ?_) (fun q => ?_)
    · rw [show inN p (rbN W D ax) = false from decide_eq_false (by omega)] at h; exact h
    · rw [ea]
      refine v_ribCount hS hax ?_
      refine if_i (nIle_iff (by omega)) (fun q2 => ?_) (fun q2 => ?_)
      · rw [show inN p (rbN W D ax) = false from decide_eq_false (by omega)] at h; exact h
      · rw [show inN p (rbN W D ax) = true from decide_eq_true (by omega)] at h; exact h
  show if a = 0 then _ else (if a = (1 : Int32) then _ else post (0 : Int32))
  by_cases q : a = 0
  · exact if_t q (key 0 (by decide) q)
  · refine if_f q ?_
    by_cases q1 : a = 1
    · exact if_t q1 (key 1 (by decide) q1)
    · refine if_f q1 ?_
      rw [show ribB W D a p = false from by simp [ribB, q, q1]] at h
      exact h
theorem ribB_t (hO : OKs W D Z cx cy c) {a p : Int32} (h : ribB W D a p = true) : ∃ ax pl, ax < 2 ∧ pl < rbN W D ax ∧ a = nI ax ∧ p = nI pl := by
  unfold ribB at h
  have hW := hO.1
  have hD := hO.2.1
  rcases (Bool.or_eq_true _ _).mp h with q | q
  · obtain ⟨h1, h2⟩ := (Bool.and_eq_true _ _).mp q
    obtain ⟨j, hj, e⟩ := inN_t (by omega) h2
    exact ⟨0, j, by decide, hj, by simpa [nI] using h1, e⟩
  · obtain ⟨h1, h2⟩ := (Bool.and_eq_true _ _).mp q
    obtain ⟨j, hj, e⟩ := inN_t (by omega) h2
    exact ⟨1, j, by decide, hj, by simpa [nI] using h1, e⟩
theorem v_columnAt (hO : OKs W D Z cx cy c) (hS : SIs W D Z cx cy c u) {x y : Nat} (hx : x < 8) (hy : y < 8) {post : Int32 → Prop} (h : post (nI (c x y))) : P_X3_columnAt u (nI x) (nI y) post := by
  unfold P_X3_columnAt
  refine v_hasColumn hO hS ?_
  rw [inN_nI (by omega), inN_nI (by omega)]
  refine if_bI (fun h1 => ?_) (fun h0 => ?_)
  · rw [show (8 : Int32) * nI x + nI y = nI (8 * x + y) from by rw [show (8 : Int32) * nI x = nI (8 * x) from pk_mul 8 x, nI_add]]
    refine ⟨vp_in_nI (by omega) (by decide), ?_⟩
    rw [nI_clamp (by omega), hS.2.2.2.2.2 x y hx hy]
    exact h
  · have : c x y = 0 := hO.2.2.2.2.2.2 x y (fun q => by simp [q.1, q.2] at h0)
    rw [this] at h
    exact h
theorem v_chosenBits (hS : SIs W D Z cx cy c u) {ax : Nat} (ha : ax < 2) {post : Int32 → Prop} (h : post (nI (chN cx cy ax))) : P_X3_chosenBits u (nI ax) post := by
  unfold P_X3_chosenBits
  refine if_i (nI_eq (a := ax) (b := 0) (by omega) (by decide)) (fun q => ?_) (fun q => ?_)
  · rw [hS.2.2.2.1]; rw [chN, if_pos q] at h; exact h
  · rw [hS.2.2.2.2.1]; rw [chN, if_neg q] at h; exact h
theorem ch_8 (hO : OKs W D Z cx cy c) (ax : Nat) : chN cx cy ax < 256 := by
  unfold chN
  split
  · exact hO.x8
  · exact hO.y8
theorem v_isChosen (hO : OKs W D Z cx cy c) (hS : SIs W D Z cx cy c u) {ax pl : Nat} (ha : ax < 2) (hp : pl < 4096) {post : Int32 → Prop} (h : post (bI ((chN cx cy ax).testBit pl))) : P_X3_isChosen u (nI ax) (nI pl) post := by
  unfold P_X3_isChosen
  refine v_chosenBits hS ha ?_
  refine v_hasBit (ch_8 hO ax) hp ?_
  exact ⟨bI_nar _, h⟩
theorem one_sub {ax : Nat} (ha : ax < 2) : (1 : Int32) - nI ax = nI (1 - ax) := pk_sub (a := 1) (by omega)
/-- the bits of the crossings of a rib -/
def crN (cx cy ax pl : Nat) : Nat := if (chN cx cy ax).testBit pl then chN cx cy (1 - ax) else 0
theorem cr_8 (hO : OKs W D Z cx cy c) (ax pl : Nat) : crN cx cy ax pl < 256 := by
  unfold crN
  split
  · exact ch_8 hO _
  · decide
theorem v_crossingsOf (hO : OKs W D Z cx cy c) (hS : SIs W D Z cx cy c u) {ax pl : Nat} (ha : ax < 2) (hp : pl < 4096) {post : Int32 → Prop} (h : post (nI (crN cx cy ax pl))) : P_X3_crossingsOf u (nI ax) (nI pl) post := by
  unfold P_X3_crossingsOf
  refine v_isChosen hO hS ha hp ?_
  refine if_bI (fun h1 => ?_) (fun h0 => ?_)
  · rw [one_sub ha]
    refine v_chosenBits hS (by omega) ?_
    rw [crN, if_pos h1] at h
    exact h
  · rw [crN, if_neg (by rw [h0]; decide)] at h
    exact h
theorem v_wouldCatch (hO : OKs W D Z cx cy c) (hS : SIs W D Z cx cy c u) {x y : Nat} (hx : x < 8) (hy : y < 8) {post : Int32 → Prop} (h : post (bI (decide (1 < rcN (c x y))))) : P_X3_wouldCatch u (nI x) (nI y) post := by
  unfold P_X3_wouldCatch
  refine v_columnAt hO hS hx hy ?_
  refine v_runCount (hO.c8 x y) ?_
  have hl : rcN (c x y) ≤ 8 := fa_cnt_le _ 8
  refine if_i (nI_leI (b := 1) (by omega) (by decide)) (fun q => ?_) (fun q => ?_)
  · rw [decide_eq_false (by omega)] at h; exact h
  · rw [decide_eq_true (by omega)] at h; exact h
/-- a column of a rib -/
def rcl (c : Nat → Nat → Nat) (ax pl v : Nat) : Nat := if ax = 0 then c pl v else c v pl
theorem v_ribColumn (hO : OKs W D Z cx cy c) (hS : SIs W D Z cx cy c u) {ax pl v : Nat} (ha : ax < 2) (hp : pl < 8) (hv : v < 8) {post : Int32 → Prop} (h : post (nI (rcl c ax pl v))) : P_X3_ribColumn u (nI ax) (nI pl) (nI v) post := by
  unfold P_X3_ribColumn
  refine if_i (nI_eq (a := ax) (b := 0) (by omega) (by decide)) (fun q => ?_) (fun q => ?_)
  · rw [rcl, if_pos q] at h
    exact v_columnAt hO hS hp hv h
  · rw [rcl, if_neg q] at h
    exact v_columnAt hO hS hv hp h
end SRD
