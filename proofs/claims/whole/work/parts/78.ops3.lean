/-! run, caught, cover -/
theorem cnt_hi {p : Nat → Bool} {a : Nat} : ∀ d, (∀ k, a ≤ k → k < a + d → p k = false) → fa_cnt p (a + d) = fa_cnt p a
  | 0, _ => rfl
  | d + 1, h => by
    show fa_cnt p (a + d + 1) = _
    rw [fa_cnt_no (h (a + d) (by omega) (by omega))]
    exact cnt_hi d (fun k h1 h2 => h k h1 (by omega))
theorem bg_hi {b Z z : Nat} (h : b < 2 ^ Z) (hz : Z ≤ z) : bgN b z = false := by
  have e : b.testBit z = false := Nat.testBit_lt_two_pow (Nat.lt_of_lt_of_le h (Nat.pow_le_pow_right (by decide) hz))
  simp [bgN, e]
theorem rc_Z {b Z : Nat} (h : b < 2 ^ Z) (hZ : Z ≤ 8) : fa_cnt (fun z => bgN b z) Z = rcN b := by
  have := cnt_hi (p := fun z => bgN b z) (a := Z) (8 - Z) (fun k h1 _ => bg_hi h h1)
  rw [show Z + (8 - Z) = 8 from by omega] at this
  exact this.symm
theorem v_runX {W D Z cx cy : Nat} {c : Nat → Nat → Nat} {ux : St × St} (hO : OKs W D Z cx cy c) (hS : SIs W D Z cx cy c ux.1) {x y : Nat} (hx : x < W) (hy : y < D) {i : Int32} {post : Int32 → Prop}
    (h1 : ∀ z, z < 8 → bgN (c x y) z = true → i = nI (fa_cnt (fun z => bgN (c x y) z) z) → post (nI (10 * z + rlN (c x y) z)))
    (h2 : (∀ z, z < 8 → bgN (c x y) z = true → i ≠ nI (fa_cnt (fun z => bgN (c x y) z) z)) → post (if i = -1 then nI (rcN (c x y)) else -6)) : P_X4_run ux (nI x) (nI y) i post := by
  have hW := hO.1
  have hD := hO.2.1
  have hZ := hO.2.2.1
  have hc := hO.c8 x y
  have hcz := hO.2.2.2.2.2.1 x y
  unfold P_X4_run
  refine v_hasColumn hO hS ?_
  rw [inN_nI (by omega), inN_nI (by omega), decide_eq_true hx, decide_eq_true hy]
  refine if_f (by decide) ?_
  refine v_columnAt hO hS (by omega) (by omega) ?_
  show ∃ n, L_X4_run_31 post _ ux i (nI (c x y)) n (0 : Int32) (0 : Int32)
  refine loop_0 (σ := Unit) (fun n z _ => L_X4_run_31 post _ ux i (nI (c x y)) n (nI (fa_cnt (fun z => bgN (c x y) z) z)) (nI z)) (fun z _ => ∀ z', z' < z → bgN (c x y) z' = true → i ≠ nI (fa_cnt (fun z => bgN (c x y) z) z')) Z () (fun z' hz' => absurd hz' (Nat.not_lt_zero z')) ?_ ?_
  · intro n s hs
    rw [L_X4_run_31]
    refine if_t (by rw [hS.2.2.1]; exact nI_le (Nat.le_refl _) (by omega)) ?_
    have e := h2 (fun z hz hb => by
      rcases Nat.lt_or_ge z Z with q | q
      · exact hs z q hb
      · rw [bg_hi hcz q] at hb; cases hb)
    rw [rc_Z hcz hZ.2]
    by_cases qi : i = -1
    · rw [if_pos qi] at e; exact if_t qi e
    · rw [if_neg qi] at e; exact if_f qi e
  · intro n z s hz hs ih
    have hcn := fa_cnt_le (fun z => bgN (c x y) z) z
    rw [L_X4_run_31]
    refine if_f (fun q => ?_) ?_
    · rw [hS.2.2.1] at q
      exact absurd ((nI_leI (by omega) (by omega)).mp q) (by omega)
    · refine v_beginsRun hc (by omega) ?_
      refine if_bI (fun t => ?_) (fun t => ?_)
      · by_cases qi : nI (fa_cnt (fun z => bgN (c x y) z) z) = i
        · refine if_t qi ?_
          refine v_runLength hc (by omega) ?_
          rw [show (10 : Int32) * nI z + nI (rlN (c x y) z) = nI (10 * z + rlN (c x y) z) from by rw [show (10 : Int32) * nI z = nI (10 * z) from pk_mul 10 z, nI_add]]
          exact h1 z (by omega) t qi.symm
        · refine if_f qi ?_
          intro y6 e6 y9 e9
          rw [show nI (fa_cnt (fun z => bgN (c x y) z) z) + (1 : Int32) = nI (fa_cnt (fun z => bgN (c x y) z) z + 1) from nI_1 _, ← fa_cnt_yes (p := fun z => bgN (c x y) z) t] at e6
          rw [show nI z + (1 : Int32) = nI (z + 1) from nI_1 z] at e9
          subst e6 e9
          refine ih () ?_
          intro z' hz' hb'
          by_cases ez : z' = z
          · subst ez; exact fun w => qi w.symm
          · exact hs z' (by omega) hb'
      · intro y9 e9
        rw [show nI z + (1 : Int32) = nI (z + 1) from nI_1 z] at e9
        subst e9
        rw [← fa_cnt_no (p := fun z => bgN (c x y) z) t]
        refine ih () ?_
        intro z' hz' hb'
        by_cases ez : z' = z
        · subst ez; rw [t] at hb'; cases hb'
        · exact hs z' (by omega) hb'
set_option maxRecDepth 100000 in
theorem run_dec0 : ∀ b : Fin 256, ∀ j : Fin 4, j.val < rcN b.val → bgN b.val ((frS b.val 8).2.1 j.val) = true ∧ (frS b.val 8).2.1 j.val < 8 ∧ fa_cnt (fun z => bgN b.val z) ((frS b.val 8).2.1 j.val) = j.val ∧ rlN b.val ((frS b.val 8).2.1 j.val) = (frS b.val 8).2.2 j.val := by decide +kernel
theorem cnt_lt {p : Nat → Bool} {z n : Nat} (hz : z < n) (hp : p z = true) : fa_cnt p z < fa_cnt p n := by
  have mono : ∀ d, fa_cnt p (z + 1) ≤ fa_cnt p (z + 1 + d) := by
    intro d
    induction d with
    | zero => exact Nat.le_refl _
    | succ d ih =>
      exact Nat.le_trans ih (Nat.le_add_right _ _)
  have := mono (n - (z + 1))
  rw [show z + 1 + (n - (z + 1)) = n from by omega, fa_cnt_yes hp] at this
  omega
theorem cnt_inj {p : Nat → Bool} {a b : Nat} (ha : p a = true) (hb : p b = true) (e : fa_cnt p a = fa_cnt p b) : a = b := by
  rcases Nat.lt_trichotomy a b with q | q | q
  · have := cnt_lt q ha; omega
  · exact q
  · have := cnt_lt q hb; omega
theorem v_runM {W D Z cx cy : Nat} {c : Nat → Nat → Nat} {um : St} (hO : OKs W D Z cx cy c) (hM : MIs W D Z cx cy c um) {x y : Nat} (hx : x < W) (hy : y < D) {i : Int32} {post : Int32 → St → Prop}
    (h1 : ∀ z u', mR um u' → z < 8 → bgN (c x y) z = true → i = nI (fa_cnt (fun z => bgN (c x y) z) z) → post (nI (10 * z + rlN (c x y) z)) u')
    (h2 : ∀ u', mR um u' → (∀ z, z < 8 → bgN (c x y) z = true → i ≠ nI (fa_cnt (fun z => bgN (c x y) z) z)) → post (if i = -1 then nI (rcN (c x y)) else -6) u') : P_X5_run um (nI x) (nI y) i post := by
  have hW := hO.1
  have hD := hO.2.1
  have hc := hO.c8 x y
  unfold P_X5_run
  rw [hM.1, hM.2.1]
  refine v_inN hW.1 (by omega) ?_
  rw [inN_nI (by omega), decide_eq_true hx]
  refine if_f (by decide) ?_
  refine v_inN hD.1 (by omega) ?_
  rw [inN_nI (by omega), decide_eq_true hy]
  refine if_f (by decide) ?_
  refine v_findRuns hO hM (by omega) (by omega) (fun u' hr hf => ?_)
  have hcnt := fr_cnt0 ⟨c x y, hc⟩
  dsimp only at hcnt
  by_cases qi : i = -1
  · refine if_t qi ?_
    have := h2 u' hr (fun z hz hb e => by
      have hlt := cnt_lt (p := fun z => bgN (c x y) z) hz hb
      have hle : fa_cnt (fun z => bgN (c x y) z) 8 ≤ 8 := fa_cnt_le _ 8
      rw [qi] at e
      have e2 := congrArg Int32.toInt e
      rw [nI_toInt (by omega)] at e2
      have : (-1 : Int32).toInt = -1 := by decide
      omega)
    rw [if_pos qi] at this
    exact this
  · refine if_f qi ?_
    refine v_inN0 (by omega) ?_
    refine if_bI (fun t => ?_) (fun t => ?_)
    · obtain ⟨j, hj, rfl⟩ := inN_t (by omega) t
      refine ⟨vp_in_nI (by omega) (by decide), vp_in_nI (by omega) (by decide), ?_⟩
      obtain ⟨d1, d2, d3, d4⟩ := run_dec0 ⟨c x y, hc⟩ ⟨j, by omega⟩ hj
      dsimp only at d1 d2 d3 d4
      have hfj := hf j (by rw [hcnt.1]; exact hj)
      rw [nI_clamp (by omega), hfj.1, hfj.2, show (10 : Int32) * nI ((frS (c x y) 8).2.1 j) = nI (10 * (frS (c x y) 8).2.1 j) from pk_mul 10 _, nI_add, ← d4]
      exact h1 _ u' hr d2 d1 (by rw [d3])
    · have := h2 u' hr (fun z hz hb e => by
        have hlt := cnt_lt (p := fun z => bgN (c x y) z) hz hb
        have hle : fa_cnt (fun z => bgN (c x y) z) 8 = rcN (c x y) := rfl
        rw [e, inN_nI (by omega), decide_eq_true (by omega)] at t
        cases t)
      rw [if_neg qi] at this
      exact this
theorem op_run {ux : St × St} {um : St} (hI : Inv ux um) (x y i : Int32) : P_X4_run ux x y i (fun r => P_X5_run um x y i (fun r' um' => r = r' ∧ Inv ux um')) := by
  obtain ⟨W, D, Z, cx, cy, c, hO, hS, hM, hB⟩ := id hI
  have hW := hO.1
  have hD := hO.2.1
  cases q : inN x W && inN y D with
  | false =>
    unfold P_X4_run
    refine v_hasColumn hO hS ?_
    rw [q]
    refine if_t rfl ?_
    unfold P_X5_run
    rw [hM.1, hM.2.1]
    refine v_inN hW.1 (by omega) ?_
    refine if_bI (fun t => ?_) (fun _ => ⟨rfl, hI⟩)
    refine v_inN hD.1 (by omega) ?_
    refine if_bI (fun t2 => ?_) (fun _ => ⟨rfl, hI⟩)
    rw [t, t2] at q; cases q
  | true =>
    obtain ⟨q1, q2⟩ := (Bool.and_eq_true _ _).mp q
    obtain ⟨a, ha, rfl⟩ := inN_t (by omega) q1
    obtain ⟨b, hb, rfl⟩ := inN_t (by omega) q2
    refine v_runX hO hS ha hb (fun z hz hbg e => ?_) (fun hn => ?_)
    · refine v_runM hO hM ha hb (fun z' u' hr hz' hbg' e' => ⟨?_, hr.mS.inv hI⟩) (fun u' hr hn => absurd e (hn z hz hbg))
      have l1 := fa_cnt_le (fun z => bgN (c a b) z) z
      have l2 := fa_cnt_le (fun z => bgN (c a b) z) z'
      have : z = z' := cnt_inj (p := fun z => bgN (c a b) z) hbg hbg' ((nI_eq (by omega) (by omega)).mp (e.symm.trans e'))
      rw [this]
    · exact v_runM hO hM ha hb (fun z' u' hr hz' hbg' e' => absurd e' (hn z' hz' hbg')) (fun u' hr _ => ⟨rfl, hr.mS.inv hI⟩)
-- caught
def caB (cx cy : Nat) (c : Nat → Nat → Nat) (k : Nat) : Bool := (cx.testBit (k / 8) && cy.testBit (k % 8)) && decide (1 < rcN (c (k / 8) (k % 8)))
theorem ca_at {cx cy : Nat} {c : Nat → Nat → Nat} {x y : Nat} (hy : y < 8) : caB cx cy c (8 * x + y) = ((cx.testBit x && cy.testBit y) && decide (1 < rcN (c x y))) := by
  unfold caB
  rw [show (8 * x + y) / 8 = x from by omega, show (8 * x + y) % 8 = y from by omega]
theorem ca_row {W D Z cx cy : Nat} {c : Nat → Nat → Nat} (hO : OKs W D Z cx cy c) (x : Nat) : fa_cnt (caB cx cy c) (8 * x + D) = fa_cnt (caB cx cy c) (8 * (x + 1)) := by
  have hD := hO.2.1
  have := cnt_hi (p := caB cx cy c) (a := 8 * x + D) (8 - D) (fun k h1 h2 => by
    obtain ⟨y, rfl⟩ : ∃ y, k = 8 * x + y := ⟨k - 8 * x, by omega⟩
    rw [ca_at (by omega)]
    cases e : cy.testBit y with
    | false => simp
    | true => exact absurd (hO.by e) (by omega))
  rw [← this]
  congr 1
  omega
theorem ca_end {W D Z cx cy : Nat} {c : Nat → Nat → Nat} (hO : OKs W D Z cx cy c) : fa_cnt (caB cx cy c) (8 * W) = fa_cnt (caB cx cy c) 64 := by
  have hW := hO.1
  have := cnt_hi (p := caB cx cy c) (a := 8 * W) (64 - 8 * W) (fun k h1 h2 => by
    unfold caB
    cases e : cx.testBit (k / 8) with
    | false => simp
    | true => exact absurd (hO.bx e) (by omega))
  rw [← this]
  congr 1
  omega
theorem ten (x y : Nat) : (10 : Int32) * nI x + nI y = nI (10 * x + y) := by rw [show (10 : Int32) * nI x = nI (10 * x) from pk_mul 10 x, nI_add]
def noCa (p : Nat → Bool) (i : Int32) (n : Nat) : Prop := ∀ k, k < n → p k = true → i ≠ nI (fa_cnt p k)
theorem noCa.step {p : Nat → Bool} {i : Int32} {n : Nat} (h : noCa p i n) (h2 : p n = true → i ≠ nI (fa_cnt p n)) : noCa p i (n + 1) := by
  intro k hk hp
  by_cases e : k = n
  · subst e; exact h2 hp
  · exact h k (by omega) hp
theorem noCa.ext {p : Nat → Bool} {i : Int32} {n m : Nat} (h : noCa p i n) (h2 : ∀ k, n ≤ k → k < m → p k = false) : noCa p i m := by
  intro k hk hp
  rcases Nat.lt_or_ge k n with q | q
  · exact h k q hp
  · rw [h2 k q hk] at hp; cases hp
theorem ca_rowF {W D Z cx cy : Nat} {c : Nat → Nat → Nat} (hO : OKs W D Z cx cy c) (x k : Nat) (h1 : 8 * x + D ≤ k) (h2 : k < 8 * (x + 1)) : caB cx cy c k = false := by
  obtain ⟨y, rfl⟩ : ∃ y, k = 8 * x + y := ⟨k - 8 * x, by omega⟩
  rw [ca_at (by omega)]
  cases e : cy.testBit y with
  | false => simp
  | true => exact absurd (hO.by e) (by omega)
theorem ca_endF {W D Z cx cy : Nat} {c : Nat → Nat → Nat} (hO : OKs W D Z cx cy c) (k : Nat) (h1 : 8 * W ≤ k) : caB cx cy c k = false := by
  unfold caB
  cases e : cx.testBit (k / 8) with
  | false => simp
  | true => exact absurd (hO.bx e) (by omega)
theorem v_caughtX {W D Z cx cy : Nat} {c : Nat → Nat → Nat} {ux : St × St} (hO : OKs W D Z cx cy c) (hS : SIs W D Z cx cy c ux.1) {i : Int32} {post : Int32 → Prop}
    (h1 : ∀ k, k < 64 → caB cx cy c k = true → i = nI (fa_cnt (caB cx cy c) k) → post (nI (10 * (k / 8) + k % 8)))
    (h2 : noCa (caB cx cy c) i 64 → post (if i = -1 then nI (fa_cnt (caB cx cy c) 64) else -6)) : P_X4_caught ux i post := by
  have hW := hO.1
  have hD := hO.2.1
  show ∃ n, L_X4_caught_4 post _ ux i n (0 : Int32) (0 : Int32)
  refine loop_0 (σ := Unit) (fun n x _ => L_X4_caught_4 post _ ux i n (nI (fa_cnt (caB cx cy c) (8 * x))) (nI x)) (fun x _ => noCa (caB cx cy c) i (8 * x)) W () (fun k hk => absurd hk (Nat.not_lt_zero k)) ?_ ?_
  · intro n s hs
    rw [L_X4_caught_4]
    refine if_t (by rw [hS.1]; exact nI_le (Nat.le_refl _) (by omega)) ?_
    have e := h2 (hs.ext (fun k q _ => ca_endF hO k q))
    rw [ca_end hO]
    by_cases qi : i = -1
    · rw [if_pos qi] at e; exact if_t qi e
    · rw [if_neg qi] at e; exact if_f qi e
  · intro n x s hx hs ih
    rw [L_X4_caught_4]
    refine if_f (fun q => ?_) ?_
    · rw [hS.1] at q
      exact absurd ((nI_leI (by omega) (by omega)).mp q) (by omega)
    · refine v_crossingsOf hO hS (ax := 0) (by decide) (by omega) ?_
      show ∃ n', L_X4_caught_29 post _ ux i (nI x) (nI (crN cx cy 0 x)) n' (nI (fa_cnt (caB cx cy c) (8 * x))) (0 : Int32)
      refine loop_0 (σ := Unit) (fun n' y _ => L_X4_caught_29 post _ ux i (nI x) (nI (crN cx cy 0 x)) n' (nI (fa_cnt (caB cx cy c) (8 * x + y))) (nI y)) (fun y _ => noCa (caB cx cy c) i (8 * x + y)) D () hs ?_ ?_
      · intro n' s' hs'
        rw [L_X4_caught_29]
        refine if_t (by rw [hS.2.1]; exact nI_le (Nat.le_refl _) (by omega)) ?_
        intro y12 e12
        rw [show nI x + (1 : Int32) = nI (x + 1) from nI_1 x] at e12
        subst e12
        rw [ca_row hO]
        exact ih () (hs'.ext (fun k q1 q2 => ca_rowF hO x k q1 q2))
      · intro n' y s' hy hs' ih'
        have hk := ca_at (cx := cx) (cy := cy) (c := c) (x := x) (y := y) (by omega)
        have cr : (crN cx cy 0 x).testBit y = (cx.testBit x && cy.testBit y) := by
          unfold crN chN
          simp only [if_true]
          cases e : cx.testBit x <;> simp
        rw [L_X4_caught_29]
        refine if_f (fun q => ?_) ?_
        · rw [hS.2.1] at q
          exact absurd ((nI_leI (by omega) (by omega)).mp q) (by omega)
        · have cont0 : caB cx cy c (8 * x + y) = false → ∀ y_10 : Int32, y_10 = nI y + (1 : Int32) → L_X4_caught_29 post (fun (v2_11 : Int32) => ∀ y_12 : Int32, y_12 = nI x + (1 : Int32) → L_X4_caught_4 post (fun v2_13 => if i = (-1 : Int32) then post v2_13 else post (-6 : Int32)) ux i n v2_11 y_12) ux i (nI x) (nI (crN cx cy 0 x)) n' (nI (fa_cnt (caB cx cy c) (8 * x + y))) y_10 := by
            intro hf y10 e10
            rw [show nI y + (1 : Int32) = nI (y + 1) from nI_1 y] at e10
            subst e10
            rw [← fa_cnt_no hf]
            exact ih' () (hs'.step (fun t => by rw [hf] at t; cases t))
          refine v_hasBit (cr_8 hO 0 x) (by omega) ?_
          rw [cr]
          refine if_bI (fun t => ?_) (fun t => cont0 (by rw [hk, t]; rfl))
          refine v_wouldCatch hO hS (by omega) (by omega) ?_
          refine if_bI (fun t2 => ?_) (fun t2 => cont0 (by rw [hk, t, t2]; rfl))
          have ht : caB cx cy c (8 * x + y) = true := by rw [hk, t, t2]; rfl
          by_cases qi : nI (fa_cnt (caB cx cy c) (8 * x + y)) = i
          · refine if_t qi ?_
            rw [ten]
            have := h1 (8 * x + y) (by omega) ht qi.symm
            rw [show (8 * x + y) / 8 = x from by omega, show (8 * x + y) % 8 = y from by omega] at this
            exact this
          · refine if_f qi ?_
            intro y8 e8 y10 e10
            rw [show nI y + (1 : Int32) = nI (y + 1) from nI_1 y] at e10
            rw [show nI (fa_cnt (caB cx cy c) (8 * x + y)) + (1 : Int32) = nI (fa_cnt (caB cx cy c) (8 * x + y) + 1) from nI_1 _, ← fa_cnt_yes ht] at e8
            subst e8 e10
            exact ih' () (hs'.step (fun _ w => qi w.symm))
theorem v_caughtM {W D Z cx cy : Nat} {c : Nat → Nat → Nat} {um : St} (hO : OKs W D Z cx cy c) (hM : MIs W D Z cx cy c um) {i : Int32} {post : Int32 → St → Prop}
    (h1 : ∀ k u', mR um u' → k < 64 → caB cx cy c k = true → i = nI (fa_cnt (caB cx cy c) k) → post (nI (10 * (k / 8) + k % 8)) u')
    (h2 : ∀ u', mR um u' → noCa (caB cx cy c) i 64 → post (if i = -1 then nI (fa_cnt (caB cx cy c) 64) else -6) u') : P_X5_caught um i post := by
  have hW := hO.1
  have hD := hO.2.1
  show ∃ n, L_X5_caught_4 post _ i n (0 : Int32) (0 : Int32) um
  refine loop_0 (σ := St) (fun n x s => L_X5_caught_4 post _ i n (nI (fa_cnt (caB cx cy c) (8 * x))) (nI x) s) (fun x s => mR um s ∧ noCa (caB cx cy c) i (8 * x)) W um ⟨mR.rf, fun k hk => absurd hk (Nat.not_lt_zero k)⟩ ?_ ?_
  · intro n s hs
    rw [L_X5_caught_4]
    refine if_t (by rw [(hs.1.MI hM).1]; exact nI_le (Nat.le_refl _) (by omega)) ?_
    have e := h2 s hs.1 (hs.2.ext (fun k q _ => ca_endF hO k q))
    rw [ca_end hO]
    by_cases qi : i = -1
    · rw [if_pos qi] at e; exact if_t qi e
    · rw [if_neg qi] at e; exact if_f qi e
  · intro n x s hx hs ih
    rw [L_X5_caught_4]
    refine if_f (fun q => ?_) ?_
    · rw [(hs.1.MI hM).1] at q
      exact absurd ((nI_leI (by omega) (by omega)).mp q) (by omega)
    · show ∃ n', L_X5_caught_15 post _ i (nI x) n' (nI (fa_cnt (caB cx cy c) (8 * x))) (0 : Int32) s
      refine loop_0 (σ := St) (fun n' y s' => L_X5_caught_15 post _ i (nI x) n' (nI (fa_cnt (caB cx cy c) (8 * x + y))) (nI y) s') (fun y s' => mR um s' ∧ noCa (caB cx cy c) i (8 * x + y)) D s hs ?_ ?_
      · intro n' s' hs'
        rw [L_X5_caught_15]
        refine if_t (by rw [(hs'.1.MI hM).2.1]; exact nI_le (Nat.le_refl _) (by omega)) ?_
        intro y12 e12
        rw [show nI x + (1 : Int32) = nI (x + 1) from nI_1 x] at e12
        subst e12
        rw [ca_row hO]
        exact ih s' ⟨hs'.1, hs'.2.ext (fun k q1 q2 => ca_rowF hO x k q1 q2)⟩
      · intro n' y s' hy hs' ih'
        have hM' := hs'.1.MI hM
        have hk := ca_at (cx := cx) (cy := cy) (c := c) (x := x) (y := y) (by omega)
        rw [L_X5_caught_15]
        refine if_f (fun q => ?_) ?_
        · rw [hM'.2.1] at q
          exact absurd ((nI_leI (by omega) (by omega)).mp q) (by omega)
        · have cont0 : caB cx cy c (8 * x + y) = false → ∀ s2, mR um s2 → ∀ y_10 : Int32, y_10 = nI y + (1 : Int32) → L_X5_caught_15 post (fun (v2_15 : Int32) (u_16 : St) => ∀ y_17 : Int32, y_17 = nI x + (1 : Int32) → L_X5_caught_4 post (fun v2_18 u_19 => if i = (-1 : Int32) then post v2_18 u_19 else post (-6 : Int32) u_19) i n v2_15 y_17 u_16) i (nI x) n' (nI (fa_cnt (caB cx cy c) (8 * x + y))) y_10 s2 := by
            intro hf s2 hs2 y10 e10
            rw [show nI y + (1 : Int32) = nI (y + 1) from nI_1 y] at e10
            subst e10
            rw [← fa_cnt_no hf]
            exact ih' s2 ⟨hs2, hs'.2.step (fun t => by rw [hf] at t; cases t)⟩
          refine v_isChosenM hO hM' (ax := 0) (by decide) (by omega) ?_
          refine if_bI (fun t => ?_) (fun t => cont0 (by rw [hk, show cx.testBit x = false from t]; rfl) s' hs'.1)
          refine v_isChosenM hO hM' (ax := 1) (by decide) (by omega) ?_
          refine if_bI (fun t1 => ?_) (fun t1 => cont0 (by rw [hk, show cy.testBit y = false from t1]; simp) s' hs'.1)
          refine v_findRuns hO hM' (by omega) (by omega) (fun s2 hr hf => ?_)
          have hrc := (fr_cnt0 ⟨c x y, hO.c8 x y⟩).2
          dsimp only at hrc
          refine if_i (nI_leI (b := 1) (by omega) (by decide)) (fun t2 => ?_) (fun t2 => ?_)
          · exact cont0 (by rw [hk, decide_eq_false (by omega)]; simp) s2 (hs'.1.tr hr)
          · have ht : caB cx cy c (8 * x + y) = true := by rw [hk, show cx.testBit x = true from t, show cy.testBit y = true from t1, decide_eq_true (by omega)]; rfl
            by_cases qi : nI (fa_cnt (caB cx cy c) (8 * x + y)) = i
            · refine if_t qi ?_
              rw [ten]
              have := h1 (8 * x + y) s2 (hs'.1.tr hr) (by omega) ht qi.symm
              rw [show (8 * x + y) / 8 = x from by omega, show (8 * x + y) % 8 = y from by omega] at this
              exact this
            · refine if_f qi ?_
              intro y8 e8 y10 e10
              rw [show nI y + (1 : Int32) = nI (y + 1) from nI_1 y] at e10
              rw [show nI (fa_cnt (caB cx cy c) (8 * x + y)) + (1 : Int32) = nI (fa_cnt (caB cx cy c) (8 * x + y) + 1) from nI_1 _, ← fa_cnt_yes ht] at e8
              subst e8 e10
              exact ih' s2 ⟨hs'.1.tr hr, hs'.2.step (fun _ w => qi w.symm)⟩
theorem op_caught {ux : St × St} {um : St} (hI : Inv ux um) (i : Int32) : P_X4_caught ux i (fun r => P_X5_caught um i (fun r' um' => r = r' ∧ Inv ux um')) := by
  obtain ⟨W, D, Z, cx, cy, c, hO, hS, hM, hB⟩ := id hI
  refine v_caughtX hO hS (fun k hk hp e => ?_) (fun hn => ?_)
  · refine v_caughtM hO hM (fun k' u' hr hk' hp' e' => ⟨?_, hr.mS.inv hI⟩) (fun u' hr hn => absurd e (hn k hk hp))
    have l1 := fa_cnt_le (caB cx cy c) k
    have l2 := fa_cnt_le (caB cx cy c) k'
    have : k = k' := cnt_inj hp hp' ((nI_eq (by omega) (by omega)).mp (e.symm.trans e'))
    rw [this]
  · exact v_caughtM hO hM (fun k' u' hr hk' hp' e' => absurd e' (hn k' hk' hp')) (fun u' hr _ => ⟨rfl, hr.mS.inv hI⟩)
