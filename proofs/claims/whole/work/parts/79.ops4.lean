/-! cover, counts of cubes -/
def cvG (c : Nat → Nat → Nat) (p q x y : Nat) : Nat := if p.testBit x || q.testBit y then pcN (c x y) else 0
def covN (W D : Nat) (c : Nat → Nat → Nat) (p q : Nat) : Nat := fb_sm (fun x => fb_sm (cvG c p q x) D) W
def caG (c : Nat → Nat → Nat) (p q x y : Nat) : Nat := if (p.testBit x && q.testBit y) && decide (1 < rcN (c x y)) then 1 else 0
def catN (W D : Nat) (c : Nat → Nat → Nat) (p q : Nat) : Nat := fb_sm (fun x => fb_sm (caG c p q x) D) W
theorem pc_le (b : Nat) : pcN b ≤ 8 := fa_cnt_le _ 8
theorem v_coveredCubes {W D Z cx cy : Nat} {c : Nat → Nat → Nat} {u : St} (hO : OKs W D Z cx cy c) (hS : SIs W D Z cx cy c u) {post : Int32 → Prop} (h : post (nI (covN W D c cx cy))) : P_X3_coveredCubes u post := by
  have hW := hO.1
  have hD := hO.2.1
  show ∃ n, L_X3_coveredCubes_4 post _ u n (0 : Int32) (0 : Int32)
  refine loop_0 (σ := Unit) (fun n x _ => L_X3_coveredCubes_4 post _ u n (nI (fb_sm (fun x => fb_sm (cvG c cx cy x) D) x)) (nI x)) (fun _ _ => True) W () trivial ?_ ?_
  · intro n _ _
    rw [L_X3_coveredCubes_4]
    exact if_t (by rw [hS.1]; exact nI_le (Nat.le_refl _) (by omega)) h
  · intro n x _ hx _ ih
    rw [L_X3_coveredCubes_4]
    refine if_f (fun q => ?_) ?_
    · rw [hS.1] at q
      exact absurd ((nI_leI (by omega) (by omega)).mp q) (by omega)
    · show ∃ n', L_X3_coveredCubes_14 post _ u (nI x) n' (nI (fb_sm (fun x => fb_sm (cvG c cx cy x) D) x)) (0 : Int32)
      have key := loop_0 (σ := Unit) (fun n' y _ => L_X3_coveredCubes_14 post (fun (v1_12 : Int32) => ∀ y_13 : Int32, y_13 = nI x + (1 : Int32) → L_X3_coveredCubes_4 post (fun (v1_14 : Int32) => post v1_14) u n v1_12 y_13) u (nI x) n' (nI (fb_sm (fun x => fb_sm (cvG c cx cy x) D) x + fb_sm (cvG c cx cy x) y)) (nI y)) (fun _ _ => True) D () trivial ?_ ?_
      · exact key
      · intro n' _ _
        rw [L_X3_coveredCubes_14]
        refine if_t (by rw [hS.2.1]; exact nI_le (Nat.le_refl _) (by omega)) ?_
        intro y13 e13
        rw [show nI x + (1 : Int32) = nI (x + 1) from nI_1 x] at e13
        subst e13
        exact ih () trivial
      · intro n' y _ hy _ ih'
        rw [L_X3_coveredCubes_14]
        refine if_f (fun q => ?_) ?_
        · rw [hS.2.1] at q
          exact absurd ((nI_leI (by omega) (by omega)).mp q) (by omega)
        · have ih2 := ih' () trivial
          rw [fb_sm_succ, ← Nat.add_assoc] at ih2
          have no : cvG c cx cy x y = 0 → ∀ y_11 : Int32, y_11 = nI y + (1 : Int32) → L_X3_coveredCubes_14 post (fun (v1_12 : Int32) => ∀ y_13 : Int32, y_13 = nI x + (1 : Int32) → L_X3_coveredCubes_4 post (fun (v1_14 : Int32) => post v1_14) u n v1_12 y_13) u (nI x) n' (nI (fb_sm (fun x => fb_sm (cvG c cx cy x) D) x + fb_sm (cvG c cx cy x) y)) y_11 := by
            intro e y11 e11
            rw [show nI y + (1 : Int32) = nI (y + 1) from nI_1 y] at e11
            subst e11
            rw [e, Nat.add_zero] at ih2
            exact ih2
          have yes : cvG c cx cy x y = pcN (c x y) → P_X3_columnAt u (nI x) (nI y) (fun r_7 : Int32 => P_J6_bitCount_0f7a4 r_7 (fun r_8 : Int32 => ∀ y_9 : Int32, y_9 = (nI (fb_sm (fun x => fb_sm (cvG c cx cy x) D) x + fb_sm (cvG c cx cy x) y) + r_8) → ∀ y_11 : Int32, y_11 = nI y + (1 : Int32) → L_X3_coveredCubes_14 post (fun (v1_12 : Int32) => ∀ y_13 : Int32, y_13 = nI x + (1 : Int32) → L_X3_coveredCubes_4 post (fun (v1_14 : Int32) => post v1_14) u n v1_12 y_13) u (nI x) n' y_9 y_11)) := by
            intro e
            refine v_columnAt hO hS (by omega) (by omega) ?_
            refine v_bitCount (hO.c8 x y) ?_
            intro y9 e9 y11 e11
            rw [show nI y + (1 : Int32) = nI (y + 1) from nI_1 y] at e11
            rw [nI_add] at e9
            subst e9 e11
            rw [e] at ih2
            exact ih2
          refine v_isChosen hO hS (ax := 0) (by decide) (by omega) ?_
          refine if_bI (fun t => ?_) (fun t => ?_)
          · exact yes (by unfold cvG; rw [show cx.testBit x = true from t]; rfl)
          · refine v_isChosen hO hS (ax := 1) (by decide) (by omega) ?_
            refine if_bI (fun t1 => ?_) (fun t1 => ?_)
            · exact yes (by unfold cvG; rw [show cy.testBit y = true from t1, Bool.or_true]; rfl)
            · exact no (by unfold cvG; rw [show cx.testBit x = false from t, show cy.testBit y = false from t1]; rfl)
theorem v_highOf {W D Z cx cy : Nat} {c : Nat → Nat → Nat} {u : St} (hO : OKs W D Z cx cy c) (hM : MIs W D Z cx cy c u) {x y : Nat} (hx : x < 8) (hy : y < 8) {post : Int32 → Prop} (h : post (nI (pcN (c x y)))) : P_X5_highOf u (nI x) (nI y) post := by
  have hZ := hO.2.2.1
  show ∃ n, L_X5_highOf_5 post _ u (nI x) (nI y) n (0 : Int32) (0 : Int32)
  refine loop_0 (σ := Unit) (fun n z _ => L_X5_highOf_5 post _ u (nI x) (nI y) n (nI (fa_cnt (fun z => (c x y).testBit z) z)) (nI z)) (fun _ _ => True) Z () trivial ?_ ?_
  · intro n _ _
    rw [L_X5_highOf_5]
    refine if_t (by rw [hM.2.2.1]; exact nI_le (Nat.le_refl _) (by omega)) ?_
    have := cnt_hi (p := fun z => (c x y).testBit z) (a := Z) (8 - Z) (fun k h1 _ => Nat.testBit_lt_two_pow (Nat.lt_of_lt_of_le (hO.2.2.2.2.2.1 x y) (Nat.pow_le_pow_right (by decide) h1)))
    rw [show Z + (8 - Z) = 8 from by omega] at this
    show post (nI (fa_cnt (fun z => (c x y).testBit z) Z))
    rw [← this]
    exact h
  · intro n z _ hz _ ih
    rw [L_X5_highOf_5]
    refine if_f (fun q => ?_) ?_
    · rw [hM.2.2.1] at q
      exact absurd ((nI_leI (by omega) (by omega)).mp q) (by omega)
    · refine v_has hM hx hy (by omega) ?_
      refine if_bI (fun t => ?_) (fun t => ?_)
      · intro y5 e5 y6 e6
        rw [show nI z + (1 : Int32) = nI (z + 1) from nI_1 z] at e6
        rw [show nI (fa_cnt (fun z => (c x y).testBit z) z) + (1 : Int32) = nI (fa_cnt (fun z => (c x y).testBit z) z + 1) from nI_1 _, ← fa_cnt_yes (p := fun z => (c x y).testBit z) t] at e5
        subst e5 e6
        exact ih () trivial
      · intro y5 e5 y6 e6
        rw [show nI z + (1 : Int32) = nI (z + 1) from nI_1 z] at e6
        rw [show nI (fa_cnt (fun z => (c x y).testBit z) z) + (0 : Int32) = nI (fa_cnt (fun z => (c x y).testBit z) z) from nI_add _ 0, ← fa_cnt_no (p := fun z => (c x y).testBit z) t] at e5
        subst e5 e6
        exact ih () trivial
theorem idx2 (x y : Nat) : (8 : Int32) * nI x + nI y = nI (8 * x + y) := by rw [show (8 : Int32) * nI x = nI (8 * x) from pk_mul 8 x, nI_add]
def lkI (c : Nat → Nat → Nat) (u : St) (x y : Nat) : Prop := u.2 11 (8 * x + y) = nI (pcN (c x y)) ∧ u.2 12 (8 * x + y) = nI (rcN (c x y))
theorem v_lookAt {W D Z cx cy : Nat} {c : Nat → Nat → Nat} {u : St} (hO : OKs W D Z cx cy c) (hM : MIs W D Z cx cy c u) {post : St → Prop} (h : ∀ u', mS u u' → (∀ x y, x < W → y < D → lkI c u' x y) → post u') : P_X5_lookAtColumns u post := by
  have hW := hO.1
  have hD := hO.2.1
  show ∃ n, L_X5_lookAtColumns_2 post _ n (0 : Int32) u
  refine loop_0 (σ := St) (fun n x s => L_X5_lookAtColumns_2 post _ n (nI x) s) (fun x s => mS u s ∧ ∀ x' y', x' < x → y' < D → lkI c s x' y') W u ⟨mS.rf, fun x' _ hx' => absurd hx' (Nat.not_lt_zero x')⟩ ?_ ?_
  · intro n s hs
    rw [L_X5_lookAtColumns_2]
    refine if_t (by rw [(hs.1.MI hM).1]; exact nI_le (Nat.le_refl _) (by omega)) ?_
    exact h s hs.1 hs.2
  · intro n x s hx hs ih
    rw [L_X5_lookAtColumns_2]
    refine if_f (fun q => ?_) ?_
    · rw [(hs.1.MI hM).1] at q
      exact absurd ((nI_leI (by omega) (by omega)).mp q) (by omega)
    · show ∃ n', L_X5_lookAtColumns_12 post _ (nI x) n' (0 : Int32) s
      refine loop_0 (σ := St) (fun n' y s' => L_X5_lookAtColumns_12 post _ (nI x) n' (nI y) s') (fun y s' => mS u s' ∧ (∀ x' y', x' < x → y' < D → lkI c s' x' y') ∧ ∀ y', y' < y → lkI c s' x y') D s ⟨hs.1, hs.2, fun y' hy' => absurd hy' (Nat.not_lt_zero y')⟩ ?_ ?_
      · intro n' s' hs'
        rw [L_X5_lookAtColumns_12]
        refine if_t (by rw [(hs'.1.MI hM).2.1]; exact nI_le (Nat.le_refl _) (by omega)) ?_
        intro y12 e12
        rw [show nI x + (1 : Int32) = nI (x + 1) from nI_1 x] at e12
        subst e12
        refine ih s' ⟨hs'.1, fun x' y' hx' hy' => ?_⟩
        by_cases e : x' = x
        · subst e; exact hs'.2.2 y' hy'
        · exact hs'.2.1 x' y' (by omega) hy'
      · intro n' y s' hy hs' ih'
        have hM' := hs'.1.MI hM
        rw [L_X5_lookAtColumns_12]
        refine if_f (fun q => ?_) ?_
        · rw [hM'.2.1] at q
          exact absurd ((nI_leI (by omega) (by omega)).mp q) (by omega)
        · refine v_highOf hO hM' (by omega) (by omega) ?_
          rw [idx2, nI_clamp (by omega)]
          refine ⟨vp_in_nI (by omega) (by decide), ?_⟩
          intro u6 e6
          have m6 : mS s' u6 := by
            subst e6
            exact ⟨fun _ _ _ => rfl, fun k _ _ _ a _ _ => by simp [va_up, a]⟩
          refine v_findRuns hO (m6.MI hM') (by omega) (by omega) (fun u8 hr hf => ?_)
          refine ⟨vp_in_nI (by omega) (by decide), ?_⟩
          intro u9 e9 y10 e10
          rw [show nI y + (1 : Int32) = nI (y + 1) from nI_1 y] at e10
          subst e10
          have m9 : mS u8 u9 := by
            subst e9
            exact ⟨fun _ _ _ => rfl, fun k _ _ _ _ a _ => by simp [va_up, a]⟩
          have a11 : u9.2 11 = upd (s'.2 11) (8 * x + y) (nI (pcN (c x y))) := by
            have : u9.2 11 = u8.2 11 := by subst e9; simp [va_up]
            rw [this, hr.2 11 (by decide) (by decide), e6]
            simp [va_up]
          have a12 : u9.2 12 = upd (s'.2 12) (8 * x + y) (nI (rcN (c x y))) := by
            have h12 : u8.2 12 = s'.2 12 := by
              rw [hr.2 12 (by decide) (by decide), e6]
              simp [va_up]
            rw [e9, ← h12]
            simp [va_up]
          have keep : ∀ x' y', y' < 8 → (x' ≠ x ∨ y' ≠ y) → lkI c s' x' y' → lkI c u9 x' y' := by
            intro x' y' hy' hne hl
            have hk : 8 * x' + y' ≠ 8 * x + y := by omega
            unfold lkI
            rw [a11, a12, pk_un hk, pk_un hk]
            exact hl
          refine ih' u9 ⟨(hs'.1.tr m6).tr (hr.mS.tr m9), fun x' y' hx' hy' => keep x' y' (by omega) (Or.inl (by omega)) (hs'.2.1 x' y' hx' hy'), fun y' hy' => ?_⟩
          by_cases e : y' = y
          · subst e
            unfold lkI
            rw [a11, a12, pk_us, pk_us]
            exact ⟨rfl, rfl⟩
          · exact keep x y' (by omega) (Or.inr e) (hs'.2.2 y' (by omega))
theorem v_coverOf {W D Z cx cy : Nat} {c : Nat → Nat → Nat} {u : St} (hO : OKs W D Z cx cy c) (hM : MIs W D Z cx cy c u) (hL : ∀ x y, x < W → y < D → lkI c u x y) {p q : Nat} (hp : p < 256) (hq : q < 256) {post : Int32 → Prop} (h : post (nI (covN W D c p q))) : P_X5_coverOf u (nI p) (nI q) post := by
  have hW := hO.1
  have hD := hO.2.1
  show ∃ n, L_X5_coverOf_5 post _ u (nI p) (nI q) n (0 : Int32) (0 : Int32)
  refine loop_0 (σ := Unit) (fun n x _ => L_X5_coverOf_5 post _ u (nI p) (nI q) n (nI (fb_sm (fun x => fb_sm (cvG c p q x) D) x)) (nI x)) (fun _ _ => True) W () trivial ?_ ?_
  · intro n _ _
    rw [L_X5_coverOf_5]
    exact if_t (by rw [hM.1]; exact nI_le (Nat.le_refl _) (by omega)) h
  · intro n x _ hx _ ih
    rw [L_X5_coverOf_5]
    refine if_f (fun z => ?_) ?_
    · rw [hM.1] at z
      exact absurd ((nI_leI (by omega) (by omega)).mp z) (by omega)
    · show ∃ n', L_X5_coverOf_17 post _ u (nI p) (nI q) (nI x) n' (nI (fb_sm (fun x => fb_sm (cvG c p q x) D) x)) (0 : Int32)
      refine loop_0 (σ := Unit) (fun n' y _ => L_X5_coverOf_17 post _ u (nI p) (nI q) (nI x) n' (nI (fb_sm (fun x => fb_sm (cvG c p q x) D) x + fb_sm (cvG c p q x) y)) (nI y)) (fun _ _ => True) D () trivial ?_ ?_
      · intro n' _ _
        rw [L_X5_coverOf_17]
        refine if_t (by rw [hM.2.1]; exact nI_le (Nat.le_refl _) (by omega)) ?_
        intro y13 e13
        rw [show nI x + (1 : Int32) = nI (x + 1) from nI_1 x] at e13
        subst e13
        exact ih () trivial
      · intro n' y _ hy _ ih'
        have ih2 := ih' () trivial
        rw [fb_sm_succ, ← Nat.add_assoc, ← nI_add, ← nI_1] at ih2
        rw [L_X5_coverOf_17]
        refine if_f (fun z => ?_) ?_
        · rw [hM.2.1] at z
          exact absurd ((nI_leI (by omega) (by omega)).mp z) (by omega)
        · rw [idx2, nI_clamp (by omega), (hL x y hx hy).1]
          refine if_i (bit_dec hp (by omega)) (fun t => ?_) (fun t => ?_)
          · refine ⟨vp_in_nI (by omega) (by decide), ?_⟩
            intro y6 e6 y7 e7
            rw [e6, e7]
            rw [show cvG c p q x y = pcN (c x y) from by unfold cvG; rw [t]; rfl] at ih2
            exact ih2
          · refine if_i (bit_dec hq (by omega)) (fun t1 => ?_) (fun t1 => ?_)
            · refine ⟨vp_in_nI (by omega) (by decide), ?_⟩
              intro y6 e6 y7 e7
              rw [e6, e7]
              rw [show cvG c p q x y = pcN (c x y) from by unfold cvG; rw [t1, Bool.or_true]; rfl] at ih2
              exact ih2
            · intro y6 e6 y7 e7
              rw [e6, e7]
              rw [show cvG c p q x y = 0 from by unfold cvG; rw [Bool.eq_false_iff.mpr t, Bool.eq_false_iff.mpr t1]; rfl] at ih2
              exact ih2
theorem v_caughtOf {W D Z cx cy : Nat} {c : Nat → Nat → Nat} {u : St} (hO : OKs W D Z cx cy c) (hM : MIs W D Z cx cy c u) (hL : ∀ x y, x < W → y < D → lkI c u x y) {p q : Nat} (hp : p < 256) (hq : q < 256) {post : Int32 → Prop} (h : post (nI (catN W D c p q))) : P_X5_caughtOf u (nI p) (nI q) post := by
  have hW := hO.1
  have hD := hO.2.1
  show ∃ n, L_X5_caughtOf_5 post _ u (nI p) (nI q) n (0 : Int32) (0 : Int32)
  refine loop_0 (σ := Unit) (fun n x _ => L_X5_caughtOf_5 post _ u (nI p) (nI q) n (nI (fb_sm (fun x => fb_sm (caG c p q x) D) x)) (nI x)) (fun _ _ => True) W () trivial ?_ ?_
  · intro n _ _
    rw [L_X5_caughtOf_5]
    exact if_t (by rw [hM.1]; exact nI_le (Nat.le_refl _) (by omega)) h
  · intro n x _ hx _ ih
    rw [L_X5_caughtOf_5]
    refine if_f (fun z => ?_) ?_
    · rw [hM.1] at z
      exact absurd ((nI_leI (by omega) (by omega)).mp z) (by omega)
    · show ∃ n', L_X5_caughtOf_17 post _ u (nI p) (nI q) (nI x) n' (nI (fb_sm (fun x => fb_sm (caG c p q x) D) x)) (0 : Int32)
      refine loop_0 (σ := Unit) (fun n' y _ => L_X5_caughtOf_17 post _ u (nI p) (nI q) (nI x) n' (nI (fb_sm (fun x => fb_sm (caG c p q x) D) x + fb_sm (caG c p q x) y)) (nI y)) (fun _ _ => True) D () trivial ?_ ?_
      · intro n' _ _
        rw [L_X5_caughtOf_17]
        refine if_t (by rw [hM.2.1]; exact nI_le (Nat.le_refl _) (by omega)) ?_
        intro y13 e13
        rw [show nI x + (1 : Int32) = nI (x + 1) from nI_1 x] at e13
        subst e13
        exact ih () trivial
      · intro n' y _ hy _ ih'
        have ih2 := ih' () trivial
        rw [fb_sm_succ, ← Nat.add_assoc, ← nI_add, ← nI_1] at ih2
        have hrc := (fr_cnt0 ⟨c x y, hO.c8 x y⟩).2
        dsimp only at hrc
        rw [L_X5_caughtOf_17]
        refine if_f (fun z => ?_) ?_
        · rw [hM.2.1] at z
          exact absurd ((nI_leI (by omega) (by omega)).mp z) (by omega)
        · have no : caG c p q x y = 0 → ∀ y_6 : Int32, y_6 = (nI (fb_sm (fun x => fb_sm (caG c p q x) D) x + fb_sm (caG c p q x) y) + (0 : Int32)) → ∀ y_7 : Int32, y_7 = nI y + (1 : Int32) → L_X5_caughtOf_17 post (fun (v3_8 : Int32) => ∀ y_9 : Int32, y_9 = nI x + (1 : Int32) → L_X5_caughtOf_5 post (fun v => post v) u (nI p) (nI q) n v3_8 y_9) u (nI p) (nI q) (nI x) n' y_6 y_7 := by
            intro e y6 e6 y7 e7
            rw [e6, e7]
            rw [e] at ih2
            exact ih2
          rw [idx2, nI_clamp (by omega), (hL x y hx hy).2]
          refine if_i (bit_dec hp (by omega)) (fun t => ?_) (fun t => no (by unfold caG; rw [Bool.eq_false_iff.mpr t]; rfl))
          refine if_i (bit_dec hq (by omega)) (fun t1 => ?_) (fun t1 => no (by unfold caG; rw [Bool.eq_false_iff.mpr t1]; simp))
          refine ⟨vp_in_nI (by omega) (by decide), ?_⟩
          refine if_i (nI_leI (b := 1) (by omega) (by decide)) (fun t2 => no (by unfold caG; rw [decide_eq_false (by omega)]; simp)) (fun t2 => ?_)
          intro y6 e6 y7 e7
          rw [e6, e7]
          rw [show caG c p q x y = 1 from by unfold caG; rw [t, t1, decide_eq_true (by omega)]; rfl] at ih2
          exact ih2
theorem op_cover {ux : St × St} {um : St} (hI : Inv ux um) : P_X4_cover ux (fun r => P_X5_cover um (fun r' um' => r = r' ∧ Inv ux um')) := by
  obtain ⟨W, D, Z, cx, cy, c, hO, hS, hM, hB⟩ := id hI
  unfold P_X4_cover
  refine v_coveredCubes hO hS ?_
  unfold P_X5_cover
  refine v_lookAt hO hM (fun u' hm hl => ?_)
  have hM' := hm.MI hM
  refine ⟨vp_in_nI (n := 0) (N := 2) (by decide) (by decide), vp_in_nI (n := 1) (N := 2) (by decide) (by decide), ?_⟩
  rw [show (0 : Int32).toNatClampNeg = 0 from rfl, show (1 : Int32).toNatClampNeg = 1 from rfl, hM'.2.2.2.1, hM'.2.2.2.2.1]
  exact v_coverOf hO hM' hl hO.x8 hO.y8 ⟨rfl, hm.inv hI⟩
-- all cubes
def cuS (c : Nat → Nat → Nat) (k : Nat) : Nat := pcN (c (k / 8) (k % 8))
theorem v_cubeCount {W D Z cx cy : Nat} {c : Nat → Nat → Nat} {u : St} (hO : OKs W D Z cx cy c) (hS : SIs W D Z cx cy c u) {post : Int32 → Prop} (h : post (nI (fb_sm (cuS c) 64))) : P_X3_cubeCount u post := by
  show ∃ n, L_X3_cubeCount_13 post _ u n (0 : Int32) (0 : Int32)
  refine loop_0 (σ := Unit) (fun n k _ => L_X3_cubeCount_13 post _ u n (nI (fb_sm (cuS c) k)) (nI k)) (fun _ _ => True) 64 () trivial ?_ ?_
  · intro n _ _
    rw [L_X3_cubeCount_13]
    exact if_t (by decide) h
  · intro n k _ hk _ ih
    have ih2 := ih () trivial
    rw [fb_sm_succ, ← nI_add, ← nI_1] at ih2
    rw [L_X3_cubeCount_13]
    refine if_f (fun z => absurd ((nI_leI (a := 64) (by decide) (by omega)).mp z) (by omega)) ⟨vp_in_nI hk (by decide), ?_⟩
    intro y3 e3
    have e : u.2 0 k = nI (c (k / 8) (k % 8)) := by
      have := hS.2.2.2.2.2 (k / 8) (k % 8) (by omega) (by omega)
      rw [show 8 * (k / 8) + k % 8 = k from by omega] at this
      exact this
    rw [nI_clamp (by omega), e] at e3
    subst e3
    refine v_bitCount (hO.c8 _ _) ?_
    intro y5 e5 y6 e6
    rw [e5, e6]
    exact ih2
def cuB (c : Nat → Nat → Nat) (k : Nat) : Bool := (c (k / 64) (k / 8 % 8)).testBit (k % 8)
theorem cu_eq (c : Nat → Nat → Nat) : ∀ j, fa_cnt (cuB c) (8 * j) = fb_sm (cuS c) j
  | 0 => rfl
  | j + 1 => by
    rw [fb_sm_succ, ← cu_eq c j]
    have key : ∀ z, z ≤ 8 → fa_cnt (cuB c) (8 * j + z) = fa_cnt (cuB c) (8 * j) + fa_cnt (fun z => (c (j / 8) (j % 8)).testBit z) z := by
      intro z
      induction z with
      | zero => intro _; rfl
      | succ z ih =>
        intro hz
        show fa_cnt (cuB c) (8 * j + z + 1) = _
        rw [fa_cnt, ih (by omega), fa_cnt]
        have : cuB c (8 * j + z) = (c (j / 8) (j % 8)).testBit z := by
          unfold cuB
          rw [show (8 * j + z) / 64 = j / 8 from by omega, show (8 * j + z) / 8 % 8 = j % 8 from by omega, show (8 * j + z) % 8 = z from by omega]
        rw [this, Nat.add_assoc]
    have := key 8 (Nat.le_refl 8)
    rw [show 8 * (j + 1) = 8 * j + 8 from by omega, this]
    rfl
