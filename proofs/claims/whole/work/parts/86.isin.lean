/-! what a rib loses; figure -/
def runIn (r : Nat × (Nat → Nat) × (Nat → Nat)) (k z : Nat) : Bool := decide (r.2.1 k ≤ z) && decide (z < r.2.1 k + r.2.2 k)
def loseK (r : Nat × (Nat → Nat) × (Nat → Nat)) (b z : Nat) : Bool :=
  (List.range 4).any (fun k => decide (k < r.1) && (runIn r k z && ((List.range k).all (fun j => !runIn r j z) && (decide (r.2.1 k + r.2.2 k - r.2.2 k / 2 ≤ z) == (upN b).testBit z))))
def loseA (r : Nat × (Nat → Nat) × (Nat → Nat)) (b : Nat) : Bool := (List.range 8).all (fun z => !b.testBit z || loseK r b z) && (List.range 4).all (fun k => decide (r.2.1 k < 8) && decide (r.2.2 k ≤ 8) && (decide (r.1 ≤ k) || decide (0 < r.2.2 k)))
set_option maxRecDepth 100000 in
theorem lose_dec0 : ∀ b : Fin 256, loseA (frS b.val 8) b.val = true := by decide +kernel
theorem lose_k {b z : Nat} (hb : b < 256) (hz : z < 8) (hbit : b.testBit z = true) : ∃ k, k < 4 ∧ k < (frS b 8).1 ∧ runIn (frS b 8) k z = true ∧ (∀ j, j < k → runIn (frS b 8) j z = false) ∧ decide ((frS b 8).2.1 k + (frS b 8).2.2 k - (frS b 8).2.2 k / 2 ≤ z) = (upN b).testBit z := by
  have h := lose_dec0 ⟨b, hb⟩
  dsimp only at h
  unfold loseA at h
  have h1 := ((Bool.and_eq_true _ _).mp h).1
  have h2 := List.all_eq_true.mp h1 z (List.mem_range.mpr hz)
  rw [hbit, Bool.not_true, Bool.false_or] at h2
  obtain ⟨k, hk, h3⟩ := List.any_eq_true.mp h2
  simp only [Bool.and_eq_true, decide_eq_true_eq, List.all_eq_true, List.mem_range, Bool.not_eq_true', beq_iff_eq] at h3
  exact ⟨k, List.mem_range.mp hk, h3.1, h3.2.1, h3.2.2.1, h3.2.2.2⟩
theorem lose_b {b k : Nat} (hb : b < 256) (hk : k < 4) : (frS b 8).2.1 k < 8 ∧ (frS b 8).2.2 k ≤ 8 ∧ (k < (frS b 8).1 → 0 < (frS b 8).2.2 k) := by
  have h := lose_dec0 ⟨b, hb⟩
  dsimp only at h
  unfold loseA at h
  have h1 := ((Bool.and_eq_true _ _).mp h).2
  have h2 := List.all_eq_true.mp h1 k (List.mem_range.mpr hk)
  simp only [Bool.and_eq_true, Bool.or_eq_true, decide_eq_true_eq] at h2
  exact ⟨h2.1.1, h2.1.2, fun q => by omega⟩
section LOS
variable {W D Z cx cy : Nat} {c : Nat → Nat → Nat} {u : St}
/-- what a rib loses at u, z, of a bit that is there -/
def losB (cx cy : Nat) (c : Nat → Nat → Nat) (ax pl v z : Nat) : Bool := ((chN cx cy ax).testBit pl && (chN cx cy (1 - ax)).testBit v) && (if ax = 0 then (upN (rcl c ax pl v)).testBit z else !(upN (rcl c ax pl v)).testBit z)
theorem v_loses (hO : OKs W D Z cx cy c) (hM : MIs W D Z cx cy c u) {ax pl v z : Nat} (ha : ax < 2) (hp : pl < 8) (hv : v < 8) (hz : z < 8) (hbit : (rcl c ax pl v).testBit z = true) {post : Int32 → St → Prop} (h : ∀ u', mR u u' → post (bI (losB cx cy c ax pl v z)) u') : P_X5_loses u (nI ax) (nI pl) (nI v) (nI z) post := by
  have h8 := rcl_8 hO ax pl v
  unfold P_X5_loses
  refine v_isChosenM hO hM ha hp ?_
  refine if_bI (fun t => ?_) (fun t => ?_)
  · rw [one_sub ha]
    refine v_isChosenM hO hM (by omega) hv ?_
    refine if_bI (fun t1 => ?_) (fun t1 => ?_)
    · have tail : ∀ u', mR u u' → frI (rcl c ax pl v) 8 u' → ∃ n, L_X5_loses_46 post (post (0 : Int32) u') (nI ax) (nI z) (nI (rcN (rcl c ax pl v))) u' n (0 : Int32) := by
        intro u' hr hf
        have hcnt := fr_cnt0 ⟨rcl c ax pl v, h8⟩
        dsimp only at hcnt
        obtain ⟨k, k4, kn, kin, kno, kup⟩ := lose_k h8 hz hbit
        have key := up_loop (fun n (x : Int32) => L_X5_loses_46 post (post (0 : Int32) u') (nI ax) (nI z) (nI (rcN (rcl c ax pl v))) u' n x) (fun j => nI j) k ?_ ?_
        · exact key
        · intro n j hj ih
          show L_X5_loses_46 post (post (0 : Int32) u') (nI ax) (nI z) (nI (rcN (rcl c ax pl v))) u' (n + 1) (nI j)
          have hfj := hf j (by omega)
          have hbj := lose_b h8 (show j < 4 from by omega)
          have hin := kno j hj
          rw [L_X5_loses_46]
          refine if_f (fun q => absurd ((nI_leI (by omega) (by omega)).mp q) (by omega)) ?_
          rw [nI_clamp (by omega), hfj.1, hfj.2, nI_add]
          refine ⟨vp_in_nI (by omega) (by decide), vp_in_nI (by omega) (by decide), vp_in_nI (by omega) (by decide), ?_⟩
          refine v_in ?_
          rw [i64, i64, i64, nI_m1 (by omega), nI_toInt (by omega), nI_toInt (by omega)]
          have e : decide (((frS (rcl c ax pl v) 8).2.1 j : Int) ≤ (z : Int) ∧ (z : Int) ≤ (((frS (rcl c ax pl v) 8).2.1 j + (frS (rcl c ax pl v) 8).2.2 j : Nat) : Int) - 1) = false := by
            apply decide_eq_false
            unfold runIn at hin
            intro w
            have : (decide ((frS (rcl c ax pl v) 8).2.1 j ≤ z) && decide (z < (frS (rcl c ax pl v) 8).2.1 j + (frS (rcl c ax pl v) 8).2.2 j)) = true := by
              rw [decide_eq_true (show (frS (rcl c ax pl v) 8).2.1 j ≤ z from by omega), decide_eq_true (show z < (frS (rcl c ax pl v) 8).2.1 j + (frS (rcl c ax pl v) 8).2.2 j from by omega)]; rfl
            rw [this] at hin
            cases hin
          rw [e]
          refine if_t rfl ?_
          intro y11 e11
          rw [show nI j + (1 : Int32) = nI (j + 1) from nI_1 j] at e11
          subst e11
          exact ih
        · intro n
          show L_X5_loses_46 post (post (0 : Int32) u') (nI ax) (nI z) (nI (rcN (rcl c ax pl v))) u' (n + 1) (nI k)
          have hfj := hf k kn
          have hbj := lose_b h8 k4
          rw [L_X5_loses_46]
          refine if_f (fun q => absurd ((nI_leI (by omega) (by omega)).mp q) (by omega)) ?_
          rw [nI_clamp (by omega), hfj.1, hfj.2, nI_add, div2 (by omega), pk_sub (by omega)]
          refine ⟨vp_in_nI (by omega) (by decide), vp_in_nI (by omega) (by decide), vp_in_nI (by omega) (by decide), ?_⟩
          refine v_in ?_
          rw [i64, i64, i64, nI_m1 (by omega), nI_toInt (by omega), nI_toInt (by omega)]
          have e : decide (((frS (rcl c ax pl v) 8).2.1 k : Int) ≤ (z : Int) ∧ (z : Int) ≤ (((frS (rcl c ax pl v) 8).2.1 k + (frS (rcl c ax pl v) 8).2.2 k : Nat) : Int) - 1) = true := by
            apply decide_eq_true
            unfold runIn at kin
            simp only [Bool.and_eq_true, decide_eq_true_eq] at kin
            omega
          rw [e]
          refine if_f (by decide) ?_
          refine ⟨vp_in_nI (by omega) (by decide), vp_in_nI (by omega) (by decide), vp_in_nI (by omega) (by decide), ?_⟩
          have last : ∀ up : Bool, up = (upN (rcl c ax pl v)).testBit z → (if nI ax = 0 then (narrow .boolean (.int (bI up)) = .int (bI up) ∧ post (bI up) u') else (if bI up = 0 then (post (1 : Int32) u') else (post (0 : Int32) u'))) := by
            intro up eup
            have hl := h u' hr
            unfold losB at hl
            rw [t, t1, ← eup] at hl
            refine if_i (nI_eq (a := ax) (b := 0) (by omega) (by decide)) (fun q => ?_) (fun q => ?_)
            · rw [if_pos q] at hl
              exact ⟨bI_nar _, hl⟩
            · rw [if_neg q] at hl
              refine if_bI (fun w => ?_) (fun w => ?_)
              · rw [w] at hl; exact hl
              · rw [w] at hl; exact hl
          refine if_i (nI_ltI (by omega) (by omega)) (fun q => ?_) (fun q => ?_)
          · exact last false (by rw [← kup]; exact (decide_eq_false (by omega)).symm)
          · exact last true (by rw [← kup]; exact (decide_eq_true (by omega)).symm)
      refine if_i (nI_eq (a := ax) (b := 0) (by omega) (by decide)) (fun q => ?_) (fun q => ?_)
      · have e : rcl c ax pl v = c pl v := by unfold rcl; rw [if_pos q]
        rw [e] at tail
        exact v_findRuns hO hM hp hv (fun u' hr hf => tail u' hr hf)
      · have e : rcl c ax pl v = c v pl := by unfold rcl; rw [if_neg q]
        rw [e] at tail
        exact v_findRuns hO hM hv hp (fun u' hr hf => tail u' hr hf)
    · have hl := h u mR.rf
      unfold losB at hl
      rw [t1, Bool.and_false, Bool.false_and] at hl
      exact hl
  · have hl := h u mR.rf
    unfold losB at hl
    rw [t, Bool.false_and, Bool.false_and] at hl
    exact hl
/-- a bit of the figure or the cut -/
def figC (cx cy : Nat) (c : Nat → Nat → Nat) (cut : Bool) (ax pl v : Nat) : Nat := if cut then ctl cx cy c ax pl v else rcl c ax pl v
theorem ctl_bit (hO : OKs W D Z cx cy c) {ax pl v z : Nat} (hz : z < 8) : (ctl cx cy c ax pl v).testBit z = ((rcl c ax pl v).testBit z && !losB cx cy c ax pl v z) := by
  have h8 := rcl_8 hO ax pl v
  have hup := (up_dec0 ⟨_, h8⟩).2
  dsimp only at hup
  have hu : (upN (rcl c ax pl v)).testBit z = ((upN (rcl c ax pl v)).testBit z && (rcl c ax pl v).testBit z) := by rw [← Nat.testBit_and, hup]
  have ecr : (crN cx cy ax pl).testBit v = ((chN cx cy ax).testBit pl && (chN cx cy (1 - ax)).testBit v) := by
    unfold crN
    cases (chN cx cy ax).testBit pl <;> simp
  unfold ctl losB
  rw [← ecr]
  cases (crN cx cy ax pl).testBit v with
  | false => simp
  | true =>
    simp only [if_true, Bool.true_and]
    by_cases q : ax = 0
    · rw [if_pos q, if_pos q, Nat.testBit_and, tb255L hz]
    · rw [if_neg q, if_neg q, Bool.not_not, Bool.and_comm]
      exact hu
theorem figC_8 (hO : OKs W D Z cx cy c) (cut : Bool) (ax pl v : Nat) : figC cx cy c cut ax pl v < 256 := by
  unfold figC
  split
  · exact ctl_8 hO ax pl v
  · exact rcl_8 hO ax pl v
theorem v_isIn (hO : OKs W D Z cx cy c) (hM : MIs W D Z cx cy c u) {ax pl v z : Nat} (ha : ax < 2) (hp : pl < 8) (hv : v < 8) (hz : z < 8) (cut : Bool) {post : Int32 → St → Prop} (h : ∀ u', mR u u' → post (bI ((figC cx cy c cut ax pl v).testBit z)) u') : P_X5_isIn u (nI ax) (nI pl) (nI v) (nI z) (bI cut) post := by
  unfold P_X5_isIn
  refine v_hasIn hM ha hp hv hz ?_
  refine if_bI (fun t => ?_) (fun t => ?_)
  · refine if_bI (b := cut) (fun q => ?_) (fun q => ?_)
    · refine v_loses hO hM ha hp hv hz t (fun u' hr => ?_)
      have hl := h u' hr
      unfold figC at hl
      rw [q, if_pos rfl, ctl_bit hO hz, t, Bool.true_and] at hl
      refine if_bI (fun w => ?_) (fun w => ?_)
      · rw [w] at hl; exact hl
      · rw [w] at hl; exact hl
    · have hl := h u mR.rf
      unfold figC at hl
      rw [q, if_neg (by decide), t] at hl
      exact hl
  · have hl := h u mR.rf
    unfold figC at hl
    cases cut with
    | false => rw [if_neg (by decide), t] at hl; exact hl
    | true => rw [if_pos rfl, ctl_bit hO hz, t, Bool.false_and] at hl; exact hl
theorem op_figure {ux : St × St} {um : St} (hI : Inv ux um) (a p v z : Int32) (cut : Bool) : P_X4_figure ux a p v z (bI cut) (fun r => P_X5_figure um a p v z (bI cut) (fun r' um' => r = r' ∧ Inv ux um')) := by
  obtain ⟨W, D, Z, cx, cy, c, hO, hS, hM, hB⟩ := id hI
  have hZ := hO.2.2.1
  -- the reference, told by its tests
  have mod : ∀ r : Int32, ((ribB W D a p = false ∨ (∃ ax, ax < 2 ∧ a = nI ax ∧ inN v (rbN W D (1 - ax)) = false) ∨ inN z Z = false) → r = -1) → (∀ ax pl vv zz, ax < 2 → pl < rbN W D ax → vv < rbN W D (1 - ax) → zz < Z → a = nI ax → p = nI pl → v = nI vv → z = nI zz → r = bI ((figC cx cy c cut ax pl vv).testBit zz)) → P_X5_figure um a p v z (bI cut) (fun r' um' => r = r' ∧ Inv ux um') := by
    intro r h0 h1
    unfold P_X5_figure
    refine v_isRib hO hM ?_
    refine if_bI (fun q => ?_) (fun q => ⟨h0 (Or.inl q), hI⟩)
    obtain ⟨ax, pl, hax, hpl, rfl, rfl⟩ := ribB_t hO q
    have hr1 := rb_bd hO ax
    have hr2 := rb_bd hO (1 - ax)
    rw [one_sub hax]
    refine v_places hM (by omega) ?_
    refine v_inN hr2.1 (by omega) ?_
    refine if_bI (fun q2 => ?_) (fun q2 => ⟨h0 (Or.inr (Or.inl ⟨ax, hax, rfl, q2⟩)), hI⟩)
    rw [hM.2.2.1]
    refine v_inN hZ.1 (by omega) ?_
    refine if_bI (fun q3 => ?_) (fun q3 => ⟨h0 (Or.inr (Or.inr q3)), hI⟩)
    obtain ⟨vv, hvv, rfl⟩ := inN_t (by omega) q2
    obtain ⟨zz, hzz, rfl⟩ := inN_t (by omega) q3
    refine v_isIn hO hM hax (by omega) (by omega) (by omega) cut (fun u' hr => ?_)
    have e := h1 ax pl vv zz hax hpl hvv hzz rfl rfl rfl rfl
    refine if_bI (fun w => ⟨?_, hr.mS.inv hI⟩) (fun w => ⟨?_, hr.mS.inv hI⟩)
    · rw [e, w]; rfl
    · rw [e, w]; rfl
  unfold P_X4_figure
  refine v_hasRib hO hS ?_
  refine if_bI (fun q => ?_) (fun q => mod _ (fun _ => rfl) (fun ax pl vv zz h1 h2 h3 h4 e1 e2 e3 e4 => ?_))
  · obtain ⟨ax, pl, hax, hpl, rfl, rfl⟩ := ribB_t hO q
    have hr1 := rb_bd hO ax
    have hr2 := rb_bd hO (1 - ax)
    rw [one_sub hax]
    have erib : ribB W D (nI (1 - ax)) v = inN v (rbN W D (1 - ax)) := by
      rcases (show ax = 0 ∨ ax = 1 by omega) with w | w
      · subst w; simp [ribB, rbN, nI]
      · subst w; simp [ribB, rbN, nI]
    refine v_hasRib hO hS ?_
    rw [erib]
    refine if_bI (fun q2 => ?_) (fun q2 => mod _ (fun _ => rfl) (fun ax' pl' vv zz h1 h2 h3 h4 e1 e2 e3 e4 => ?_))
    · refine v_hasLayer hO hS ?_
      refine if_bI (fun q3 => ?_) (fun q3 => mod _ (fun _ => rfl) (fun ax' pl' vv zz h1 h2 h3 h4 e1 e2 e3 e4 => ?_))
      · obtain ⟨vv, hvv, rfl⟩ := inN_t (by omega) q2
        obtain ⟨zz, hzz, rfl⟩ := inN_t (by omega) q3
        have tail : ∀ f : Nat → Nat, (∀ v, f v < 256) → (∀ v, f v = figC cx cy c cut ax pl v) → P_X2_columnAt (lN (fgA f 8)) (nI vv) (fun r_7 : Int32 => P_X1_hasBit r_7 (nI zz) (fun r_8 : Int32 => P_X4_asNumber r_8 (fun r_9 : Int32 => P_X5_figure um (nI ax) (nI pl) (nI vv) (nI zz) (bI cut) (fun r' um' => r_9 = r' ∧ Inv ux um')))) := by
          intro f hf ef
          refine v_columnAt64 (fgA_lt hf 8) (by omega) ?_
          rw [fg_col hf (by omega)]
          refine v_hasBit (hf vv) (by omega) ?_
          refine v_asNumber ?_
          refine mod _ (fun w => ?_) (fun ax' pl' vv' zz' h1 h2 h3 h4 e1 e2 e3 e4 => ?_)
          · rcases w with w | ⟨ax', hax', e', w⟩ | w
            · rw [q] at w; cases w
            · have : ax' = ax := (nI_eq (by omega) (by omega)).mp e'.symm
              subst this
              rw [q2] at w; cases w
            · rw [q3] at w; cases w
          · have hr3 := rb_bd hO ax'
            have hr4 := rb_bd hO (1 - ax')
            have w1 : ax = ax' := (nI_eq (by omega) (by omega)).mp e1
            have w2 : pl = pl' := (nI_eq (by omega) (by omega)).mp e2
            have w3 : vv = vv' := (nI_eq (by omega) (by omega)).mp e3
            have w4 : zz = zz' := (nI_eq (by omega) (by omega)).mp e4
            rw [← w1, ← w2, ← w3, ← w4, ef]
        refine if_bI (b := cut) (fun qc => ?_) (fun qc => ?_)
        · refine v_cutOf hO hS hax (by omega) ?_
          exact tail _ (ctl_8 hO ax pl) (fun v => by unfold figC; rw [qc]; rfl)
        · refine v_figureOf hO hS hax (by omega) ?_
          exact tail _ (rcl_8 hO ax pl) (fun v => by unfold figC; rw [qc]; rfl)
      · subst e4
        rw [inN_nI (by omega), decide_eq_true h4] at q3; cases q3
    · have : ax = ax' := (nI_eq (by omega) (by omega)).mp e1
      subst this
      subst e3
      have hr4 := rb_bd hO (1 - ax)
      rw [inN_nI (by omega), decide_eq_true h3] at q2; cases q2
  · have hr3 := rb_bd hO ax
    subst e1 e2
    have : ribB W D (nI ax) (nI pl) = inN (nI pl) (rbN W D ax) := by
      rcases (show ax = 0 ∨ ax = 1 by omega) with w | w
      · subst w; simp [ribB, rbN, nI]
      · subst w; simp [ribB, rbN, nI]
    rw [this, inN_nI (by omega), decide_eq_true h2] at q; cases q
end LOS
