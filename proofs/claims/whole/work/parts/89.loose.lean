/-! loose parts, crossings, spans -/
section LSE
variable {W D Z cx cy : Nat} {c : Nat → Nat → Nat} {u : St}
def crF (cx cy ax pl v : Nat) : Nat := if (crN cx cy ax pl).testBit v then 255 else 0
theorem crF_8 (cx cy ax pl v : Nat) : crF cx cy ax pl v < 256 := by
  unfold crF
  split <;> decide
theorem cr_bd (hO : OKs W D Z cx cy c) {ax pl v : Nat} (h : (crN cx cy ax pl).testBit v = true) : v < rbN W D (1 - ax) := by
  rcases Nat.lt_or_ge v (rbN W D (1 - ax)) with q | q
  · exact q
  · have : (crN cx cy ax pl).testBit v = false := by
      unfold crN
      split
      · exact Nat.testBit_lt_two_pow (Nat.lt_of_lt_of_le (ch_lt hO (1 - ax)) (Nat.pow_le_pow_right (by decide) q))
      · exact Nat.zero_testBit v
    rw [this] at h; cases h
theorem crF_0 (hO : OKs W D Z cx cy c) {ax pl v : Nat} (h : rbN W D (1 - ax) ≤ v) : crF cx cy ax pl v = 0 := by
  unfold crF
  rw [if_neg (fun w => absurd (cr_bd hO w) (by omega))]
theorem figC_t (cx cy : Nat) (c : Nat → Nat → Nat) (ax pl : Nat) : figC cx cy c true ax pl = ctl cx cy c ax pl := by
  funext v; unfold figC; rw [if_pos rfl]
theorem figC_f (cx cy : Nat) (c : Nat → Nat → Nat) (ax pl : Nat) : figC cx cy c false ax pl = rcl c ax pl := by
  funext v; unfold figC; rw [if_neg (by decide)]
noncomputable def lsN (cx cy : Nat) (c : Nat → Nat → Nat) (ax pl : Nat) : Nat := fa_cnt (clB (gF cx cy c true ax pl) (fgA (crF cx cy ax pl) 8)) 64
theorem v_loosePartsOf (hO : OKs W D Z cx cy c) (hS : SIs W D Z cx cy c u) {ax pl : Nat} (ha : ax < 2) (hp : pl < 8) {post : Int32 → Prop} (h : post (nI (lsN cx cy c ax pl))) : P_X3_loosePartsOf u (nI ax) (nI pl) post := by
  have hb := rb_bd hO (1 - ax)
  unfold P_X3_loosePartsOf
  refine v_crossingsOf hO hS ha (by omega) ?_
  have fin : P_X3_cutOf u (nI ax) (nI pl) (fun r_11 : Int64 => P_X2_partsClearOf r_11 (lN (fgA (crF cx cy ax pl) 8)) (fun r_12 : Int32 => post r_12)) := by
    refine v_cutOf hO hS ha hp ?_
    refine v_partsClearOf (fgA_lt (ctl_8 hO ax pl) 8) (fgA_lt (crF_8 cx cy ax pl) 8) ?_
    unfold lsN at h
    have e : gF cx cy c true ax pl = fun k => (fgA (ctl cx cy c ax pl) 8).testBit k := by
      funext k; unfold gF; rw [figC_t]
    rw [e] at h
    exact h
  show ∃ n, L_X3_loosePartsOf_13 post (fun (v4_10 : Int64) => P_X3_cutOf u (nI ax) (nI pl) (fun r_11 : Int64 => P_X2_partsClearOf r_11 v4_10 (fun r_12 : Int32 => post r_12))) u (nI ax) (nI (crN cx cy ax pl)) n (0 : Int64) (0 : Int32)
  refine loop_0 (σ := Unit) (fun n v _ => L_X3_loosePartsOf_13 post (fun (v4_10 : Int64) => P_X3_cutOf u (nI ax) (nI pl) (fun r_11 : Int64 => P_X2_partsClearOf r_11 v4_10 (fun r_12 : Int32 => post r_12))) u (nI ax) (nI (crN cx cy ax pl)) n (lN (fgA (crF cx cy ax pl) v)) (nI v)) (fun _ _ => True) (rbN W D (1 - ax)) () trivial ?_ ?_
  · intro n _ _
    rw [L_X3_loosePartsOf_13, one_sub ha]
    refine v_ribCount hS (by omega) ?_
    refine if_t (nI_le (Nat.le_refl _) (by omega)) ?_
    have := fgA_hi (f := crF cx cy ax pl) (a := rbN W D (1 - ax)) (8 - rbN W D (1 - ax)) (fun v h1 _ => crF_0 hO h1)
    rw [show rbN W D (1 - ax) + (8 - rbN W D (1 - ax)) = 8 from by omega] at this
    rw [← this]
    exact fin
  · intro n v _ hv _ ih
    rw [L_X3_loosePartsOf_13, one_sub ha]
    refine v_ribCount hS (by omega) ?_
    refine if_f (fun q => absurd ((nI_leI (by omega) (by omega)).mp q) (by omega)) ?_
    refine v_hasBit (cr_8 hO ax pl) (by omega) ?_
    have e : fgA (crF cx cy ax pl) (v + 1) = fgA (crF cx cy ax pl) v ||| (crF cx cy ax pl v * 2 ^ (8 * v)) := rfl
    have ih := ih () trivial
    rw [e] at ih
    unfold crF at ih
    refine if_bI (fun t => ?_) (fun t => ?_)
    · refine v_shifted (b := 255) (by decide) (by omega) ?_
      intro y7 e7 y9 e9
      rw [show nI v + (1 : Int32) = nI (v + 1) from nI_1 v] at e9
      rw [fb_orL] at e7
      rw [if_pos t] at ih
      subst e7 e9
      exact ih
    · intro y9 e9
      rw [show nI v + (1 : Int32) = nI (v + 1) from nI_1 v] at e9
      rw [if_neg (by rw [t]; decide), Nat.zero_mul, Nat.or_zero] at ih
      subst e9
      exact ih
theorem O_bit (hO : OKs W D Z cx cy c) {ax pl k : Nat} (hk : k < 64) : (fgA (crF cx cy ax pl) 8).testBit k = ((chN cx cy ax).testBit pl && (chN cx cy (1 - ax)).testBit (k / 8)) := by
  rw [fgA_bit (crF_8 cx cy ax pl), decide_eq_true (show k / 8 < 8 by omega), Bool.true_and]
  have h255 : ∀ z, z < 8 → (255 : Nat).testBit z = true := by decide
  have e : (crN cx cy ax pl).testBit (k / 8) = ((chN cx cy ax).testBit pl && (chN cx cy (1 - ax)).testBit (k / 8)) := by
    unfold crN
    split
    · rename_i w; rw [w, Bool.true_and]
    · rename_i w; rw [Bool.eq_false_iff.mpr w, Bool.false_and, Nat.zero_testBit]
  rw [← e]
  unfold crF
  split
  · rename_i w; rw [w, h255 _ (Nat.mod_lt _ (by decide))]
  · rename_i w; rw [Bool.eq_false_iff.mpr w, Nat.zero_testBit]
theorem v_looseOf (hO : OKs W D Z cx cy c) (hM : MIs W D Z cx cy c u) {ax pl : Nat} (ha : ax < 2) (hp : pl < 8) {post : Int32 → St → Prop} (h : ∀ u', mS u u' → post (nI (lsN cx cy c ax pl)) u') : P_X5_looseOf u (nI ax) (nI pl) post := by
  unfold P_X5_looseOf
  refine v_findParts hO hM ha hp true (fun s p ms _ _ hL hI hS => ?_)
  have hM' := ms.MI hM
  have hg : ∀ k, gF cx cy c true ax pl k = true → k < 64 := fun k hk => gF_64 hO hk
  show ∃ n, L_X5_looseOf_12 post (fun (v3_16 : Int32) => post v3_16 s) (nI ax) (nI pl) s n (0 : Int32) (0 : Int32)
  refine loop_0 (σ := Unit) (fun n k _ => L_X5_looseOf_12 post (fun (v3_16 : Int32) => post v3_16 s) (nI ax) (nI pl) s n (nI (fa_cnt (clB (gF cx cy c true ax pl) (fgA (crF cx cy ax pl) 8)) k)) (nI k)) (fun _ _ => True) 64 () trivial ?_ ?_
  · intro n _ _
    rw [L_X5_looseOf_12]
    refine if_t (by decide) ?_
    exact h s ms
  · intro n k _ hk _ ih
    have ih := ih () trivial
    rw [L_X5_looseOf_12]
    refine if_f (fun w => absurd ((nI_leI (a := 64) (by decide) (by omega)).mp w) (by omega)) ?_
    refine ⟨vp_in_nI hk (by decide), ?_⟩
    have bp := hI.le hk
    rw [nI_clamp (show k < 2 ^ 31 by omega), hL k hk, show nI k + (1 : Int32) = nI (k + 1) from nI_1 k]
    refine if_i (nI_eq (by omega) (by omega)) (fun q => ?_) (fun q => ?_)
    · -- a root: is it held?
      have hroot := (sett_root hg hI hS hk).mp q
      have key := loop_0 (σ := Unit) (fun n' j _ => L_X5_looseOf_39 post (fun (v5_11 : Int32) => jn1 (fun (w_12 : Int32) => ∀ y_13 : Int32, y_13 = (nI (fa_cnt (clB (gF cx cy c true ax pl) (fgA (crF cx cy ax pl) 8)) k) + w_12) → ∀ y_15 : Int32, y_15 = nI (k + 1) → L_X5_looseOf_12 post (fun (v3_16 : Int32) => post v3_16 s) (nI ax) (nI pl) s n y_13 y_15) (fun J_113 => if v5_11 = 0 then (J_113 (1 : Int32)) else (J_113 (0 : Int32)))) (nI ax) (nI pl) s (nI k) n' (bI (prB (∃ b, b < j ∧ p b = k + 1 ∧ (fgA (crF cx cy ax pl) 8).testBit b = true))) (nI j)) (fun _ _ => True) 64 () trivial ?_ ?_
      · have e0 : prB (∃ b, b < 0 ∧ p b = k + 1 ∧ (fgA (crF cx cy ax pl) 8).testBit b = true) = false := prB_f (fun ⟨b, w, _⟩ => Nat.not_lt_zero b w)
        rw [e0] at key
        exact key
      · intro n' _ _
        rw [L_X5_looseOf_39]
        refine if_t (by decide) ?_
        refine ifJ ?_
        intro y13 e13 y15 e15
        subst e15
        have e : y13 = nI (fa_cnt (clB (gF cx cy c true ax pl) (fgA (crF cx cy ax pl) 8)) (k + 1)) := by
          rw [e13]
          cases eh : prB (∃ b, b < 64 ∧ p b = k + 1 ∧ (fgA (crF cx cy ax pl) 8).testBit b = true) with
          | true =>
            obtain ⟨b, b1, b2, b3⟩ := of_prB eh
            rw [fa_cnt_no, if_pos rfl]
            · exact nI_add _ 0
            · unfold clB
              rw [prB_f (p := ∀ c_1, Cn (gF cx cy c true ax pl) k c_1 → (fgA (crF cx cy ax pl) 8).testBit c_1 = false) (fun w => ?_), Bool.and_false]
              have := w b ((sett_of hg hI hS hk q b1).mp b2)
              rw [this] at b3; cases b3
          | false =>
            rw [fa_cnt_yes, if_neg (by decide)]
            · exact nI_1 _
            · unfold clB
              rw [prB_t hroot, Bool.true_and]
              refine prB_t (fun b hb => ?_)
              cases eb : (fgA (crF cx cy ax pl) 8).testBit b with
              | false => rfl
              | true =>
                have hb64 := hg b (sett_c hg hI hS hroot.1 hb).2
                rw [prB_t ⟨b, hb64, (sett_of hg hI hS hk q hb64).mpr hb, eb⟩] at eh; cases eh
        subst e
        exact ih
      · intro n' j _ hj _ ih'
        have ih' := ih' () trivial
        rw [L_X5_looseOf_39]
        refine if_f (fun w => absurd ((nI_leI (a := 64) (by decide) (by omega)).mp w) (by omega)) ?_
        have bj := hI.le hj
        rw [show nI j + (1 : Int32) = nI (j + 1) from nI_1 j, show nI j / (8 : Int32) = nI (j / 8) from pk_div (d := 8) (by omega) (by decide) (by decide), nI_clamp (show j < 2 ^ 31 by omega), hL j hj, show nI k + (1 : Int32) = nI (k + 1) from nI_1 k, one_sub ha]
        have nxt : ∀ w : Int32, w = bI (prB (∃ b, b < j + 1 ∧ p b = k + 1 ∧ (fgA (crF cx cy ax pl) 8).testBit b = true)) → ∀ y_10 : Int32, y_10 = nI (j + 1) → L_X5_looseOf_39 post (fun (v5_11 : Int32) => jn1 (fun (w_12 : Int32) => ∀ y_13 : Int32, y_13 = (nI (fa_cnt (clB (gF cx cy c true ax pl) (fgA (crF cx cy ax pl) 8)) k) + w_12) → ∀ y_15 : Int32, y_15 = nI (k + 1) → L_X5_looseOf_12 post (fun (v3_16 : Int32) => post v3_16 s) (nI ax) (nI pl) s n y_13 y_15) (fun J_113 => if v5_11 = 0 then (J_113 (1 : Int32)) else (J_113 (0 : Int32)))) (nI ax) (nI pl) s (nI k) n' w y_10 := by
          intro w ew y ey
          subst ew ey
          exact ih'
        refine if_bI (fun t => ?_) (fun t => ?_)
        · refine nxt 1 ?_
          obtain ⟨b, b1, b2⟩ := of_prB t
          rw [prB_t ⟨b, Nat.lt_succ_of_lt b1, b2⟩]; rfl
        · refine ⟨vp_in_nI hj (by decide), ?_⟩
          have no : ¬ (p j = k + 1 ∧ (fgA (crF cx cy ax pl) 8).testBit j = true) → (0 : Int32) = bI (prB (∃ b, b < j + 1 ∧ p b = k + 1 ∧ (fgA (crF cx cy ax pl) 8).testBit b = true)) := by
            intro hn
            rw [prB_f (fun w => ?_)]
            · rfl
            · obtain ⟨b, b1, b2⟩ := w
              by_cases e : b = j
              · subst e; exact hn b2
              · rw [prB_t ⟨b, by omega, b2⟩] at t; cases t
          refine if_i (nI_eq (by omega) (by omega)) (fun q2 => ?_) (fun q2 => ?_)
          · refine v_isChosenM hO hM' ha hp ?_
            refine if_bI (fun t1 => ?_) (fun t1 => ?_)
            · refine v_isChosenM hO hM' (by omega) (by omega) ?_
              refine if_bI (fun t2 => ?_) (fun t2 => ?_)
              · refine nxt 1 ?_
                rw [prB_t ⟨j, Nat.lt_succ_self j, q2, by rw [O_bit hO hj, t1, t2]; rfl⟩]; rfl
              · exact nxt 0 (no (fun w => by rw [O_bit hO hj, t1, t2] at w; cases w.2))
            · exact nxt 0 (no (fun w => by rw [O_bit hO hj, t1] at w; cases w.2))
          · exact nxt 0 (no (fun w => q2 w.1))
    · intro y ey
      subst ey
      have : clB (gF cx cy c true ax pl) (fgA (crF cx cy ax pl) 8) k = false := by
        unfold clB
        rw [prB_f (fun w => q ((sett_root hg hI hS hk).mpr w)), Bool.false_and]
      rw [fa_cnt_no this] at ih
      exact ih
-- crossings
def xrN (cx cy : Nat) (c : Nat → Nat → Nat) (all : Bool) (ax pl v : Nat) : Nat := if (crN cx cy ax pl).testBit v then (if all then rcN (rcl c ax pl v) else if rcN (rcl c ax pl v) = 0 then 0 else 1) else 0
set_option maxRecDepth 100000 in
theorem rc_dec1 : ∀ b : Fin 256, (b.val = 0 ↔ rcN b.val = 0) ∧ rcN b.val ≤ 4 := by decide +kernel
theorem v_crossingsWithRun (hO : OKs W D Z cx cy c) (hS : SIs W D Z cx cy c u) {ax pl : Nat} (ha : ax < 2) (hp : pl < 8) {post : Int32 → Prop} (h : post (nI (fb_sm (xrN cx cy c false ax pl) (rbN W D (1 - ax))))) : P_X3_crossingsWithRun u (nI ax) (nI pl) post := by
  have hb := rb_bd hO (1 - ax)
  unfold P_X3_crossingsWithRun
  refine v_crossingsOf hO hS ha (by omega) ?_
  show ∃ n, L_X3_crossingsWithRun_13 post (fun (v4_10 : Int32) => post v4_10) u (nI ax) (nI pl) (nI (crN cx cy ax pl)) n (0 : Int32) (0 : Int32)
  refine loop_0 (σ := Unit) (fun n v _ => L_X3_crossingsWithRun_13 post (fun (v4_10 : Int32) => post v4_10) u (nI ax) (nI pl) (nI (crN cx cy ax pl)) n (nI (fb_sm (xrN cx cy c false ax pl) v)) (nI v)) (fun _ _ => True) (rbN W D (1 - ax)) () trivial ?_ ?_
  · intro n _ _
    rw [L_X3_crossingsWithRun_13, one_sub ha]
    refine v_ribCount hS (by omega) ?_
    exact if_t (nI_le (Nat.le_refl _) (by omega)) h
  · intro n v _ hv _ ih
    have ih := ih () trivial
    rw [fb_sm_succ] at ih
    unfold xrN at ih
    rw [L_X3_crossingsWithRun_13, one_sub ha, show nI v + (1 : Int32) = nI (v + 1) from nI_1 v]
    refine v_ribCount hS (by omega) ?_
    refine if_f (fun q => absurd ((nI_leI (by omega) (by omega)).mp q) (by omega)) ?_
    refine v_hasBit (cr_8 hO ax pl) (by omega) ?_
    have h8 := rcl_8 hO ax pl v
    have hd := (rc_dec1 ⟨_, h8⟩).1
    dsimp only at hd
    refine if_bI (fun t => ?_) (fun t => ?_)
    · refine v_ribColumn hO hS ha hp (by omega) ?_
      rw [if_pos t, if_neg (by decide)] at ih
      refine if_i (nI_eq (a := rcl c ax pl v) (b := 0) (by omega) (by decide)) (fun q => ?_) (fun q => ?_)
      · intro y ey
        subst ey
        rw [if_pos (hd.mp q), Nat.add_zero (fb_sm _ v)] at ih
        exact ih
      · intro y7 e7 y ey
        rw [show ∀ m, nI m + (1 : Int32) = nI (m + 1) from fun m => nI_1 m] at e7
        rw [if_neg (fun w => q (hd.mpr w))] at ih
        subst ey e7
        exact ih
    · intro y ey
      subst ey
      rw [if_neg (by rw [t]; decide), Nat.add_zero (fb_sm _ v)] at ih
      exact ih
theorem v_runsInCrossings (hO : OKs W D Z cx cy c) (hS : SIs W D Z cx cy c u) {ax pl : Nat} (ha : ax < 2) (hp : pl < 8) {post : Int32 → Prop} (h : post (nI (fb_sm (xrN cx cy c true ax pl) (rbN W D (1 - ax))))) : P_X3_runsInCrossings u (nI ax) (nI pl) post := by
  have hb := rb_bd hO (1 - ax)
  unfold P_X3_runsInCrossings
  refine v_crossingsOf hO hS ha (by omega) ?_
  show ∃ n, L_X3_runsInCrossings_13 post (fun (v4_10 : Int32) => post v4_10) u (nI ax) (nI pl) (nI (crN cx cy ax pl)) n (0 : Int32) (0 : Int32)
  refine loop_0 (σ := Unit) (fun n v _ => L_X3_runsInCrossings_13 post (fun (v4_10 : Int32) => post v4_10) u (nI ax) (nI pl) (nI (crN cx cy ax pl)) n (nI (fb_sm (xrN cx cy c true ax pl) v)) (nI v)) (fun _ _ => True) (rbN W D (1 - ax)) () trivial ?_ ?_
  · intro n _ _
    rw [L_X3_runsInCrossings_13, one_sub ha]
    refine v_ribCount hS (by omega) ?_
    exact if_t (nI_le (Nat.le_refl _) (by omega)) h
  · intro n v _ hv _ ih
    have ih := ih () trivial
    rw [fb_sm_succ] at ih
    unfold xrN at ih
    rw [L_X3_runsInCrossings_13, one_sub ha, show nI v + (1 : Int32) = nI (v + 1) from nI_1 v]
    refine v_ribCount hS (by omega) ?_
    refine if_f (fun q => absurd ((nI_leI (by omega) (by omega)).mp q) (by omega)) ?_
    refine v_hasBit (cr_8 hO ax pl) (by omega) ?_
    refine if_bI (fun t => ?_) (fun t => ?_)
    · refine v_ribColumn hO hS ha hp (by omega) ?_
      refine v_runCount (rcl_8 hO ax pl v) ?_
      rw [if_pos t, if_pos rfl] at ih
      intro y7 e7 y ey
      rw [nI_add] at e7
      subst ey e7
      exact ih
    · intro y ey
      subst ey
      rw [if_neg (by rw [t]; decide), Nat.add_zero (fb_sm _ v)] at ih
      exact ih
theorem v_crossings (hO : OKs W D Z cx cy c) (hM : MIs W D Z cx cy c u) {ax pl : Nat} (ha : ax < 2) (hp : pl < 8) (all : Bool) {post : Int32 → St → Prop} (h : ∀ u', mS u u' → post (nI (fb_sm (xrN cx cy c all ax pl) (rbN W D (1 - ax)))) u') : P_X5_crossings u (nI ax) (nI pl) (bI all) post := by
  have hb := rb_bd hO (1 - ax)
  show ∃ n, L_X5_crossings_6 post (fun v w => post v w) (nI ax) (nI pl) (bI all) n (0 : Int32) (0 : Int32) u
  cases ech : (chN cx cy ax).testBit pl with
  | false =>
    refine ⟨1, ?_⟩
    rw [L_X5_crossings_6, one_sub ha]
    refine v_places hM (by omega) ?_
    have hx : ∀ v, xrN cx cy c all ax pl v = 0 := by
      intro v
      unfold xrN crN
      rw [ech, if_neg (show ¬ false = true by decide), Nat.zero_testBit, if_neg (by decide)]
    have e : fb_sm (xrN cx cy c all ax pl) (rbN W D (1 - ax)) = 0 := by
      have := sm_hi (f := xrN cx cy c all ax pl) (a := 0) (rbN W D (1 - ax)) (fun k _ _ => hx k)
      rw [Nat.zero_add] at this
      rw [this]; rfl
    have fin := h u mS.rf
    rw [e] at fin
    refine if_i (nI_leI (a := rbN W D (1 - ax)) (b := 0) (by omega) (by decide)) (fun q => absurd q (by omega)) (fun _ => ?_)
    refine v_isChosenM hO hM ha hp ?_
    refine if_bI (fun t => ?_) (fun _ => fin)
    rw [ech] at t; cases t
  | true =>
    refine loop_0 (σ := St) (fun n v s => L_X5_crossings_6 post (fun v w => post v w) (nI ax) (nI pl) (bI all) n (nI (fb_sm (xrN cx cy c all ax pl) v)) (nI v) s) (fun _ s => mS u s) (rbN W D (1 - ax)) u mS.rf ?_ ?_
    · intro n s hs
      rw [L_X5_crossings_6, one_sub ha]
      refine v_places (hs.MI hM) (by omega) ?_
      exact if_t (nI_le (Nat.le_refl _) (by omega)) (h s hs)
    · intro n v s hv hs ih
      have hM' := hs.MI hM
      have exr : fb_sm (xrN cx cy c all ax pl) (v + 1) = fb_sm (xrN cx cy c all ax pl) v + xrN cx cy c all ax pl v := rfl
      have exv : xrN cx cy c all ax pl v = if (chN cx cy (1 - ax)).testBit v = true then (if all = true then rcN (rcl c ax pl v) else if rcN (rcl c ax pl v) = 0 then 0 else 1) else 0 := by
        unfold xrN crN
        rw [ech, if_pos rfl]
      rw [exr, exv] at ih
      rw [L_X5_crossings_6, one_sub ha, show nI v + (1 : Int32) = nI (v + 1) from nI_1 v]
      refine v_places hM' (by omega) ?_
      refine if_f (fun q => absurd ((nI_leI (by omega) (by omega)).mp q) (by omega)) ?_
      refine v_isChosenM hO hM' ha hp ?_
      refine if_bI (fun _ => ?_) (fun w => by rw [ech] at w; cases w)
      refine v_isChosenM hO hM' (by omega) (by omega) ?_
      refine if_bI (fun t => ?_) (fun t => ?_)
      · have tail : ∀ s1, mS s s1 → (jn1 (fun (w_13 : Int32) => ∀ y_14 : Int32, y_14 = (nI (fb_sm (xrN cx cy c all ax pl) v) + w_13) → ∀ y_17 : Int32, y_17 = nI (v + 1) → L_X5_crossings_6 post (fun v w => post v w) (nI ax) (nI pl) (bI all) n y_14 y_17 s1) (fun J_83 => if bI all = 0 then (if nI (rcN (rcl c ax pl v)) ≤ 0 then (J_83 (0 : Int32)) else (J_83 (1 : Int32))) else (J_83 (nI (rcN (rcl c ax pl v)))))) := by
          intro s1 m1
          have ih := ih s1 (hs.tr m1)
          have h4 := (rc_dec1 ⟨_, rcl_8 hO ax pl v⟩).2
          dsimp only at h4
          rw [if_pos t] at ih
          have fin : ∀ w : Int32, w = nI (if all then rcN (rcl c ax pl v) else if rcN (rcl c ax pl v) = 0 then 0 else 1) → ∀ y_14 : Int32, y_14 = (nI (fb_sm (xrN cx cy c all ax pl) v) + w) → ∀ y_17 : Int32, y_17 = nI (v + 1) → L_X5_crossings_6 post (fun v w => post v w) (nI ax) (nI pl) (bI all) n y_14 y_17 s1 := by
            intro w ew y14 e14 y17 e17
            rw [ew, nI_add] at e14
            subst e14 e17
            exact ih
          refine if_bI (b := all) (fun q => ?_) (fun q => ?_)
          · exact fin _ (by rw [q]; rfl)
          · refine if_i (nI_leI (a := rcN (rcl c ax pl v)) (b := 0) (by omega) (by decide)) (fun q2 => ?_) (fun q2 => ?_)
            · exact fin 0 (by rw [q, if_neg (by decide), if_pos (by omega)]; rfl)
            · exact fin 1 (by rw [q, if_neg (by decide), if_neg (by omega)]; rfl)
        refine if_i (nI_eq (a := ax) (b := 0) (by omega) (by decide)) (fun q => ?_) (fun q => ?_)
        · refine v_findRuns hO hM' (x := pl) (y := v) hp (by omega) (fun s1 hr _ => ?_)
          have := tail s1 hr.mS
          rw [show rcl c ax pl v = c pl v from by unfold rcl; rw [if_pos q]] at this
          exact this
        · refine v_findRuns hO hM' (x := v) (y := pl) (by omega) hp (fun s1 hr _ => ?_)
          have := tail s1 hr.mS
          rw [show rcl c ax pl v = c v pl from by unfold rcl; rw [if_neg q]] at this
          exact this
      · intro y ey
        subst ey
        have ih := ih s hs
        rw [if_neg (by rw [t]; decide), Nat.add_zero (fb_sm _ v)] at ih
        exact ih
end LSE
