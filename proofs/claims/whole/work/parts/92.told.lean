/-! about and told -/
theorem clB_0 (g : Nat → Bool) : clB g 0 = fun k => prB (Root g k) := by
  funext k
  unfold clB
  rw [prB_t (p := ∀ c, Cn g k c → (0 : Nat).testBit c = false) (fun c _ => Nat.zero_testBit c), Bool.and_true]
section ABT
variable {W D Z cx cy : Nat} {c : Nat → Nat → Nat}
theorem gF_cnt (hO : OKs W D Z cx cy c) (cut : Bool) (ax pl : Nat) : fa_cnt (gF cx cy c cut ax pl) 64 = fb_sm (fun v => pcN (figC cx cy c cut ax pl v)) 8 := fg_cnt (figC_8 hO cut ax pl) 8 (Nat.le_refl 8)
theorem gF_f (cx cy : Nat) (c : Nat → Nat → Nat) (ax pl : Nat) : gF cx cy c false ax pl = fun k => (fgA (rcl c ax pl) 8).testBit k := by
  funext k; unfold gF; rw [figC_f]
theorem gF_t (cx cy : Nat) (c : Nat → Nat → Nat) (ax pl : Nat) : gF cx cy c true ax pl = fun k => (fgA (ctl cx cy c ax pl) 8).testBit k := by
  funext k; unfold gF; rw [figC_t]
end ABT
theorem op_about {ux : St × St} {um : St} (hI : Inv ux um) (a p w : Int32) : P_X4_about ux a p w (fun r => P_X5_about um a p w (fun r' um' => r = r' ∧ Inv ux um')) := by
  obtain ⟨W, D, Z, cx, cy, c, hO, hS, hM, hB⟩ := id hI
  unfold P_X4_about
  refine v_hasRib hO hS ?_
  refine if_bI (fun q => ?_) (fun q => ?_)
  · obtain ⟨ax, pl, hax, hpl, rfl, rfl⟩ := ribB_t hO q
    have hr1 := rb_bd hO ax
    have hp8 : pl < 8 := by omega
    refine if_i Iff.rfl (fun e0 => ?_) (fun n0 => ?_)
    · refine v_figureOf hO hS hax hp8 ?_
      refine v_bitCount64 (rcl_8 hO ax pl) ?_
      unfold P_X5_about
      refine v_isRib hO hM ?_
      refine if_bI (fun _ => ?_) (fun t => by rw [q] at t; cases t)
      refine if_t e0 ?_
      refine v_findParts hO hM hax hp8 false (fun s p' ms h10 h9 hL hI2 hS2 => ⟨?_, ms.inv hI⟩)
      rw [h10, gF_cnt hO, figC_f]
    refine if_i Iff.rfl (fun e1 => ?_) (fun n1 => ?_)
    · refine v_cutOf hO hS hax hp8 ?_
      refine v_bitCount64 (ctl_8 hO ax pl) ?_
      unfold P_X5_about
      refine v_isRib hO hM ?_
      refine if_bI (fun _ => ?_) (fun t => by rw [q] at t; cases t)
      refine if_f n0 ?_
      refine if_t e1 ?_
      refine v_findParts hO hM hax hp8 true (fun s p' ms h10 h9 hL hI2 hS2 => ⟨?_, ms.inv hI⟩)
      rw [h10, gF_cnt hO, figC_t]
    refine if_i Iff.rfl (fun e2 => ?_) (fun n2 => ?_)
    · refine v_figureOf hO hS hax hp8 ?_
      unfold P_X2_partCount
      refine v_partsClearOf (O := 0) (fgA_lt (rcl_8 hO ax pl) 8) (by decide) ?_
      unfold P_X5_about
      refine v_isRib hO hM ?_
      refine if_bI (fun _ => ?_) (fun t => by rw [q] at t; cases t)
      refine if_f n0 ?_
      refine if_f n1 ?_
      refine if_t e2 ?_
      refine v_findParts hO hM hax hp8 false (fun s p' ms h10 h9 hL hI2 hS2 => ⟨?_, ms.inv hI⟩)
      rw [h9, clB_0, gF_f]
    refine if_i Iff.rfl (fun e3 => ?_) (fun n3 => ?_)
    · refine v_cutOf hO hS hax hp8 ?_
      unfold P_X2_partCount
      refine v_partsClearOf (O := 0) (fgA_lt (ctl_8 hO ax pl) 8) (by decide) ?_
      unfold P_X5_about
      refine v_isRib hO hM ?_
      refine if_bI (fun _ => ?_) (fun t => by rw [q] at t; cases t)
      refine if_f n0 ?_
      refine if_f n1 ?_
      refine if_f n2 ?_
      refine if_t e3 ?_
      refine v_findParts hO hM hax hp8 true (fun s p' ms h10 h9 hL hI2 hS2 => ⟨?_, ms.inv hI⟩)
      rw [h9, clB_0, gF_t]
    refine if_i Iff.rfl (fun e4 => ?_) (fun n4 => ?_)
    · refine v_loosePartsOf hO hS hax hp8 ?_
      unfold P_X5_about
      refine v_isRib hO hM ?_
      refine if_bI (fun _ => ?_) (fun t => by rw [q] at t; cases t)
      refine if_f n0 ?_
      refine if_f n1 ?_
      refine if_f n2 ?_
      refine if_f n3 ?_
      refine if_t e4 ?_
      exact v_looseOf hO hM hax hp8 (fun s ms => ⟨rfl, ms.inv hI⟩)
    refine if_i Iff.rfl (fun e5 => ?_) (fun n5 => ?_)
    · refine v_crossingsWithRun hO hS hax hp8 ?_
      unfold P_X5_about
      refine v_isRib hO hM ?_
      refine if_bI (fun _ => ?_) (fun t => by rw [q] at t; cases t)
      refine if_f n0 ?_
      refine if_f n1 ?_
      refine if_f n2 ?_
      refine if_f n3 ?_
      refine if_f n4 ?_
      refine if_t e5 ?_
      exact v_crossings hO hM hax hp8 false (fun s ms => ⟨rfl, ms.inv hI⟩)
    refine if_i Iff.rfl (fun e6 => ?_) (fun n6 => ?_)
    · refine v_runsInCrossings hO hS hax hp8 ?_
      unfold P_X5_about
      refine v_isRib hO hM ?_
      refine if_bI (fun _ => ?_) (fun t => by rw [q] at t; cases t)
      refine if_f n0 ?_
      refine if_f n1 ?_
      refine if_f n2 ?_
      refine if_f n3 ?_
      refine if_f n4 ?_
      refine if_f n5 ?_
      refine if_t e6 ?_
      exact v_crossings hO hM hax hp8 true (fun s ms => ⟨rfl, ms.inv hI⟩)
    refine if_i Iff.rfl (fun e7 => ?_) (fun n7 => ?_)
    · refine v_figureOf hO hS hax hp8 ?_
      refine v_spanOfU (rcl_8 hO ax pl) ?_
      unfold P_X5_about
      refine v_isRib hO hM ?_
      refine if_bI (fun _ => ?_) (fun t => by rw [q] at t; cases t)
      refine if_f n0 ?_
      refine if_f n1 ?_
      refine if_f n2 ?_
      refine if_f n3 ?_
      refine if_f n4 ?_
      refine if_f n5 ?_
      refine if_f n6 ?_
      refine if_t e7 ?_
      exact v_spanOf hO hM hax hp8 false (fun r _ hr => ⟨by rw [hr.one (spU_seen hO hax)], hI⟩)
    refine if_i Iff.rfl (fun e8 => ?_) (fun n8 => ?_)
    · refine v_figureOf hO hS hax hp8 ?_
      refine v_spanOfZ (rcl_8 hO ax pl) ?_
      unfold P_X5_about
      refine v_isRib hO hM ?_
      refine if_bI (fun _ => ?_) (fun t => by rw [q] at t; cases t)
      refine if_f n0 ?_
      refine if_f n1 ?_
      refine if_f n2 ?_
      refine if_f n3 ?_
      refine if_f n4 ?_
      refine if_f n5 ?_
      refine if_f n6 ?_
      refine if_f n7 ?_
      refine if_t e8 ?_
      exact v_spanOf hO hM hax hp8 true (fun r _ hr => ⟨by rw [hr.one (spZ_seen hO hax)], hI⟩)
    · unfold P_X5_about
      refine v_isRib hO hM ?_
      refine if_bI (fun _ => ?_) (fun t => by rw [q] at t; cases t)
      refine if_f n0 ?_
      refine if_f n1 ?_
      refine if_f n2 ?_
      refine if_f n3 ?_
      refine if_f n4 ?_
      refine if_f n5 ?_
      refine if_f n6 ?_
      refine if_f n7 ?_
      refine if_f n8 ?_
      exact ⟨rfl, hI⟩
  · unfold P_X5_about
    refine v_isRib hO hM ?_
    refine if_bI (fun t => by rw [q] at t; cases t) (fun _ => ⟨rfl, hI⟩)
section TLD
variable {W D Z cx cy : Nat} {c : Nat → Nat → Nat} {u : St}
def tF (cx cy : Nat) (F : Nat → Nat → Nat) (r : Nat) : Nat := if (chN cx cy (r / 8)).testBit (r % 8) then F (r / 8) (r % 8) else 0
theorem tF_at (cx cy : Nat) (F : Nat → Nat → Nat) {ax pl : Nat} (hp : pl < 8) : tF cx cy F (8 * ax + pl) = if (chN cx cy ax).testBit pl then F ax pl else 0 := by
  unfold tF
  rw [show (8 * ax + pl) / 8 = ax from by omega, show (8 * ax + pl) % 8 = pl from by omega]
theorem tF_row (hO : OKs W D Z cx cy c) (F : Nat → Nat → Nat) (ax : Nat) : fb_sm (tF cx cy F) (8 * ax + rbN W D ax) = fb_sm (tF cx cy F) (8 * (ax + 1)) := by
  have hb := rb_bd hO ax
  refine sm_eq (fun k hk => ?_)
  have hk2 : 8 * ax + rbN W D ax ≤ k ∧ k < 8 * (ax + 1) := by omega
  unfold tF
  have e1 : k / 8 = ax := by omega
  rw [e1, if_neg (fun w => ?_)]
  have : (chN cx cy ax).testBit (k % 8) = false := Nat.testBit_lt_two_pow (Nat.lt_of_lt_of_le (ch_lt hO ax) (Nat.pow_le_pow_right (by decide) (by omega)))
  rw [this] at w; cases w
theorem v_cubesOfCuts (hO : OKs W D Z cx cy c) (hS : SIs W D Z cx cy c u) {post : Int32 → Prop} (h : post (nI (fb_sm (tF cx cy (fun ax pl => fb_sm (fun v => pcN (ctl cx cy c ax pl v)) 8)) 16))) : P_X3_cubesOfCuts u post := by
  show ∃ n, L_X3_cubesOfCuts_4 post (fun (v1_14 : Int32) => post v1_14) u n (0 : Int32) (0 : Int32)
  refine loop_0 (σ := Unit) (fun n ax _ => L_X3_cubesOfCuts_4 post (fun (v1_14 : Int32) => post v1_14) u n (nI (fb_sm (tF cx cy (fun ax pl => fb_sm (fun v => pcN (ctl cx cy c ax pl v)) 8)) (8 * ax))) (nI ax)) (fun _ _ => True) 2 () trivial ?_ ?_
  · intro n _ _
    rw [L_X3_cubesOfCuts_4]
    exact if_t (by decide) h
  · intro n ax _ hax _ ih
    have ih := ih () trivial
    have hb := rb_bd hO ax
    rw [L_X3_cubesOfCuts_4, show nI ax + (1 : Int32) = nI (ax + 1) from nI_1 ax]
    refine if_f (fun q => absurd ((nI_leI (a := 2) (by decide) (by omega)).mp q) (by omega)) ?_
    refine loop_0 (σ := Unit) (fun n' pl _ => L_X3_cubesOfCuts_11 post (fun (v1_12 : Int32) => ∀ y_13 : Int32, y_13 = nI (ax + 1) → L_X3_cubesOfCuts_4 post (fun (v1_14 : Int32) => post v1_14) u n v1_12 y_13) u (nI ax) n' (nI (fb_sm (tF cx cy (fun ax pl => fb_sm (fun v => pcN (ctl cx cy c ax pl v)) 8)) (8 * ax + pl))) (nI pl)) (fun _ _ => True) (rbN W D ax) () trivial ?_ ?_
    · intro n' _ _
      rw [L_X3_cubesOfCuts_11]
      refine v_ribCount hS hax ?_
      refine if_t (nI_le (Nat.le_refl _) (by omega)) ?_
      intro y ey
      subst ey
      rw [tF_row hO]
      exact ih
    · intro n' pl _ hpl _ ih'
      have ih' := ih' () trivial
      have es : fb_sm (tF cx cy (fun ax pl => fb_sm (fun v => pcN (ctl cx cy c ax pl v)) 8)) (8 * ax + (pl + 1)) = fb_sm (tF cx cy (fun ax pl => fb_sm (fun v => pcN (ctl cx cy c ax pl v)) 8)) (8 * ax + pl) + tF cx cy (fun ax pl => fb_sm (fun v => pcN (ctl cx cy c ax pl v)) 8) (8 * ax + pl) := rfl
      rw [es, tF_at cx cy _ (show pl < 8 by omega)] at ih'
      rw [L_X3_cubesOfCuts_11, show nI pl + (1 : Int32) = nI (pl + 1) from nI_1 pl]
      refine v_ribCount hS hax ?_
      refine if_f (fun q => absurd ((nI_leI (by omega) (by omega)).mp q) (by omega)) ?_
      refine v_isChosen hO hS hax (by omega) ?_
      refine if_bI (fun t => ?_) (fun t => ?_)
      · refine v_cutOf hO hS hax (by omega) ?_
        refine v_bitCount64 (ctl_8 hO ax pl) ?_
        intro y10 e10 y11 e11
        rw [nI_add] at e10
        rw [if_pos t] at ih'
        subst e10 e11
        exact ih'
      · intro y10 e10 y11 e11
        rw [show (0 : Int32) = nI 0 from rfl, nI_add] at e10
        rw [if_neg (by rw [t]; decide)] at ih'
        subst e10 e11
        exact ih'
theorem v_looseParts (hO : OKs W D Z cx cy c) (hS : SIs W D Z cx cy c u) {post : Int32 → Prop} (h : post (nI (fb_sm (tF cx cy (lsN cx cy c)) 16))) : P_X3_looseParts u post := by
  show ∃ n, L_X3_looseParts_4 post (fun (v1_14 : Int32) => post v1_14) u n (0 : Int32) (0 : Int32)
  refine loop_0 (σ := Unit) (fun n ax _ => L_X3_looseParts_4 post (fun (v1_14 : Int32) => post v1_14) u n (nI (fb_sm (tF cx cy (lsN cx cy c)) (8 * ax))) (nI ax)) (fun _ _ => True) 2 () trivial ?_ ?_
  · intro n _ _
    rw [L_X3_looseParts_4]
    exact if_t (by decide) h
  · intro n ax _ hax _ ih
    have ih := ih () trivial
    have hb := rb_bd hO ax
    rw [L_X3_looseParts_4, show nI ax + (1 : Int32) = nI (ax + 1) from nI_1 ax]
    refine if_f (fun q => absurd ((nI_leI (a := 2) (by decide) (by omega)).mp q) (by omega)) ?_
    refine loop_0 (σ := Unit) (fun n' pl _ => L_X3_looseParts_11 post (fun (v1_12 : Int32) => ∀ y_13 : Int32, y_13 = nI (ax + 1) → L_X3_looseParts_4 post (fun (v1_14 : Int32) => post v1_14) u n v1_12 y_13) u (nI ax) n' (nI (fb_sm (tF cx cy (lsN cx cy c)) (8 * ax + pl))) (nI pl)) (fun _ _ => True) (rbN W D ax) () trivial ?_ ?_
    · intro n' _ _
      rw [L_X3_looseParts_11]
      refine v_ribCount hS hax ?_
      refine if_t (nI_le (Nat.le_refl _) (by omega)) ?_
      intro y ey
      subst ey
      rw [tF_row hO]
      exact ih
    · intro n' pl _ hpl _ ih'
      have ih' := ih' () trivial
      have es : fb_sm (tF cx cy (lsN cx cy c)) (8 * ax + (pl + 1)) = fb_sm (tF cx cy (lsN cx cy c)) (8 * ax + pl) + tF cx cy (lsN cx cy c) (8 * ax + pl) := rfl
      rw [es, tF_at cx cy _ (show pl < 8 by omega)] at ih'
      rw [L_X3_looseParts_11, show nI pl + (1 : Int32) = nI (pl + 1) from nI_1 pl]
      refine v_ribCount hS hax ?_
      refine if_f (fun q => absurd ((nI_leI (by omega) (by omega)).mp q) (by omega)) ?_
      refine v_isChosen hO hS hax (by omega) ?_
      refine if_bI (fun t => ?_) (fun t => ?_)
      · refine v_loosePartsOf hO hS hax (by omega) ?_
        intro y10 e10 y11 e11
        rw [nI_add] at e10
        rw [if_pos t] at ih'
        subst e10 e11
        exact ih'
      · intro y10 e10 y11 e11
        rw [show (0 : Int32) = nI 0 from rfl, nI_add] at e10
        rw [if_neg (by rw [t]; decide)] at ih'
        subst e10 e11
        exact ih'
end TLD
theorem op_told {ux : St × St} {um : St} (hI : Inv ux um) (w : Int32) : P_X4_told ux w (fun r => P_X5_told um w (fun r' um' => r = r' ∧ Inv ux um')) := by
  obtain ⟨W, D, Z, cx, cy, c, hO, hS, hM, hB⟩ := id hI
  unfold P_X4_told
  refine if_i Iff.rfl (fun e0 => ?_) (fun n0 => ?_)
  · unfold P_X5_told
    refine if_t e0 ?_
    exact ⟨by rw [hS.1, hM.1], hI⟩
  refine if_i Iff.rfl (fun e1 => ?_) (fun n1 => ?_)
  · unfold P_X5_told
    refine if_f n0 ?_
    refine if_t e1 ?_
    exact ⟨by rw [hS.2.1, hM.2.1], hI⟩
  refine if_i Iff.rfl (fun e2 => ?_) (fun n2 => ?_)
  · unfold P_X5_told
    refine if_f n0 ?_
    refine if_f n1 ?_
    refine if_t e2 ?_
    exact ⟨by rw [hS.2.2.1, hM.2.2.1], hI⟩
  refine if_i Iff.rfl (fun e3 => ?_) (fun n3 => ?_)
  · refine v_cubeCount hO hS ?_
    unfold P_X5_told
    refine if_f n0 ?_
    refine if_f n1 ?_
    refine if_f n2 ?_
    refine if_t e3 ?_
    refine loop_0 (σ := Unit) (fun n k _ => L_X5_told_65 (fun r' um' => nI (fb_sm (cuS c) 64) = r' ∧ Inv ux um') (fun v2_6 => nI (fb_sm (cuS c) 64) = v2_6 ∧ Inv ux um) um n (nI (fa_cnt (cuB c) k)) (nI k)) (fun _ _ => True) 512 () trivial ?_ ?_
    · intro n _ _
      rw [L_X5_told_65]
      refine if_t (by decide) ⟨?_, hI⟩
      rw [← cu_eq c 64]
    · intro n k _ hk _ ih
      have ih := ih () trivial
      rw [L_X5_told_65, show nI k + (1 : Int32) = nI (k + 1) from nI_1 k]
      refine if_f (fun z => absurd ((nI_leI (a := 512) (by decide) (by omega)).mp z) (by omega)) ?_
      refine ⟨vp_in_nI hk (by decide), ?_⟩
      have ek : um.2 3 k = bI (cuB c k) := by
        have := hM.2.2.2.2.2 (k / 64) (k / 8 % 8) (k % 8) (by omega) (by omega) (by omega)
        rw [show 64 * (k / 64) + 8 * (k / 8 % 8) + k % 8 = k from by omega] at this
        exact this
      rw [nI_clamp (show k < 2 ^ 31 by omega), ek]
      refine ifJ ?_
      intro y4 e4 y5 e5
      have e4 : y4 = nI (fa_cnt (cuB c) (k + 1)) := by
        rw [e4]
        cases eb : cuB c k with
        | true => rw [fa_cnt_yes eb]; exact nI_1 _
        | false => rw [fa_cnt_no eb]; exact nI_add _ 0
      subst e4 e5
      exact ih
  refine if_i Iff.rfl (fun e4 => ?_) (fun n4 => ?_)
  · refine v_chosenBits hS (ax := 0) (by decide) ?_
    unfold P_X5_told
    refine if_f n0 ?_
    refine if_f n1 ?_
    refine if_f n2 ?_
    refine if_f n3 ?_
    refine if_t e4 ?_
    exact ⟨vp_in_nI (n := 0) (N := 2) (by decide) (by decide), hM.2.2.2.1.symm, hI⟩
  refine if_i Iff.rfl (fun e5 => ?_) (fun n5 => ?_)
  · refine v_chosenBits hS (ax := 1) (by decide) ?_
    unfold P_X5_told
    refine if_f n0 ?_
    refine if_f n1 ?_
    refine if_f n2 ?_
    refine if_f n3 ?_
    refine if_f n4 ?_
    refine if_t e5 ?_
    exact ⟨vp_in_nI (n := 1) (N := 2) (by decide) (by decide), hM.2.2.2.2.1.symm, hI⟩
  refine if_i Iff.rfl (fun e6 => ?_) (fun n6 => ?_)
  · refine v_cubesOfCuts hO hS ?_
    unfold P_X5_told
    refine if_f n0 ?_
    refine if_f n1 ?_
    refine if_f n2 ?_
    refine if_f n3 ?_
    refine if_f n4 ?_
    refine if_f n5 ?_
    refine if_t e6 ?_
    refine loop_0 (σ := St) (fun n r s => L_X5_told_113 (fun r' um' => nI (fb_sm (tF cx cy (fun ax pl => fb_sm (fun v => pcN (ctl cx cy c ax pl v)) 8)) 16) = r' ∧ Inv ux um') (fun v w => nI (fb_sm (tF cx cy (fun ax pl => fb_sm (fun v => pcN (ctl cx cy c ax pl v)) 8)) 16) = v ∧ Inv ux w) n (nI (fb_sm (tF cx cy (fun ax pl => fb_sm (fun v => pcN (ctl cx cy c ax pl v)) 8)) r)) (nI r) s) (fun _ s => mS um s) 16 um mS.rf ?_ ?_
    · intro n s ms
      rw [L_X5_told_113]
      exact if_t (by decide) ⟨rfl, ms.inv hI⟩
    · intro n r s hr ms ih
      have hM' := ms.MI hM
      have es : fb_sm (tF cx cy (fun ax pl => fb_sm (fun v => pcN (ctl cx cy c ax pl v)) 8)) (r + 1) = fb_sm (tF cx cy (fun ax pl => fb_sm (fun v => pcN (ctl cx cy c ax pl v)) 8)) r + tF cx cy (fun ax pl => fb_sm (fun v => pcN (ctl cx cy c ax pl v)) 8) r := rfl
      rw [es] at ih
      have et : tF cx cy (fun ax pl => fb_sm (fun v => pcN (ctl cx cy c ax pl v)) 8) r = if (chN cx cy (r / 8)).testBit (r % 8) then (fun ax pl => fb_sm (fun v => pcN (ctl cx cy c ax pl v)) 8) (r / 8) (r % 8) else 0 := rfl
      rw [et] at ih
      rw [L_X5_told_113, show nI r + (1 : Int32) = nI (r + 1) from nI_1 r, show nI r - nI r / (8 : Int32) * (8 : Int32) = nI (r % 8) from pk_rem (d := 8) (by omega) (by decide) (by decide), show nI r / (8 : Int32) = nI (r / 8) from pk_div (d := 8) (by omega) (by decide) (by decide)]
      refine if_f (fun z => absurd ((nI_leI (a := 16) (by decide) (by omega)).mp z) (by omega)) ?_
      refine v_isChosenM hO hM' (by omega) (by omega) ?_
      refine if_bI (fun t => ?_) (fun t => ?_)
      · refine v_findParts hO hM' (by omega) (by omega) true (fun s1 p' ms1 h10 h9 hL hI2 hS2 => ?_)
        intro y e y2 e2
        have ih := ih s1 (ms.tr ms1)
        rw [h10, gF_cnt hO, figC_t, nI_add] at e
        rw [if_pos t] at ih
        subst e e2
        exact ih
      · intro y2 e2
        have ih := ih s ms
        rw [if_neg (by rw [t]; decide), Nat.add_zero (fb_sm (tF cx cy (fun ax pl => fb_sm (fun v => pcN (ctl cx cy c ax pl v)) 8)) r)] at ih
        subst e2
        exact ih
  refine if_i Iff.rfl (fun e7 => ?_) (fun n7 => ?_)
  · refine v_looseParts hO hS ?_
    unfold P_X5_told
    refine if_f n0 ?_
    refine if_f n1 ?_
    refine if_f n2 ?_
    refine if_f n3 ?_
    refine if_f n4 ?_
    refine if_f n5 ?_
    refine if_f n6 ?_
    refine if_t e7 ?_
    refine loop_0 (σ := St) (fun n r s => L_X5_told_164 (fun r' um' => nI (fb_sm (tF cx cy (lsN cx cy c)) 16) = r' ∧ Inv ux um') (fun v w => nI (fb_sm (tF cx cy (lsN cx cy c)) 16) = v ∧ Inv ux w) n (nI (fb_sm (tF cx cy (lsN cx cy c)) r)) (nI r) s) (fun _ s => mS um s) 16 um mS.rf ?_ ?_
    · intro n s ms
      rw [L_X5_told_164]
      exact if_t (by decide) ⟨rfl, ms.inv hI⟩
    · intro n r s hr ms ih
      have hM' := ms.MI hM
      have es : fb_sm (tF cx cy (lsN cx cy c)) (r + 1) = fb_sm (tF cx cy (lsN cx cy c)) r + tF cx cy (lsN cx cy c) r := rfl
      rw [es] at ih
      have et : tF cx cy (lsN cx cy c) r = if (chN cx cy (r / 8)).testBit (r % 8) then (lsN cx cy c) (r / 8) (r % 8) else 0 := rfl
      rw [et] at ih
      rw [L_X5_told_164, show nI r + (1 : Int32) = nI (r + 1) from nI_1 r, show nI r - nI r / (8 : Int32) * (8 : Int32) = nI (r % 8) from pk_rem (d := 8) (by omega) (by decide) (by decide), show nI r / (8 : Int32) = nI (r / 8) from pk_div (d := 8) (by omega) (by decide) (by decide)]
      refine if_f (fun z => absurd ((nI_leI (a := 16) (by decide) (by omega)).mp z) (by omega)) ?_
      refine v_isChosenM hO hM' (by omega) (by omega) ?_
      refine if_bI (fun t => ?_) (fun t => ?_)
      · refine v_looseOf hO hM' (by omega) (by omega) (fun s1 ms1 => ?_)
        intro y e y2 e2
        have ih := ih s1 (ms.tr ms1)
        rw [nI_add] at e
        rw [if_pos t] at ih
        subst e e2
        exact ih
      · intro y e y2 e2
        have ih := ih s ms
        rw [show (0 : Int32) = nI 0 from rfl, nI_add] at e
        rw [if_neg (by rw [t]; decide)] at ih
        subst e e2
        exact ih
  · unfold P_X5_told
    refine if_f n0 ?_
    refine if_f n1 ?_
    refine if_f n2 ?_
    refine if_f n3 ?_
    refine if_f n4 ?_
    refine if_f n5 ?_
    refine if_f n6 ?_
    refine if_f n7 ?_
    exact ⟨rfl, hI⟩
