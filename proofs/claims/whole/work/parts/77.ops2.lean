/-! rib, ribs, laid, least, run, caught -/
set_option maxRecDepth 100000 in
theorem rib_dec0 : ∀ c : Fin 256, ∀ p : Fin 8, (nI c.val &&& (((1 : Int32) <<< (nI p.val &&& 31)) ^^^ (-1 : Int32))) = nI (c.val &&& (255 ^^^ 2 ^ p.val)) ∧ (nI c.val ||| ((1 : Int32) <<< (nI p.val &&& 31))) = nI (c.val ||| 2 ^ p.val) ∧ (nI (c.val &&& (255 ^^^ 2 ^ p.val)) ||| ((1 : Int32) <<< (nI p.val &&& 31))) = nI (c.val ||| 2 ^ p.val) := by decide +kernel
theorem sh_dec0 : ∀ r : Fin 9, ((1 : Int32) <<< (nI r.val &&& 31)) = nI (2 ^ r.val) := by decide +kernel
theorem v_choose {W D Z cx cy : Nat} {c : Nat → Nat → Nat} {u : St} (hS : SIs W D Z cx cy c u) {ax v : Nat} (ha : ax < 2) {post : St → Prop} (h : ∀ u', SIs W D Z (if ax = 0 then v else cx) (if ax = 0 then cy else v) c u' → post u') : P_X3_choose u (nI ax) (nI v) post := by
  unfold P_X3_choose
  refine if_i (nI_eq (a := ax) (b := 0) (by omega) (by decide)) (fun q => ?_) (fun q => ?_)
  · intro u2 e
    refine h u2 ?_
    subst e
    rw [if_pos q, if_pos q]
    exact ⟨hS.1, hS.2.1, hS.2.2.1, rfl, hS.2.2.2.2.1, hS.2.2.2.2.2⟩
  · intro u2 e
    refine h u2 ?_
    subst e
    rw [if_neg q, if_neg q]
    exact ⟨hS.1, hS.2.1, hS.2.2.1, hS.2.2.2.1, rfl, hS.2.2.2.2.2⟩
theorem MIs.choose {W D Z cx cy : Nat} {c : Nat → Nat → Nat} {u : St} (hM : MIs W D Z cx cy c u) {ax v : Nat} (ha : ax < 2) : MIs W D Z (if ax = 0 then v else cx) (if ax = 0 then cy else v) c (upd u.1 5 0, va_up u.2 4 (upd (u.2 4) ax (nI v))) := by
  rcases (show ax = 0 ∨ ax = 1 by omega) with q | q
  · subst q
    exact ⟨hM.1, hM.2.1, hM.2.2.1, rfl, hM.2.2.2.2.1, hM.2.2.2.2.2⟩
  · subst q
    exact ⟨hM.1, hM.2.1, hM.2.2.1, hM.2.2.2.1, rfl, hM.2.2.2.2.2⟩
theorem OKs.choose {W D Z cx cy : Nat} {c : Nat → Nat → Nat} (hO : OKs W D Z cx cy c) {ax v : Nat} (hv : v < 2 ^ rbN W D ax) : OKs W D Z (if ax = 0 then v else cx) (if ax = 0 then cy else v) c := by
  unfold rbN at hv
  by_cases q : ax = 0
  · rw [if_pos q] at hv ⊢
    rw [if_pos q]
    exact ⟨hO.1, hO.2.1, hO.2.2.1, hv, hO.2.2.2.2.1, hO.2.2.2.2.2⟩
  · rw [if_neg q] at hv ⊢
    rw [if_neg q]
    exact ⟨hO.1, hO.2.1, hO.2.2.1, hO.2.2.2.1, hv, hO.2.2.2.2.2⟩
theorem ch_lt {W D Z cx cy : Nat} {c : Nat → Nat → Nat} (hO : OKs W D Z cx cy c) (ax : Nat) : chN cx cy ax < 2 ^ rbN W D ax := by
  unfold chN rbN
  split
  · exact hO.2.2.2.1
  · exact hO.2.2.2.2.1
theorem op_rib {ux : St × St} {um : St} (hI : Inv ux um) (a p s : Int32) : P_X4_rib ux a p s (fun r ux' => P_X5_rib um a p s (fun r' um' => r = r' ∧ Inv ux' um')) := by
  obtain ⟨W, D, Z, cx, cy, c, hO, hS, hM, hB⟩ := id hI
  unfold P_X4_rib
  refine v_hasRib hO hS ?_
  refine if_bI (fun q => ?_) (fun q => ?_)
  · obtain ⟨ax, pl, hax, hpl, rfl, rfl⟩ := ribB_t hO q
    have hrb := rb_bd hO ax
    have hp8 : pl < 8 := by omega
    have hc8 := ch_8 hO ax
    obtain ⟨d1, d2, d3⟩ := rib_dec0 ⟨chN cx cy ax, hc8⟩ ⟨pl, hp8⟩
    dsimp only at d1 d2 d3
    refine v_isChosen hO hS hax (by omega) ?_
    refine v_chosenBits hS hax ?_
    intro y4 e4
    rw [d1] at e4
    -- the new bits, and all that follows
    have fin : ∀ v : Nat, v < 2 ^ rbN W D ax → (if s = 0 then v = chN cx cy ax &&& (255 ^^^ 2 ^ pl) else v = chN cx cy ax ||| 2 ^ pl) → P_X3_choose ux.1 (nI ax) (nI v) (fun (z_8 : St) => ∀ u_7 : St × St, u_7 = (z_8, ux.2) → P_X0_forget u_7.2 (fun (z_11 : St) => ∀ u_10 : St × St, u_10 = (u_7.1, z_11) → P_X4_asNumber (bI ((chN cx cy ax).testBit pl)) (fun r_12 : Int32 => P_X5_rib um (nI ax) (nI pl) s (fun r' um' => r_12 = r' ∧ Inv u_10 um')))) := by
      intro v hv hw
      refine v_choose hS hax (fun us hs => ?_)
      intro u7 e7
      refine v_forget ?_
      intro u10 e10
      refine v_asNumber ?_
      unfold P_X5_rib
      refine v_isRib hO hM ?_
      rw [q]
      refine if_f (by decide) ?_
      refine v_isChosenM hO hM hax hp8 ?_
      have fin2 : ∀ w3 : Int32, w3 = bI ((chN cx cy ax).testBit pl) → (jn1 (fun (w_4 : Int32) => vp_in (nI ax) 2 ∧ ∀ u_5 : St, u_5 = (um.1, va_up um.2 4 (upd (um.2 4) (nI ax).toNatClampNeg w_4)) → ∀ u_6 : St, u_6 = (upd u_5.1 5 (0 : Int32), u_5.2) → (bI ((chN cx cy ax).testBit pl) = w3 ∧ Inv u10 u_6)) (fun J_61 => if s = 0 then (vp_in (nI ax) 2 ∧ (J_61 ((um.2 4 (nI ax).toNatClampNeg) &&& (((1 : Int32) <<< (nI pl &&& 31)) ^^^ (-1 : Int32))))) else (vp_in (nI ax) 2 ∧ (J_61 ((um.2 4 (nI ax).toNatClampNeg) ||| ((1 : Int32) <<< (nI pl &&& 31))))))) := by
        intro w3 ew3
        have hcl : (nI ax).toNatClampNeg = ax := nI_clamp (by omega)
        rw [hcl, ch_at hM hax, d1, d2]
        have last : vp_in (nI ax) 2 ∧ ∀ u_5 : St, u_5 = (um.1, va_up um.2 4 (upd (um.2 4) ax (nI v))) → ∀ u_6 : St, u_6 = (upd u_5.1 5 (0 : Int32), u_5.2) → (bI ((chN cx cy ax).testBit pl) = w3 ∧ Inv u10 u_6) := by
          refine ⟨vp_in_nI hax (by decide), ?_⟩
          intro u5 e5 u6 e6
          refine ⟨ew3.symm, ?_⟩
          subst e5 e6 e7 e10
          exact ⟨W, D, Z, _, _, c, hO.choose hv, hs, hM.choose hax, BIs.forget rfl⟩
        show if s = 0 then _ else _
        by_cases qs : s = 0
        · rw [if_pos qs] at hw ⊢
          subst hw
          exact ⟨vp_in_nI hax (by decide), last⟩
        · rw [if_neg qs] at hw ⊢
          subst hw
          exact ⟨vp_in_nI hax (by decide), last⟩
      show if bI ((chN cx cy ax).testBit pl) = 0 then _ else _
      refine if_bI (fun t => ?_) (fun t => ?_)
      · exact fin2 1 (by rw [t]; rfl)
      · exact fin2 0 (by rw [t]; rfl)
    show if s = 0 then _ else _
    by_cases qs : s = 0
    · refine if_t qs ?_
      rw [e4]
      exact fin _ (Nat.lt_of_le_of_lt Nat.and_le_left (ch_lt hO ax)) (if_t qs rfl)
    · refine if_f qs ?_
      rw [e4, d3]
      exact fin _ (Nat.or_lt_two_pow (ch_lt hO ax) (Nat.pow_lt_pow_right (by decide) hpl)) (if_f qs rfl)
  · unfold P_X5_rib
    refine v_isRib hO hM ?_
    rw [q]
    exact if_t rfl ⟨rfl, hI⟩
theorem ax_of {x : Int32} (h0 : ¬ x < 0) (h1 : ¬ (1 : Int32) < x) : ∃ ax, ax < 2 ∧ x = nI ax := by
  obtain ⟨j, hj, rfl⟩ := nI_of h0
  exact ⟨j, by
    rcases Nat.lt_or_ge j 2 with q | q
    · exact q
    · exact absurd (nI_lt (a := 1) (by omega) hj) h1, rfl⟩
theorem op_ribs {ux : St × St} {um : St} (hI : Inv ux um) (a b : Int32) : P_X4_ribs ux a b (fun r ux' => P_X5_ribs um a b (fun r' um' => r = r' ∧ Inv ux' um')) := by
  obtain ⟨W, D, Z, cx, cy, c, hO, hS, hM, hB⟩ := id hI
  have e0 : (0 : Int32).toInt = 0 := by decide
  have e1 : (1 : Int32).toInt = 1 := by decide
  have bad : (¬ ∃ ax, ax < 2 ∧ a = nI ax) → P_X5_ribs um a b (fun r' um' => (-2 : Int32) = r' ∧ Inv ux um') := by
    intro hn
    unfold P_X5_ribs
    refine in01 (fun ax hax ea => absurd ⟨ax, hax, ea⟩ hn) (fun _ _ => if_t rfl ⟨rfl, hI⟩)
  have shN : ∀ ax, ax < 2 → ((1 : Int32) <<< (nI (rbN W D ax) &&& 31)) = nI (2 ^ rbN W D ax) ∧ 2 ^ rbN W D ax ≤ 256 ∧ 1 ≤ 2 ^ rbN W D ax := by
    intro ax hax
    have hb := rb_bd hO ax
    exact ⟨sh_dec0 ⟨rbN W D ax, by omega⟩, OKs.pw hb.2, Nat.two_pow_pos _⟩
  have good : ∀ ax, ax < 2 → a = nI ax → (r : Int32) → (u' : St × St) → (inN b (2 ^ rbN W D ax) = false → r = -2 ∧ u' = ux) → (∀ v, v < 2 ^ rbN W D ax → b = nI v → r = nI (chN cx cy ax) ∧ SIs W D Z (if ax = 0 then v else cx) (if ax = 0 then cy else v) c u'.1 ∧ u'.2 = (upd ux.2.1 1 0, ux.2.2)) → P_X5_ribs um a b (fun r' um' => r = r' ∧ Inv u' um') := by
    intro ax hax ea r u' h0 h1
    unfold P_X5_ribs
    obtain ⟨s1, s2, s3⟩ := shN ax hax
    refine in01 (fun ax' hax' ea' => ?_) (fun q0 q1 => ?_)
    · have : ax' = ax := (nI_eq (by omega) (by omega)).mp (ea'.symm.trans ea)
      subst this
      refine if_f (by decide) ?_
      rw [ea]
      refine v_places hM hax ?_
      rw [s1]
      refine v_inN s3 (by omega) ?_
      refine if_bI (fun t => ?_) (fun t => ?_)
      · obtain ⟨v, hv, eb⟩ := inN_t (by omega) t
        obtain ⟨k1, k2, k3⟩ := h1 v hv eb
        have hcl : (nI ax').toNatClampNeg = ax' := nI_clamp (by omega)
        rw [hcl, ch_at hM hax, eb]
        refine ⟨vp_in_nI hax (by decide), ?_⟩
        intro y4 e4
        refine ⟨vp_in_nI hax (by decide), ?_⟩
        intro u5 e5 u6 e6
        refine ⟨k1.trans e4.symm, ?_⟩
        subst e5 e6
        refine ⟨W, D, Z, _, _, c, hO.choose hv, k2, hM.choose hax, ?_⟩
        rw [k3]
        exact BIs.forget rfl
      · obtain ⟨k1, k2⟩ := h0 t
        rw [k1, k2]
        exact ⟨rfl, hI⟩
    · rcases (show ax = 0 ∨ ax = 1 by omega) with z | z
      · subst z; exact absurd ea q0
      · subst z; exact absurd ea q1
  unfold P_X4_ribs
  by_cases q0 : a < 0
  · refine if_t q0 (bad ?_)
    rintro ⟨ax, hax, rfl⟩
    exact nI_pos (by omega) q0
  · refine if_f q0 ?_
    by_cases q1 : (1 : Int32) < a
    · refine if_t q1 (bad ?_)
      rintro ⟨ax, hax, rfl⟩
      exact absurd ((nI_ltI (a := 1) (by decide) (by omega)).mp q1) (by omega)
    · refine if_f q1 ?_
      obtain ⟨ax, hax, ea⟩ := ax_of q0 q1
      obtain ⟨s1, s2, s3⟩ := shN ax hax
      by_cases q2 : b < 0
      · refine if_t q2 (good ax hax ea _ _ (fun _ => ⟨rfl, rfl⟩) (fun v hv eb => ?_))
        subst eb
        exact absurd q2 (nI_pos (by omega))
      · refine if_f q2 ?_
        obtain ⟨v, hv, eb⟩ := nI_of q2
        rw [ea]
        refine v_ribCount hS hax ?_
        rw [s1, eb]
        refine if_i (nI_ltI hv (by omega)) (fun t => ?_) (fun t => ?_)
        · refine v_chosenBits hS hax ?_
          refine v_choose hS hax (fun us hs => ?_)
          intro u4 e4
          refine v_forget ?_
          intro u7 e7
          rw [← ea, ← eb]
          refine good ax hax ea _ _ (fun w => ?_) (fun v' hv' eb' => ?_)
          · rw [eb, inN_nI (by omega), decide_eq_true t] at w; cases w
          · have : v' = v := (nI_eq (by omega) (by omega)).mp (eb'.symm.trans eb)
            subst this
            subst e4 e7
            exact ⟨rfl, hs, rfl⟩
        · rw [← ea, ← eb]
          refine good ax hax ea _ _ (fun _ => ⟨rfl, rfl⟩) (fun v' hv' eb' => ?_)
          have : v' = v := (nI_eq (by omega) (by omega)).mp (eb'.symm.trans eb)
          omega
theorem v_fact {u : St} {i k : Nat} (hi : i < 16) (hk : k < 7) {post : Int32 → Prop} (h : post (u.2 0 (7 * i + k))) : P_X0_fact u (nI i) (nI k) post := by
  unfold P_X0_fact P_X0_hasFact
  refine if_f (nI_pos (by omega)) ?_
  refine if_f (fun q => absurd ((nI_leI (a := 16) (by decide) (by omega)).mp q) (by omega)) ?_
  refine if_f (nI_pos (by omega)) ?_
  refine if_f (fun q => absurd ((nI_leI (a := 7) (by decide) (by omega)).mp q) (by omega)) ?_
  refine if_f (by decide) ?_
  rw [show nI i * (7 : Int32) + nI k = nI (7 * i + k) from by rw [show nI i * (7 : Int32) = nI (i * 7) from pk_mul i 7, nI_add, Nat.mul_comm]]
  refine ⟨vp_in_nI (by omega) (by decide), ?_⟩
  rw [nI_clamp (by omega)]
  exact h
theorem op_laid {ux : St × St} {um : St} (hI : Inv ux um) (i k : Int32) : P_X4_laid ux i k (fun r => P_X5_laid um i k (fun r' => r = r')) := by
  obtain ⟨W, D, Z, cx, cy, c, hO, hS, hM, hB⟩ := hI
  unfold P_X4_laid P_X5_laid
  rw [← hB.1]
  rcases hB.2 with q | ⟨q, n, hn, h2, h14, h4, hf⟩
  · rw [q]
    exact if_t rfl (if_t rfl rfl)
  · rw [q, h2, h14]
    have e7 : (7 : Int32).toInt = 7 := by decide
    have e0 : (0 : Int32).toInt = 0 := by decide
    have m1 : ∀ r : Int32, ¬ (0 ≤ k.toInt ∧ k.toInt ≤ 6) → r = -2 → (if (1 : Int32) = 0 then r = -3 else P_X5_in k.toInt64 0 6 (fun r_1 => if r_1 = 0 then r = -2 else P_X5_in i.toInt64 0 (nI n - 1).toInt64 (fun r_2 => if r_2 = 0 then r = -6 else vp_in (7 * i + k) 112 ∧ r = um.2 13 (7 * i + k).toNatClampNeg))) := by
      intro r hk hr
      refine if_f (by decide) (v_inL 0 6 (by decide) (by decide) ?_)
      rw [decide_eq_false hk]
      exact if_t rfl hr
    have m2 : ∀ r : Int32, (0 ≤ k.toInt ∧ k.toInt ≤ 6) → inN i n = false → r = -6 → (if (1 : Int32) = 0 then r = -3 else P_X5_in k.toInt64 0 6 (fun r_1 => if r_1 = 0 then r = -2 else P_X5_in i.toInt64 0 (nI n - 1).toInt64 (fun r_2 => if r_2 = 0 then r = -6 else vp_in (7 * i + k) 112 ∧ r = um.2 13 (7 * i + k).toNatClampNeg))) := by
      intro r hk hi hr
      refine if_f (by decide) (v_inL 0 6 (by decide) (by decide) ?_)
      rw [decide_eq_true hk]
      refine if_f (by decide) (v_inN0 (by omega) ?_)
      rw [hi]
      exact if_t rfl hr
    refine if_f (by decide) ?_
    refine if_i (fa_lt k 0) (fun t => m1 _ (by omega) rfl) (fun t => ?_)
    refine if_i (fa_lt k 7) (fun t2 => ?_) (fun t2 => m1 _ (by omega) rfl)
    refine if_i (fa_lt i 0) (fun t3 => m2 _ (by omega) (decide_eq_false (by omega)) rfl) (fun t3 => ?_)
    refine if_i ((fa_lt i (nI n)).trans (by rw [nI_toInt (by omega)])) (fun t4 => ?_) (fun t4 => m2 _ (by omega) (decide_eq_false (by omega)) rfl)
    have hi : inN i n = true := decide_eq_true (by omega)
    obtain ⟨i', hi', rfl⟩ := inN_t (by omega) hi
    obtain ⟨k', hk', rfl⟩ := inN_t (x := k) (n := 7) (by omega) (decide_eq_true (by omega))
    refine v_fact (by omega) hk' ?_
    refine if_f (by decide) (v_inL 0 6 (by decide) (by decide) ?_)
    rw [nI_toInt (by omega), decide_eq_true (by omega)]
    refine if_f (by decide) (v_inN0 (by omega) ?_)
    rw [hi]
    refine if_f (by decide) ?_
    rw [show (7 : Int32) * nI i' + nI k' = nI (7 * i' + k') from by rw [show (7 : Int32) * nI i' = nI (7 * i') from pk_mul 7 i', nI_add]]
    refine ⟨vp_in_nI (by omega) (by decide), ?_⟩
    rw [nI_clamp (by omega)]
    exact hf i' k' hi' hk'
theorem op_least {ux : St × St} {um : St} (hI : Inv ux um) : P_X4_least ux (fun r => P_X5_least um (fun r' => r = r')) := by
  obtain ⟨W, D, Z, cx, cy, c, hO, hS, hM, hB⟩ := hI
  unfold P_X4_least P_X5_least
  rw [← hB.1]
  rcases hB.2 with q | ⟨q, n, hn, h2, h14, h4, hf⟩
  · rw [q]
    exact if_t rfl (if_t rfl rfl)
  · rw [q]
    exact if_f (by decide) (if_f (by decide) h4)
