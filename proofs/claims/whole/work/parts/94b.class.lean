/-! figures onto boards: the class -/
theorem v_note {u : St} {i k : Nat} {x : Int32} (hi : i < 16) (hk : k < 7) {post : St → Prop} (h : post (u.1, va_up u.2 0 (upd (u.2 0) (7 * i + k) x))) : P_X0_note u (nI i) (nI k) x post := by
  unfold P_X0_note P_X0_hasFact
  refine if_f (nI_pos (by omega)) ?_
  refine if_f (fun q => absurd ((nI_leI (a := 16) (by decide) (by omega)).mp q) (by omega)) ?_
  refine if_f (nI_pos (by omega)) ?_
  refine if_f (fun q => absurd ((nI_leI (a := 7) (by decide) (by omega)).mp q) (by omega)) ?_
  refine if_f (by decide) ?_
  rw [show nI i * (7 : Int32) + nI k = nI (7 * i + k) from by rw [show nI i * (7 : Int32) = nI (i * 7) from pk_mul i 7, nI_add, Nat.mul_comm]]
  refine ⟨vp_in_nI (by omega) (by decide), ?_⟩
  intro u2 e2
  rw [nI_clamp (by omega)] at e2
  subst e2
  exact h
theorem v_isLess {u : St} {f : Nat → Nat → Nat} {n i : Nat} (hR : Rw (u.2 0) f n) (hB : Bd f n) (hi : i < n) (hn : n ≤ 16) {e : Nat → Nat} (he : ∀ k, e k ≤ 13) {post : Int32 → Prop} (h : post (bI (lss (f i) e))) : P_X0_isLess u (nI i) (nI (e 5)) (nI (e 6)) post := by
  have b1 := hB i hi 5
  have b2 := hB i hi 6
  have b3 := he 5
  have b4 := he 6
  unfold P_X0_isLess
  refine v_fact (k := 6) (by omega) (by decide) ?_
  rw [hR i 6 hi (Or.inr (Or.inr (Or.inr rfl)))]
  refine if_i (nI_ltI (by omega) (by omega)) (fun q => ?_) (fun q => ?_)
  · rw [show lss (f i) e = true from decide_eq_true (Or.inl q)] at h
    exact h
  · refine if_i (nI_eq (by omega) (by omega)) (fun q2 => ?_) (fun q2 => ?_)
    · refine v_fact (k := 5) (by omega) (by decide) ?_
      rw [hR i 5 hi (Or.inr (Or.inr (Or.inl rfl)))]
      refine if_i (nI_leI (by omega) (by omega)) (fun q3 => ?_) (fun q3 => ?_)
      · rw [show lss (f i) e = false from decide_eq_false (by omega)] at h
        exact h
      · rw [show lss (f i) e = true from decide_eq_true (by omega)] at h
        exact h
    · rw [show lss (f i) e = false from decide_eq_false (by omega)] at h
      exact h
theorem v_addLoop {u : St} {f : Nat → Nat → Nat} {n : Nat} (hR : Rw (u.2 0) f n) (hB : Bd f n) (hn : n ≤ 16) {e : Nat → Nat} (he : ∀ k, e k ≤ 13) {post : St → Prop} {K : Int32 → Prop} (h : K (nI (psN f e n))) : ∃ m, L_X0_add_16 post K u (nI (e 5)) (nI (e 6)) m (nI n) := by
  refine ⟨n + 1, pk_loopD (σ := Unit) (fun m i _ => L_X0_add_16 post K u (nI (e 5)) (nI (e 6)) m (nI i)) (fun i _ => i ≤ n ∧ psN f e n = psN f e i) ?_ ?_ n () ⟨Nat.le_refl n, rfl⟩⟩
  · intro m _ hi
    rw [L_X0_add_16]
    refine if_t (by decide) ?_
    rw [hi.2] at h
    exact h
  · intro m i _ hi ih
    rw [L_X0_add_16, show nI (i + 1) - (1 : Int32) = nI i from pk_sub (a := i + 1) (b := 1) (by omega)]
    refine if_f (fun q => absurd ((nI_leI (b := 0) (by omega) (by decide)).mp q) (by omega)) ?_
    refine v_isLess hR hB (by omega) hn he ?_
    refine if_bI (fun t => ?_) (fun t => ?_)
    · intro y4 e4
      have e4 : y4 = nI i := e4.trans (pk_m1 i)
      subst e4
      exact ih () ⟨by omega, by rw [hi.2, psN_t t]⟩
    · rw [hi.2, psN_f t] at h
      exact h
theorem v_add {u : St} {f : Nat → Nat → Nat} {n : Nat} (h2 : u.1 2 = nI n) (hn : n < 16) (hR : Rw (u.2 0) f n) (hB : Bd f n) {e : Nat → Nat} (he : ∀ k, e k ≤ 13) {post : St → Prop} (h : ∀ u', u'.1 2 = nI (n + 1) → Rw (u'.2 0) (insF f (psN f e n) e) (n + 1) → post u') : P_X0_add u (nI (e 0)) (nI (e 1)) (nI (e 5)) (nI (e 6)) post := by
  have hi := psN_le f e n
  unfold P_X0_add
  rw [h2]
  refine if_t (nI_lt (b := 16) hn (by decide)) ?_
  intro y1 e1
  subst e1
  refine v_addLoop hR hB (by omega) he ?_
  generalize psN f e n = i at *
  have m1 : nI i * (7 : Int32) = nI (i * 7) := pk_mul i 7
  have m2 : (nI i + (1 : Int32)) * (7 : Int32) = nI ((i + 1) * 7) := by
    rw [show nI i + (1 : Int32) = nI (i + 1) from nI_1 i]
    exact pk_mul (i + 1) 7
  have m3 : (nI n - nI i) * (7 : Int32) = nI ((n - i) * 7) := by
    rw [pk_sub hi]
    exact pk_mul (n - i) 7
  have c1 : (nI (i * 7)).toNatClampNeg = i * 7 := nI_clamp (by omega)
  have c2 : (nI ((i + 1) * 7)).toNatClampNeg = (i + 1) * 7 := nI_clamp (by omega)
  have c3 : (nI ((n - i) * 7)).toNatClampNeg = (n - i) * 7 := nI_clamp (by omega)
  refine ⟨?_, ?_⟩
  · rw [m1, m2, m3, c1, c2, c3]
    exact ⟨nI_pos (by omega), nI_pos (by omega), nI_pos (by omega), by omega, by omega⟩
  · intro u6 e6
    rw [m1, m2, m3, c1, c2, c3] at e6
    refine v_note (k := 0) (by omega) (by decide) ?_
    refine v_note (k := 1) (by omega) (by decide) ?_
    refine v_note (k := 5) (by omega) (by decide) ?_
    refine v_note (k := 6) (by omega) (by decide) ?_
    intro y15 e15 u16 e16
    subst e6
    refine h u16 ?_ ?_
    · rw [e16]
      show upd u.1 2 y15 2 = _
      rw [pk_us, e15]
      show u.1 2 + (1 : Int32) = _
      rw [h2]
      exact nI_1 n
    · rw [e16]
      exact hR.ins hi e
section LAC
variable {W D Z cx cy : Nat} {c : Nat → Nat → Nat}
theorem v_layLoop (hO : OKs W D Z cx cy c) {us : St} (hS : SIs W D Z cx cy c us) {k0 : Nat} (hk : k0 ≤ 5) {ub : St} (h2 : ub.1 2 = 0) {post : Int32 → (St × St) → Prop} {K : (St × St) → Prop} (h : ∀ u', u'.1 2 = nI (gs cx cy c k0 16).2 → Rw (u'.2 0) (gs cx cy c k0 16).1 (gs cx cy c k0 16).2 → K (us, u')) : ∃ n, L_X4_lay_60 post K (nI k0) n (0 : Int32) (us, ub) := by
  refine loop_0 (σ := St × St) (fun n ax s => L_X4_lay_60 post K (nI k0) n (nI ax) s) (fun ax s => s.1 = us ∧ s.2.1 2 = nI (gs cx cy c k0 (8 * ax)).2 ∧ Rw (s.2.2 0) (gs cx cy c k0 (8 * ax)).1 (gs cx cy c k0 (8 * ax)).2) 2 (us, ub) ⟨rfl, h2, fun j k hj _ => absurd hj (Nat.not_lt_zero j)⟩ ?_ ?_
  · intro n s hs
    rw [L_X4_lay_60]
    refine if_t (by decide) ?_
    have := h s.2 hs.2.1 hs.2.2
    rw [← hs.1] at this
    exact this
  · intro n ax s hax hs ih
    have hb := rb_bd hO ax
    rw [L_X4_lay_60, show nI ax + (1 : Int32) = nI (ax + 1) from nI_1 ax]
    refine if_f (fun q => absurd ((nI_leI (a := 2) (by decide) (by omega)).mp q) (by omega)) ?_
    refine loop_0 (σ := St × St) (fun n' pl s' => L_X4_lay_69 post (fun (u_18 : St × St) => ∀ y_19 : Int32, y_19 = nI (ax + 1) → L_X4_lay_60 post K (nI k0) n y_19 u_18) (nI k0) (nI ax) n' (nI pl) s') (fun pl s' => s'.1 = us ∧ s'.2.1 2 = nI (gs cx cy c k0 (8 * ax + pl)).2 ∧ Rw (s'.2.2 0) (gs cx cy c k0 (8 * ax + pl)).1 (gs cx cy c k0 (8 * ax + pl)).2) (rbN W D ax) s hs ?_ ?_
    · intro n' s' hs'
      have hS' : SIs W D Z cx cy c s'.1 := by rw [hs'.1]; exact hS
      rw [L_X4_lay_69]
      refine v_ribCount hS' hax ?_
      refine if_t (nI_le (Nat.le_refl _) (by omega)) ?_
      intro y19 e19
      subst e19
      refine ih s' ?_
      have e := gs_skip (cx := cx) (cy := cy) (c := c) (k0 := k0) (a := 8 * ax + rbN W D ax) (8 - rbN W D ax) (fun r h1 h2 => okR_row hO h1 (by omega))
      rw [show 8 * ax + rbN W D ax + (8 - rbN W D ax) = 8 * (ax + 1) from by omega] at e
      rw [e]
      exact hs'
    · intro n' pl s' hpl hs' ih'
      have hS' : SIs W D Z cx cy c s'.1 := by rw [hs'.1]; exact hS
      have hle := gs_le (cx := cx) (cy := cy) (c := c) (k0 := k0) (8 * ax + pl)
      have hBd := gs_bd (cx := cx) (cy := cy) (c := c) hk (r := 8 * ax + pl) (by omega)
      have skip : okR cx cy c (8 * ax + pl) = false → ∀ y_17 : Int32, y_17 = nI (pl + 1) → L_X4_lay_69 post (fun (u_18 : St × St) => ∀ y_19 : Int32, y_19 = nI (ax + 1) → L_X4_lay_60 post K (nI k0) n y_19 u_18) (nI k0) (nI ax) n' y_17 s' := by
        intro ho y17 e17
        subst e17
        refine ih' s' ?_
        rw [show 8 * ax + (pl + 1) = 8 * ax + pl + 1 from rfl, gs_f ho]
        exact hs'
      rw [L_X4_lay_69, show nI pl + (1 : Int32) = nI (pl + 1) from nI_1 pl]
      refine v_ribCount hS' hax ?_
      refine if_f (fun q => absurd ((nI_leI (by omega) (by omega)).mp q) (by omega)) ?_
      refine v_chosenFigure hO hS' hax (by omega) (fun t z ez => ?_) (fun t => ?_)
      · refine if_t ((cmp_eq z 0).mpr ez) (skip ?_)
        rw [okR_at (by omega), t, Bool.false_and]
      · refine if_i (cmp_fig hO hax) (fun q => ?_) (fun q => ?_)
        · refine skip ?_
          rw [okR_at (by omega), decide_eq_false (by omega), Bool.and_false]
        · have ho : okR cx cy c (8 * ax + pl) = true := by
            rw [okR_at (by omega), t, decide_eq_true (by omega)]
            rfl
          refine v_spanOfU (rcl_8 hO ax pl) ?_
          refine v_spanOfZ (rcl_8 hO ax pl) ?_
          rw [nI_add, nI_add]
          have d1 : (8 * ax + pl) / 8 = ax := by omega
          have d2 : (8 * ax + pl) % 8 = pl := by omega
          have x0 : eN c k0 (8 * ax + pl) 0 = ax := d1
          have x1 : eN c k0 (8 * ax + pl) 1 = pl := d2
          have x5 : eN c k0 (8 * ax + pl) 5 = spN (flU (rcl c ax pl) 8) + k0 := by
            show spU c ((8 * ax + pl) / 8) ((8 * ax + pl) % 8) + k0 = _
            rw [d1, d2]; rfl
          have x6 : eN c k0 (8 * ax + pl) 6 = spN (orZ (rcl c ax pl) 8) + k0 := by
            show spV c ((8 * ax + pl) / 8) ((8 * ax + pl) % 8) + k0 = _
            rw [d1, d2]; rfl
          have key := v_add (u := s'.2) hs'.2.1 (by omega) hs'.2.2 hBd (e := eN c k0 (8 * ax + pl)) (eN_13 c hk (by omega)) (post := fun (z_15 : St) => ∀ u_14 : St × St, u_14 = (s'.1, z_15) → ∀ y_17 : Int32, y_17 = nI (pl + 1) → L_X4_lay_69 post (fun (u_18 : St × St) => ∀ y_19 : Int32, y_19 = nI (ax + 1) → L_X4_lay_60 post K (nI k0) n y_19 u_18) (nI k0) (nI ax) n' y_17 u_14) (fun u' a1 a2 u14 e14 y17 e17 => by
            subst e17
            refine ih' u14 ?_
            rw [show 8 * ax + (pl + 1) = 8 * ax + pl + 1 from rfl, gs_t ho, e14]
            exact ⟨hs'.1, a1, a2⟩)
          rw [x0, x1, x5, x6] at key
          exact key
theorem v_allFit (hO : OKs W D Z cx cy c) {ux : St × St} (hS : SIs W D Z cx cy c ux.1) {x1 x2 : Int32} {post : Int32 → Prop} (h1 : (∀ r, r < 16 → okR cx cy c r = true → (spU c (r / 8) (r % 8) : Int) ≤ x1.toInt ∧ (spV c (r / 8) (r % 8) : Int) ≤ x2.toInt) → post 1) (h0 : (∃ r, r < 16 ∧ okR cx cy c r = true ∧ ¬ ((spU c (r / 8) (r % 8) : Int) ≤ x1.toInt ∧ (spV c (r / 8) (r % 8) : Int) ≤ x2.toInt)) → post 0) : P_X4_allFitInto ux x1 x2 post := by
  show ∃ n, L_X4_allFitInto_2 post (post 1) ux x1 x2 n (0 : Int32)
  refine loop_0 (σ := Unit) (fun n ax _ => L_X4_allFitInto_2 post (post 1) ux x1 x2 n (nI ax)) (fun ax _ => ∀ r, r < 8 * ax → okR cx cy c r = true → (spU c (r / 8) (r % 8) : Int) ≤ x1.toInt ∧ (spV c (r / 8) (r % 8) : Int) ≤ x2.toInt) 2 () (fun r hr => absurd hr (Nat.not_lt_zero r)) ?_ ?_
  · intro n _ hr
    rw [L_X4_allFitInto_2]
    exact if_t (by decide) (h1 hr)
  · intro n ax _ hax hr ih
    have hb := rb_bd hO ax
    rw [L_X4_allFitInto_2, show nI ax + (1 : Int32) = nI (ax + 1) from nI_1 ax]
    refine if_f (fun q => absurd ((nI_leI (a := 2) (by decide) (by omega)).mp q) (by omega)) ?_
    refine loop_0 (σ := Unit) (fun n' pl _ => L_X4_allFitInto_10 post (∀ y_8 : Int32, y_8 = nI (ax + 1) → L_X4_allFitInto_2 post (post 1) ux x1 x2 n y_8) ux x1 x2 (nI ax) n' (nI pl)) (fun pl _ => ∀ r, r < 8 * ax + pl → okR cx cy c r = true → (spU c (r / 8) (r % 8) : Int) ≤ x1.toInt ∧ (spV c (r / 8) (r % 8) : Int) ≤ x2.toInt) (rbN W D ax) () hr ?_ ?_
    · intro n' _ hr'
      rw [L_X4_allFitInto_10]
      refine v_ribCount hS hax ?_
      refine if_t (nI_le (Nat.le_refl _) (by omega)) ?_
      intro y8 e8
      subst e8
      refine ih () (fun r hr ho => ?_)
      rcases Nat.lt_or_ge r (8 * ax + rbN W D ax) with q | q
      · exact hr' r q ho
      · rw [okR_row hO q (by omega)] at ho; cases ho
    · intro n' pl _ hpl hr' ih'
      have d1 : (8 * ax + pl) / 8 = ax := by omega
      have d2 : (8 * ax + pl) % 8 = pl := by omega
      have go : (okR cx cy c (8 * ax + pl) = true → (spU c ax pl : Int) ≤ x1.toInt ∧ (spV c ax pl : Int) ≤ x2.toInt) → ∀ y_7 : Int32, y_7 = nI (pl + 1) → L_X4_allFitInto_10 post (∀ y_8 : Int32, y_8 = nI (ax + 1) → L_X4_allFitInto_2 post (post 1) ux x1 x2 n y_8) ux x1 x2 (nI ax) n' y_7 := by
        intro hh y7 e7
        subst e7
        refine ih' () (fun r hr ho => ?_)
        by_cases q : r = 8 * ax + pl
        · subst q
          rw [d1, d2]
          exact hh ho
        · exact hr' r (by omega) ho
      rw [L_X4_allFitInto_10, show nI pl + (1 : Int32) = nI (pl + 1) from nI_1 pl]
      refine v_ribCount hS hax ?_
      refine if_f (fun q => absurd ((nI_leI (by omega) (by omega)).mp q) (by omega)) ?_
      refine v_chosenFigure hO hS hax (by omega) (fun t z ez => ?_) (fun t => ?_)
      · refine if_t ((cmp_eq z 0).mpr ez) (go (fun ho => ?_))
        rw [okR_at (by omega), t, Bool.false_and] at ho
        cases ho
      · refine if_i (cmp_fig hO hax) (fun q => ?_) (fun q => ?_)
        · refine go (fun ho => ?_)
          rw [okR_at (by omega), decide_eq_false (by omega), Bool.and_false] at ho
          cases ho
        · have ho : okR cx cy c (8 * ax + pl) = true := by
            rw [okR_at (by omega), t, decide_eq_true (by omega)]
            rfl
          have s1 : spU c ax pl ≤ 8 := spN_8 _
          have s2 : spV c ax pl ≤ 8 := spN_8 _
          have i1 : (nI (spU c ax pl)).toInt = (spU c ax pl : Int) := nI_toInt (by omega)
          have i2 : (nI (spV c ax pl)).toInt = (spV c ax pl : Int) := nI_toInt (by omega)
          have bad : ¬ ((spU c ax pl : Int) ≤ x1.toInt ∧ (spV c ax pl : Int) ≤ x2.toInt) → post 0 := by
            intro hn
            refine h0 ⟨8 * ax + pl, by omega, ho, ?_⟩
            rw [d1, d2]
            exact hn
          refine v_spanOfU (rcl_8 hO ax pl) ?_
          refine if_i (d := x1.toInt < (spU c ax pl : Int)) (by rw [fa_lt, ← i1]; rfl) (fun q1 => bad (by omega)) (fun q1 => ?_)
          refine v_spanOfZ (rcl_8 hO ax pl) ?_
          refine if_i (d := (spV c ax pl : Int) ≤ x2.toInt) (by rw [fa_le, ← i2]; rfl) (fun q2 => go (fun _ => ⟨by omega, q2⟩)) (fun q2 => bad (by omega))
end LAC
theorem v_rowsLoop {u : St} {f : Nat → Nat → Nat} {n w h : Nat} (h2 : u.1 2 = nI n) (hn : n ≤ 16) (hR : Rw (u.2 0) f n) (hB : Bd f n) (hw : 1 ≤ w ∧ w ≤ 60) (hh : 1 ≤ h ∧ h ≤ 60) {post : St → Prop} {K : Int32 → Int32 → St → Prop} (hp : ∀ s, s.1 2 = nI n → Rw (s.2 0) f n → Ls w h f (s.2 0) n → K (nI (rws w h f n).1) (nI (arN f n)) s) : ∃ m, L_X0_layInRows_17 post K (nI w) (nI h) m (0 : Int32) (0 : Int32) (0 : Int32) (nI w) (0 : Int32) (0 : Int32) u := by
  refine loop_0 (σ := St) (fun m i s => L_X0_layInRows_17 post K (nI w) (nI h) m (nI (rws w h f i).1) (nI (rws w h f i).2.1) (nI (rws w h f i).2.2.1) (nI (rws w h f i).2.2.2) (nI (arN f i)) (nI i) s) (fun i s => s.1 2 = nI n ∧ Rw (s.2 0) f n ∧ Ls w h f (s.2 0) i) n u ⟨h2, hR, fun j hj => absurd hj (Nat.not_lt_zero j)⟩ ?_ ?_
  · intro m s hs
    rw [L_X0_layInRows_17, hs.1]
    exact if_t (nI_le (Nat.le_refl _) (by omega)) (hp s hs.1 hs.2.1 hs.2.2)
  · intro m i s hi hs ih
    have b1 := hB i hi 5
    have b2 := hB i hi 6
    have rb := rws_bd (w := w) (h := h) (f := f) (i := i) (fun j hj => hB j (by omega))
    have fin : ∀ v3 v4 v5 v6 : Int32, v3 = nI (qN w h f i).1 → v4 = nI (qN w h f i).2.1 → v5 = nI (qN w h f i).2.2.1 → v6 = nI (qN w h f i).2.2.2 → P_X0_note s (nI i) (2 : Int32) v3 (fun (u_17 : St) => P_X0_note u_17 (nI i) (3 : Int32) v6 (fun (u_19 : St) => P_X0_note u_19 (nI i) (4 : Int32) v4 (fun (u_21 : St) => ∀ y_22 : Int32, y_22 = (v6 + nI (f i 5)) → ∀ y_23 : Int32, y_23 = (nI (arN f i) + (nI (f i 5) * nI (f i 6))) → ∀ y_24 : Int32, y_24 = nI (i + 1) → L_X0_layInRows_17 post K (nI w) (nI h) m v3 v4 v5 y_22 y_23 y_24 u_21))) := by
      intro v3 v4 v5 v6 e3 e4 e5 e6
      subst e3 e4 e5 e6
      refine v_note (k := 2) (by omega) (by decide) ?_
      refine v_note (k := 3) (by omega) (by decide) ?_
      refine v_note (k := 4) (by omega) (by decide) ?_
      intro y22 e22 y23 e23 y24 e24
      rw [nI_add] at e22
      rw [pk_mul, nI_add] at e23
      subst e22 e23 e24
      exact ih _ ⟨hs.1, hs.2.1.set3 _ _ _, hs.2.2.step⟩
    rw [L_X0_layInRows_17, hs.1, show nI i + (1 : Int32) = nI (i + 1) from nI_1 i]
    refine if_f (fun q => absurd ((nI_leI (by omega) (by omega)).mp q) (by omega)) ?_
    refine v_fact (k := 5) (by omega) (by decide) ?_
    refine v_fact (k := 6) (by omega) (by decide) ?_
    rw [hs.2.1 i 5 hi (Or.inr (Or.inr (Or.inl rfl))), hs.2.1 i 6 hi (Or.inr (Or.inr (Or.inr rfl)))]
    refine if_i (d := (rws w h f i).2.2.2 + f i 5 ≤ w) (by rw [nI_add]; exact nI_leI (by omega) (by omega)) (fun q => ?_) (fun q => ?_)
    · have eq : qN w h f i = rws w h f i := if_pos q
      exact fin _ _ _ _ (by rw [eq]) (by rw [eq]) (by rw [eq]) (by rw [eq])
    · intro y10 e10
      rw [nI_add] at e10
      subst e10
      refine if_i (d := (rws w h f i).2.1 + (rws w h f i).2.2.1 + f i 6 ≤ h) (by rw [nI_add]; exact nI_leI (by omega) (by omega)) (fun q2 => ?_) (fun q2 => ?_)
      · have eq : qN w h f i = ((rws w h f i).1, (rws w h f i).2.1 + (rws w h f i).2.2.1, f i 6, 0) := by
          unfold qN plc
          rw [if_neg q, if_pos q2]
        exact fin _ _ _ _ (by rw [eq]) (by rw [eq]) (by rw [eq]) (by rw [eq]; rfl)
      · intro y11 e11
        have eq : qN w h f i = ((rws w h f i).1 + 1, 0, f i 6, 0) := by
          unfold qN plc
          rw [if_neg q, if_neg q2]
        exact fin _ _ _ _ (by rw [eq, e11]; exact nI_1 _) (by rw [eq]; rfl) (by rw [eq]) (by rw [eq]; rfl)
theorem v_layInRows {u : St} {f : Nat → Nat → Nat} {n w h : Nat} (h2 : u.1 2 = nI n) (hn : n ≤ 16) (hR : Rw (u.2 0) f n) (hB : Bd f n) (hw : 1 ≤ w ∧ w ≤ 60) (hh : 1 ≤ h ∧ h ≤ 60) {post : St → Prop} (hp : ∀ u', u'.1 1 = 1 → u'.1 2 = nI n → u'.1 3 = (if n = 0 then 0 else nI (rws w h f n).1 + 1) → u'.1 4 = ((nI (arN f n) + nI w * nI h) - (1 : Int32)) / (nI w * nI h) → Rw (u'.2 0) f n → Ls w h f (u'.2 0) n → post u') : P_X0_layInRows u (nI w) (nI h) post := by
  have hwh : 1 ≤ w * h := Nat.mul_pos (by omega) (by omega)
  have hwh2 : w * h ≤ 60 * 60 := Nat.mul_le_mul (by omega) (by omega)
  have ewh : nI w * nI h = nI (w * h) := pk_mul w h
  refine v_rowsLoop h2 hn hR hB hw hh (fun s a1 a2 a3 => ?_)
  have fin : ∀ w28 : Int32, w28 = (if n = 0 then 0 else nI (rws w h f n).1 + 1) → ∀ u_29 : St, u_29 = (upd s.1 3 w28, s.2) → P_X0_quotientCutUp (nI (arN f n)) (nI w * nI h) (fun r_30 : Int32 => ∀ u_31 : St, u_31 = (upd u_29.1 4 r_30, u_29.2) → ∀ u_32 : St, u_32 = (upd u_31.1 1 (1 : Int32), u_31.2) → post u_32) := by
    intro w28 e28 u29 e29
    unfold P_X0_quotientCutUp
    refine if_t ?_ ⟨?_, ?_⟩
    · rw [ewh]; exact nI_le (a := 1) hwh (by omega)
    · rw [ewh]
      intro q
      have := (nI_eq (b := 0) (by omega) (by decide)).mp q
      omega
    · intro u31 e31 u32 e32
      subst e32 e31 e29
      exact hp _ rfl a1 e28 rfl a2 a3
  refine if_i (d := n = 0) (by rw [a1]; exact nI_eq (b := 0) (by omega) (by decide)) (fun q => ?_) (fun q => ?_)
  · exact fin _ (if_pos q).symm
  · exact fin _ (if_neg q).symm
