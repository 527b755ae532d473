/-! box: the reference's loops, and the call -/
theorem if0 {A B : Prop} (h : A) : if bI false = 0 then A else B := if_t rfl h
theorem if1 {A B : Prop} (h : B) : if bI true = 0 then A else B := if_f (by decide) h
theorem MIs.bits {W D Z cx cy : Nat} {c c' : Nat → Nat → Nat} {u : St} (hM : MIs W D Z cx cy c u) (h : ∀ x y z, x < 8 → y < 8 → z < 8 → (c' x y).testBit z = (c x y).testBit z) : MIs W D Z cx cy c' u :=
  ⟨hM.1, hM.2.1, hM.2.2.1, hM.2.2.2.1, hM.2.2.2.2.1, fun x y z hx hy hz => by rw [h x y z hx hy hz]; exact hM.2.2.2.2.2 x y z hx hy hz⟩
theorem bI_eq {a b : Bool} : bI a = bI b ↔ a = b := by cases a <;> cases b <;> decide
theorem addk {z : Int32} {k : Nat} (h1 : -8 ≤ z.toInt) (h2 : z.toInt ≤ 8) (hk : k ≤ 16) : (z + nI k).toInt = z.toInt + k := by
  rw [add_to h1 h2 (by rw [nI_toInt (by omega)]; omega) (by rw [nI_toInt (by omega)]; omega), nI_toInt (by omega)]
theorem le_addk {z : Int32} {a b : Nat} (h1 : -8 ≤ z.toInt) (h2 : z.toInt ≤ 8) (ha : a ≤ 16) (hb : b ≤ 16) : z + nI a ≤ z + nI b ↔ a ≤ b := by
  rw [fa_le, addk h1 h2 ha, addk h1 h2 hb]
  omega
theorem addk1 (z : Int32) (k : Nat) : z + nI k + (1 : Int32) = z + nI (k + 1) := by
  rw [Int32.add_assoc]
  congr 1
  exact nI_1 k
theorem box_col {W D Z cx cy : Nat} {c : Nat → Nat → Nat} {s : St} (hO : OKs W D Z cx cy c) (hM : MIs W D Z cx cy c s) {i j : Nat} (hi : i < W) (hj : j < D) {z : Int32} (hz : -8 ≤ z.toInt ∧ z.toInt ≤ 8) {hg : Nat} (hh : hg ≤ 8) {v : Bool} {t : Nat} {post : Int32 → St → Prop} {K : Int32 → St → Prop}
    (hK : ∀ s', MIs W D Z cx cy (cPut c i j (bxU z.toInt Z v (c i j) hg)) s' → K (nI (t + bxD z.toInt Z v (c i j) hg)) s') : ∃ n, L_X5_box_126 post K z (nI hg) (bI v) (nI i) (nI j) n (nI t) z s := by
  have hW := hO.1
  have hD := hO.2.1
  have hZ := hO.2.2.1
  have key := loop_0 (σ := St) (fun n k s' => L_X5_box_126 post K z (nI hg) (bI v) (nI i) (nI j) n (nI (t + bxD z.toInt Z v (c i j) k)) (z + nI k) s') (fun k s' => MIs W D Z cx cy (cPut c i j (bxU z.toInt Z v (c i j) k)) s') hg s ?_ ?_ ?_
  · obtain ⟨n, hn⟩ := key
    rw [show z + nI 0 = z from Int32.add_zero z] at hn
    exact ⟨n, hn⟩
  · refine hM.bits (fun x y k hx hy hk => ?_)
    unfold cPut
    split
    · rename_i e; rw [e.1, e.2]; rfl
    · rfl
  · intro n s' hs'
    rw [L_X5_box_126]
    exact if_t ((le_addk hz.1 hz.2 (by omega) (by omega)).mpr (Nat.le_refl _)) (hK s' hs')
  · intro n k s' hk hs' ih
    have hO' : OKs W D Z cx cy (cPut c i j (bxU z.toInt Z v (c i j) k)) := hO.put hi hj (bxU_lt hZ.2 (hO.2.2.2.2.2.1 i j) k)
    rw [L_X5_box_126]
    refine if_f (fun q => absurd ((le_addk hz.1 hz.2 (by omega) (by omega)).mp q) (by omega)) ?_
    refine v_isPlace hO' hs' ?_
    rw [inN_nI (by omega), inN_nI (by omega), decide_eq_true hi, decide_eq_true hj, Bool.true_and, Bool.true_and]
    refine if_bI (fun q => ?_) (fun q => ?_)
    · obtain ⟨zz, hzz, ez⟩ := inN_t (by omega) q
      have ezi : (zz : Int) = z.toInt + k := by
        have := congrArg Int32.toInt ez
        rw [addk hz.1 hz.2 (by omega), nI_toInt (by omega)] at this
        omega
      have ezn : (z.toInt + (k : Int)).toNat = zz := by omega
      have bit : (cPut c i j (bxU z.toInt Z v (c i j) k) i j).testBit zz = (c i j).testBit zz := by
        unfold cPut
        rw [if_pos ⟨rfl, rfl⟩, bxU_bit hZ.2 (by omega), show lyB z.toInt k Z zz = false from decide_eq_false (by omega)]; rfl
      have eD : bxD z.toInt Z v (c i j) (k + 1) = bxD z.toInt Z v (c i j) k + (if (c i j).testBit zz = v then 0 else 1) := by
        rw [bxD, ezn]
        congr 1
        by_cases e : (c i j).testBit zz = v
        · rw [if_pos e, if_neg (fun w => w.2 e)]
        · rw [if_neg e, if_pos ⟨by omega, e⟩]
      have bits' : ∀ x y z', x < 8 → y < 8 → z' < 8 → (cPut c i j (bxU z.toInt Z v (c i j) (k + 1)) x y).testBit z' = if x = i ∧ y = j ∧ z' = zz then v else (cPut c i j (bxU z.toInt Z v (c i j) k) x y).testBit z' := by
        intro x y z' hx hy hz'
        unfold cPut
        by_cases e : x = i ∧ y = j
        · rw [if_pos e, if_pos e, bxU_bit hZ.2 hz', bxU_bit hZ.2 hz']
          by_cases e2 : z' = zz
          · rw [show lyB z.toInt (k + 1) Z z' = true from decide_eq_true (by omega), if_pos rfl, if_pos ⟨e.1, e.2, e2⟩]
          · rw [show lyB z.toInt (k + 1) Z z' = lyB z.toInt k Z z' from decide_eq_decide.mpr (by omega), if_neg (show ¬ (x = i ∧ y = j ∧ z' = zz) from fun w => e2 w.2.2)]
        · rw [if_neg e, if_neg e, if_neg (fun w => e ⟨w.1, w.2.1⟩)]
      rw [ez]
      refine v_has hs' (by omega) (by omega) (by omega) ?_
      rw [bit]
      refine if_i bI_eq (fun t1 => ?_) (fun t1 => ?_)
      · intro y23 e23
        rw [← ez, addk1] at e23
        subst e23
        have eD2 : bxD z.toInt Z v (c i j) (k + 1) = bxD z.toInt Z v (c i j) k := by rw [eD, if_pos t1]; exact Nat.add_zero _
        rw [← eD2]
        refine ih s' (hs'.bits (fun x y z' hx hy hz' => ?_))
        rw [bits' x y z' hx hy hz']
        split
        · rename_i e
          rw [e.1, e.2.1, e.2.2, bit]
          exact t1.symm
        · rfl
      · rw [idx3, nI_clamp (by omega)]
        refine ⟨vp_in_nI (by omega) (by decide), ?_⟩
        intro u19 e19 y20 e20 y23 e23
        rw [← ez, addk1] at e23
        rw [if_neg t1] at eD
        rw [show nI (t + bxD z.toInt Z v (c i j) k) + (1 : Int32) = nI (t + bxD z.toInt Z v (c i j) k + 1) from nI_1 _, Nat.add_assoc, ← eD] at e20
        subst e20 e23
        refine ih u19 ?_
        subst e19
        refine ⟨hs'.1, hs'.2.1, hs'.2.2.1, hs'.2.2.2.1, hs'.2.2.2.2.1, fun x y z' hx hy hz' => ?_⟩
        rw [bits' x y z' hx hy hz']
        show va_up s'.2 3 (upd (s'.2 3) (64 * i + 8 * j + zz) (vp_nar .boolean (bI v))) 3 (64 * x + 8 * y + z') = _
        rw [show va_up s'.2 3 (upd (s'.2 3) (64 * i + 8 * j + zz) (vp_nar .boolean (bI v))) 3 = upd (s'.2 3) (64 * i + 8 * j + zz) (vp_nar .boolean (bI v)) from rfl, show vp_nar .boolean (bI v) = bI v from by cases v <;> rfl]
        by_cases e : x = i ∧ y = j ∧ z' = zz
        · rw [if_pos e, e.1, e.2.1, e.2.2, pk_us]
        · rw [if_neg e, pk_un (by omega)]
          exact hs'.2.2.2.2.2 x y z' hx hy hz'
    · intro y23 e23
      rw [addk1] at e23
      subst e23
      have hno : ¬ (0 ≤ z.toInt + (k : Int) ∧ z.toInt + (k : Int) < Z) := by
        have := of_decide_eq_false q
        rw [addk hz.1 hz.2 (by omega)] at this
        exact this
      have eD : bxD z.toInt Z v (c i j) (k + 1) = bxD z.toInt Z v (c i j) k := by rw [bxD, if_neg (fun w => hno w.1)]; exact Nat.add_zero _
      have eU : bxU z.toInt Z v (c i j) (k + 1) = bxU z.toInt Z v (c i j) k := by rw [bxU, if_neg hno]
      have ih2 := ih s'
      rw [eD, eU] at ih2
      exact ih2 hs'
theorem box_out {W D Z cx cy : Nat} {c : Nat → Nat → Nat} {s : St} (hO : OKs W D Z cx cy c) (hM : MIs W D Z cx cy c s) {a b : Int32} (hab : (inN a W && inN b D) = false) {z : Int32} (hz : -8 ≤ z.toInt ∧ z.toInt ≤ 8) {hg : Nat} (hh : hg ≤ 8) {v : Bool} {t : Int32} {post : Int32 → St → Prop} {K : Int32 → St → Prop} (hK : K t s) : ∃ n, L_X5_box_126 post K z (nI hg) (bI v) a b n t z s := by
  have key := loop_0 (σ := Unit) (fun n k _ => L_X5_box_126 post K z (nI hg) (bI v) a b n t (z + nI k) s) (fun _ _ => True) hg () trivial ?_ ?_
  · obtain ⟨n, hn⟩ := key
    rw [show z + nI 0 = z from Int32.add_zero z] at hn
    exact ⟨n, hn⟩
  · intro n _ _
    rw [L_X5_box_126]
    exact if_t ((le_addk hz.1 hz.2 (by omega) (by omega)).mpr (Nat.le_refl _)) hK
  · intro n k _ hk _ ih
    rw [L_X5_box_126]
    refine if_f (fun q => absurd ((le_addk hz.1 hz.2 (by omega) (by omega)).mp q) (by omega)) ?_
    refine v_isPlace hO hM ?_
    refine if_bI (fun t1 => by rw [← Bool.and_assoc, hab, Bool.false_and] at t1; cases t1) (fun _ => ?_)
    intro y23 e23
    rw [addk1] at e23
    subst e23
    exact ih () trivial
def dnM (x0 y0 : Int) (k1 k2 d W D : Nat) (a b : Nat) : Bool := (decide (a < W) && decide (b < D)) && ((bxIn x0 k1 a && bxIn y0 d b) || (decide ((a : Int) = x0 + k1) && bxIn y0 k2 b))
def hY (c : Nat → Nat → Nat) (G : Nat → Nat) (y0 : Int) (D i k : Nat) : Nat := if 0 ≤ y0 + (k : Int) ∧ y0 + (k : Int) < D then G (c i (y0 + (k : Int)).toNat) else 0
def hX (c : Nat → Nat → Nat) (G : Nat → Nat) (x0 y0 : Int) (W D d k : Nat) : Nat := if 0 ≤ x0 + (k : Int) ∧ x0 + (k : Int) < W then fb_sm (hY c G y0 D (x0 + (k : Int)).toNat) d else 0
theorem inN_add {x : Int32} {k n : Nat} (h1 : -8 ≤ x.toInt) (h2 : x.toInt ≤ 8) (hk : k ≤ 16) : inN (x + nI k) n = decide (0 ≤ x.toInt + (k : Int) ∧ x.toInt + (k : Int) < n) := by
  unfold inN
  rw [addk h1 h2 hk]
theorem v_boxM {W D Z cx cy : Nat} {c : Nat → Nat → Nat} {u : St} (hO : OKs W D Z cx cy c) (hM : MIs W D Z cx cy c u) {x y z : Int32} {wd dp hg : Nat} {v : Bool} (hx : -8 ≤ x.toInt ∧ x.toInt ≤ 8) (hy : -8 ≤ y.toInt ∧ y.toInt ≤ 8) (hz : -8 ≤ z.toInt ∧ z.toInt ≤ 8) (hw : wd ≤ 8) (hd : dp ≤ 8) (hh : hg ≤ 8) {post : Int32 → St → Prop} {K : Int32 → St → Prop}
    (h : ∀ s', MIs W D Z cx cy (cP c (fun b => bxU z.toInt Z v b hg) (dnM x.toInt y.toInt wd 0 dp W D)) s' → K (nI (fb_sm (hX c (fun b => bxD z.toInt Z v b hg) x.toInt y.toInt W D dp) wd)) s') :
    ∃ n, L_X5_box_102 post K x y z (nI wd) (nI dp) (nI hg) (bI v) n (0 : Int32) x u := by
  have hW := hO.1
  have hD := hO.2.1
  have hZ := hO.2.2.1
  have hO' : ∀ k1 k2, OKs W D Z cx cy (cP c (fun b => bxU z.toInt Z v b hg) (dnM x.toInt y.toInt k1 k2 dp W D)) := fun k1 k2 => hO.cP (fun b hb => bxU_lt hZ.2 hb hg) (fun a b q => by
    unfold dnM at q
    simp only [Bool.and_eq_true, decide_eq_true_eq] at q
    exact q.1)
  have key := loop_0 (σ := St) (fun n k1 s => L_X5_box_102 post K x y z (nI wd) (nI dp) (nI hg) (bI v) n (nI (fb_sm (hX c (fun b => bxD z.toInt Z v b hg) x.toInt y.toInt W D dp) k1)) (x + nI k1) s) (fun k1 s => MIs W D Z cx cy (cP c (fun b => bxU z.toInt Z v b hg) (dnM x.toInt y.toInt k1 0 dp W D)) s) wd u ?_ ?_ ?_
  · obtain ⟨n, hn⟩ := key
    rw [show x + nI 0 = x from Int32.add_zero x] at hn
    exact ⟨n, hn⟩
  · rw [show cP c (fun b => bxU z.toInt Z v b hg) (dnM x.toInt y.toInt 0 0 dp W D) = c from by
      funext a b
      refine cP_at ?_
      unfold dnM
      rw [show bxIn x.toInt 0 a = false from decide_eq_false (by omega), show bxIn y.toInt 0 b = false from decide_eq_false (by omega)]; simp]
    exact hM
  · intro n s hs
    rw [L_X5_box_102]
    exact if_t ((le_addk hx.1 hx.2 (by omega) (by omega)).mpr (Nat.le_refl _)) (h s hs)
  · intro n k1 s hk1 hs ih
    rw [L_X5_box_102]
    refine if_f (fun q => absurd ((le_addk hx.1 hx.2 (by omega) (by omega)).mp q) (by omega)) ?_
    -- behind the row
    have next : ∀ s', MIs W D Z cx cy (cP c (fun b => bxU z.toInt Z v b hg) (dnM x.toInt y.toInt k1 dp dp W D)) s' → ∀ y_29 : Int32, y_29 = (x + nI k1) + (1 : Int32) → L_X5_box_102 post K x y z (nI wd) (nI dp) (nI hg) (bI v) n (nI (fb_sm (hX c (fun b => bxD z.toInt Z v b hg) x.toInt y.toInt W D dp) (k1 + 1))) y_29 s' := by
      intro s' hs' y29 e29
      rw [addk1] at e29
      subst e29
      refine ih s' ?_
      rw [show cP c (fun b => bxU z.toInt Z v b hg) (dnM x.toInt y.toInt (k1 + 1) 0 dp W D) = cP c (fun b => bxU z.toInt Z v b hg) (dnM x.toInt y.toInt k1 dp dp W D) from cP_eq (fun a b => by
        unfold dnM
        congr 1
        rw [show bxIn y.toInt 0 b = false from decide_eq_false (by omega), Bool.and_false, Bool.or_false]
        by_cases e : (a : Int) = x.toInt + k1
        · rw [decide_eq_true e, show bxIn x.toInt (k1 + 1) a = true from decide_eq_true (by omega), show bxIn x.toInt k1 a = false from decide_eq_false (by omega)]; simp
        · rw [decide_eq_false e, show bxIn x.toInt (k1 + 1) a = bxIn x.toInt k1 a from decide_eq_decide.mpr (by omega)]; simp)]
      exact hs'
    show ∃ n', L_X5_box_114 post _ y z (nI dp) (nI hg) (bI v) (x + nI k1) n' (nI (fb_sm (hX c (fun b => bxD z.toInt Z v b hg) x.toInt y.toInt W D dp) k1)) y s
    by_cases hin : 0 ≤ x.toInt + (k1 : Int) ∧ x.toInt + (k1 : Int) < W
    · have hq : inN (x + nI k1) W = true := by rw [inN_add hx.1 hx.2 (by omega)]; exact decide_eq_true hin
      obtain ⟨i, hi, ea⟩ := inN_t (by omega) hq
      have ei : (i : Int) = x.toInt + k1 := by
        have := congrArg Int32.toInt ea
        rw [addk hx.1 hx.2 (by omega), nI_toInt (by omega)] at this
        omega
      have ein : (x.toInt + (k1 : Int)).toNat = i := by omega
      have key2 := loop_0 (σ := St) (fun n' k2 s' => L_X5_box_114 post (fun (v9_27 : Int32) (u_28 : St) => ∀ y_29 : Int32, y_29 = (x + nI k1) + (1 : Int32) → L_X5_box_102 post K x y z (nI wd) (nI dp) (nI hg) (bI v) n v9_27 y_29 u_28) y z (nI dp) (nI hg) (bI v) (x + nI k1) n' (nI (fb_sm (hX c (fun b => bxD z.toInt Z v b hg) x.toInt y.toInt W D dp) k1 + fb_sm (hY c (fun b => bxD z.toInt Z v b hg) y.toInt D i) k2)) (y + nI k2) s') (fun k2 s' => MIs W D Z cx cy (cP c (fun b => bxU z.toInt Z v b hg) (dnM x.toInt y.toInt k1 k2 dp W D)) s') dp s hs ?_ ?_
      · obtain ⟨n', hn'⟩ := key2
        rw [show y + nI 0 = y from Int32.add_zero y] at hn'
        exact ⟨n', hn'⟩
      · intro n' s' hs'
        rw [L_X5_box_114]
        refine if_t ((le_addk hy.1 hy.2 (by omega) (by omega)).mpr (Nat.le_refl _)) ?_
        have := next s' hs'
        rw [fb_sm_succ, show hX c (fun b => bxD z.toInt Z v b hg) x.toInt y.toInt W D dp k1 = fb_sm (hY c (fun b => bxD z.toInt Z v b hg) y.toInt D i) dp from by unfold hX; rw [if_pos hin, ein]] at this
        exact this
      · intro n' k2 s' hk2 hs' ih'
        rw [L_X5_box_114]
        refine if_f (fun q => absurd ((le_addk hy.1 hy.2 (by omega) (by omega)).mp q) (by omega)) ?_
        by_cases hin2 : 0 ≤ y.toInt + (k2 : Int) ∧ y.toInt + (k2 : Int) < D
        · have hq2 : inN (y + nI k2) D = true := by rw [inN_add hy.1 hy.2 (by omega)]; exact decide_eq_true hin2
          obtain ⟨j, hj, eb⟩ := inN_t (by omega) hq2
          have ej : (j : Int) = y.toInt + k2 := by
            have := congrArg Int32.toInt eb
            rw [addk hy.1 hy.2 (by omega), nI_toInt (by omega)] at this
            omega
          have hat : cP c (fun b => bxU z.toInt Z v b hg) (dnM x.toInt y.toInt k1 k2 dp W D) i j = c i j := cP_at (by
            unfold dnM
            rw [show bxIn x.toInt k1 i = false from decide_eq_false (by omega), show bxIn y.toInt k2 j = false from decide_eq_false (by omega)]; simp)
          show ∃ n'', L_X5_box_126 post _ z (nI hg) (bI v) (x + nI k1) (y + nI k2) n'' (nI (fb_sm (hX c (fun b => bxD z.toInt Z v b hg) x.toInt y.toInt W D dp) k1 + fb_sm (hY c (fun b => bxD z.toInt Z v b hg) y.toInt D i) k2)) z s'
          rw [ea, eb]
          refine box_col (hO' k1 k2) hs' hi hj hz hh (fun s'' hs'' => ?_)
          intro y26 e26
          rw [← eb, addk1] at e26
          subst e26
          rw [hat] at hs'' ⊢
          rw [Nat.add_assoc, show fb_sm (hY c (fun b => bxD z.toInt Z v b hg) y.toInt D i) k2 + bxD z.toInt Z v (c i j) hg = fb_sm (hY c (fun b => bxD z.toInt Z v b hg) y.toInt D i) (k2 + 1) from by
            rw [fb_sm_succ]
            congr 1
            unfold hY
            rw [if_pos hin2, show (y.toInt + (k2 : Int)).toNat = j from by omega], ← ea]
          refine ih' s'' ?_
          rw [← cP_put (dn := dnM x.toInt y.toInt k1 k2 dp W D) (i := i) (j := j) ?_ ?_]
          · exact hs''
          · unfold dnM
            rw [decide_eq_true hi, decide_eq_true hj, decide_eq_true ei, show bxIn y.toInt (k2 + 1) j = true from decide_eq_true (by omega)]; simp
          · intro a b hab
            unfold dnM
            congr 1
            by_cases e : (a : Int) = x.toInt + k1
            · have : (b : Int) ≠ y.toInt + k2 := fun w => hab ⟨by omega, by omega⟩
              rw [show bxIn y.toInt (k2 + 1) b = bxIn y.toInt k2 b from decide_eq_decide.mpr (by omega)]
            · rw [decide_eq_false e]; rfl
        · show ∃ n'', L_X5_box_126 post _ z (nI hg) (bI v) (x + nI k1) (y + nI k2) n'' (nI (fb_sm (hX c (fun b => bxD z.toInt Z v b hg) x.toInt y.toInt W D dp) k1 + fb_sm (hY c (fun b => bxD z.toInt Z v b hg) y.toInt D i) k2)) z s'
          refine box_out (hO' k1 k2) hs' (by rw [show inN (y + nI k2) D = false from by rw [inN_add hy.1 hy.2 (by omega)]; exact decide_eq_false hin2, Bool.and_false]) hz hh ?_
          intro y26 e26
          rw [addk1] at e26
          subst e26
          have ih2 := ih' s'
          rw [fb_sm_succ, show hY c (fun b => bxD z.toInt Z v b hg) y.toInt D i k2 = 0 from by unfold hY; rw [if_neg hin2], Nat.add_zero (fb_sm _ k2)] at ih2
          refine ih2 ?_
          rw [show cP c (fun b => bxU z.toInt Z v b hg) (dnM x.toInt y.toInt k1 (k2 + 1) dp W D) = cP c (fun b => bxU z.toInt Z v b hg) (dnM x.toInt y.toInt k1 k2 dp W D) from cP_eq (fun a b => by
            unfold dnM
            by_cases e : (b : Int) = y.toInt + k2
            · rw [show decide (b < D) = false from decide_eq_false (by omega)]; simp
            · rw [show bxIn y.toInt (k2 + 1) b = bxIn y.toInt k2 b from decide_eq_decide.mpr (by omega)])]
          exact hs'
    · have key2 := loop_0 (σ := St) (fun n' k2 s' => L_X5_box_114 post (fun (v9_27 : Int32) (u_28 : St) => ∀ y_29 : Int32, y_29 = (x + nI k1) + (1 : Int32) → L_X5_box_102 post K x y z (nI wd) (nI dp) (nI hg) (bI v) n v9_27 y_29 u_28) y z (nI dp) (nI hg) (bI v) (x + nI k1) n' (nI (fb_sm (hX c (fun b => bxD z.toInt Z v b hg) x.toInt y.toInt W D dp) k1)) (y + nI k2) s') (fun k2 s' => s' = s) dp s rfl ?_ ?_
      · obtain ⟨n', hn'⟩ := key2
        rw [show y + nI 0 = y from Int32.add_zero y] at hn'
        exact ⟨n', hn'⟩
      · intro n' s' hs'
        subst hs'
        rw [L_X5_box_114]
        refine if_t ((le_addk hy.1 hy.2 (by omega) (by omega)).mpr (Nat.le_refl _)) ?_
        have := next s' (by
          rw [show cP c (fun b => bxU z.toInt Z v b hg) (dnM x.toInt y.toInt k1 dp dp W D) = cP c (fun b => bxU z.toInt Z v b hg) (dnM x.toInt y.toInt k1 0 dp W D) from cP_eq (fun a b => by
            unfold dnM
            by_cases e : (a : Int) = x.toInt + k1
            · rw [show decide (a < W) = false from decide_eq_false (by omega)]; simp
            · rw [decide_eq_false e]; simp)]
          exact hs)
        rw [fb_sm_succ, show hX c (fun b => bxD z.toInt Z v b hg) x.toInt y.toInt W D dp k1 = 0 from by unfold hX; rw [if_neg hin], Nat.add_zero (fb_sm _ k1)] at this
        exact this
      · intro n' k2 s' hk2 hs' ih'
        subst hs'
        rw [L_X5_box_114]
        refine if_f (fun q => absurd ((le_addk hy.1 hy.2 (by omega) (by omega)).mp q) (by omega)) ?_
        show ∃ n'', L_X5_box_126 post _ z (nI hg) (bI v) (x + nI k1) (y + nI k2) n'' (nI (fb_sm (hX c (fun b => bxD z.toInt Z v b hg) x.toInt y.toInt W D dp) k1)) z s'
        refine box_out (hO' k1 0) hs (by rw [show inN (x + nI k1) W = false from by rw [inN_add hx.1 hx.2 (by omega)]; exact decide_eq_false hin]; rfl) hz hh ?_
        intro y26 e26
        rw [addk1] at e26
        subst e26
        exact ih' s' rfl
