/-! what the reference's readers answer -/
theorem i64 (x : Int32) : x.toInt64.toInt = x.toInt := Int32.toInt_toInt64 x
theorem v_in {a b c : Int64} {post : Int32 → Prop} (h : post (bI (decide (b.toInt ≤ a.toInt ∧ a.toInt ≤ c.toInt)))) : P_X5_in a b c post := by
  unfold P_X5_in
  refine if_i ((lg_cmp_lt a b).trans (fa_lt64 a b)) (fun q => ?_) (fun q => ?_)
  · rw [decide_eq_false (by omega)] at h; exact h
  · refine if_i ((lg_cmp_gt a c).trans (fa_lt64 c a)) (fun q2 => ?_) (fun q2 => ?_)
    · rw [decide_eq_false (by omega)] at h; exact h
    · rw [decide_eq_true (by omega)] at h; exact h
theorem nI_m1 {n : Nat} (h2 : n < 4096) : (nI n - (1 : Int32)).toInt = (n : Int) - 1 := pk_sub_toInt (a := n) (b := 1) (by omega) (by decide)
theorem v_inN0 {x : Int32} {n : Nat} (h2 : n < 4096) {post : Int32 → Prop} (h : post (bI (inN x n))) : P_X5_in x.toInt64 (0 : Int64) ((nI n - (1 : Int32)).toInt64) post := by
  refine v_in ?_
  rw [i64, i64, nI_m1 h2]
  have e : decide ((0 : Int64).toInt ≤ x.toInt ∧ x.toInt ≤ (n : Int) - 1) = inN x n := by
    unfold inN
    apply decide_eq_decide.mpr
    have : (0 : Int64).toInt = 0 := by decide
    rw [this]
    omega
  rw [e]
  exact h
theorem v_inN {x : Int32} {n : Nat} (h1 : 1 ≤ n) (h2 : n < 4096) {post : Int32 → Prop} (h : post (bI (inN x n))) : P_X5_in x.toInt64 (0 : Int64) ((nI n - (1 : Int32)).toInt64) post := v_inN0 h2 h
section MRD
variable {W D Z cx cy : Nat} {c : Nat → Nat → Nat} {u : St}
theorem v_isPlace (hO : OKs W D Z cx cy c) (hM : MIs W D Z cx cy c u) {x y z : Int32} {post : Int32 → Prop} (h : post (bI (inN x W && (inN y D && inN z Z)))) : P_X5_isPlace u x y z post := by
  unfold P_X5_isPlace
  rw [hM.1, hM.2.1, hM.2.2.1]
  have hW := hO.1
  have hD := hO.2.1
  have hZ := hO.2.2.1
  refine v_inN hW.1 (by omega) ?_
  refine if_bI (fun h1 => ?_) (fun h0 => ?_)
  · rw [h1, Bool.true_and] at h
    refine v_inN hD.1 (by omega) ?_
    refine if_bI (fun h2 => ?_) (fun h0 => ?_)
    · rw [h2, Bool.true_and] at h
      refine v_inN hZ.1 (by omega) ?_
      refine if_bI (fun h3 => ?_) (fun h0 => ?_)
      · rw [h3] at h; exact h
      · rw [h0] at h; exact h
    · rw [h0, Bool.false_and] at h; exact h
  · rw [h0, Bool.false_and] at h; exact h
theorem idx3 (x y z : Nat) : (((64 : Int32) * nI x) + ((8 : Int32) * nI y)) + nI z = nI (64 * x + 8 * y + z) := by
  rw [show (64 : Int32) * nI x = nI (64 * x) from pk_mul 64 x, show (8 : Int32) * nI y = nI (8 * y) from pk_mul 8 y, nI_add, nI_add]
theorem v_has (hM : MIs W D Z cx cy c u) {x y z : Nat} (hx : x < 8) (hy : y < 8) (hz : z < 8) {post : Int32 → Prop} (h : post (bI ((c x y).testBit z))) : P_X5_has u (nI x) (nI y) (nI z) post := by
  unfold P_X5_has
  rw [idx3]
  refine ⟨vp_in_nI (by omega) (by decide), ?_⟩
  rw [nI_clamp (by omega), hM.2.2.2.2.2 x y z hx hy hz]
  exact ⟨bI_nar _, h⟩
theorem v_places (hM : MIs W D Z cx cy c u) {ax : Nat} (ha : ax < 2) {post : Int32 → Prop} (h : post (nI (rbN W D ax))) : P_X5_places u (nI ax) post := by
  unfold P_X5_places
  refine if_i (nI_eq (a := ax) (b := 0) (by omega) (by decide)) (fun q => ?_) (fun q => ?_)
  · rw [hM.1]; rw [rbN, if_pos q] at h; exact h
  · rw [hM.2.1]; rw [rbN, if_neg q] at h; exact h
theorem in01 {a : Int32} {post : Int32 → Prop} (h1 : ∀ ax, ax < 2 → a = nI ax → post 1) (h0 : ¬ a = 0 → ¬ a = 1 → post 0) : P_X5_in a.toInt64 (0 : Int64) (1 : Int64) post := by
  refine v_in ?_
  rw [i64]
  have e0 : (0 : Int64).toInt = 0 := by decide
  have e1 : (1 : Int64).toInt = 1 := by decide
  rw [e0, e1]
  by_cases q : 0 ≤ a.toInt ∧ a.toInt ≤ 1
  · rw [decide_eq_true q]
    have : ¬ a < 0 := fun z => by rw [fa_lt] at z; have e : (0 : Int32).toInt = 0 := by decide
                                  omega
    obtain ⟨j, hj, rfl⟩ := nI_of this
    rw [nI_toInt hj] at q
    exact h1 j (by omega) rfl
  · rw [decide_eq_false q]
    exact h0 (fun e => q (by subst e; decide)) (fun e => q (by subst e; decide))
theorem v_isRib (hO : OKs W D Z cx cy c) (hM : MIs W D Z cx cy c u) {a p : Int32} {post : Int32 → Prop} (h : post (bI (ribB W D a p))) : P_X5_isRib u a p post := by
  unfold P_X5_isRib
  refine in01 (fun ax hax ea => ?_) (fun q0 q1 => ?_)
  · refine if_f (by decide) ?_
    rw [ea]
    have hb := rb_bd hO ax
    refine v_places hM hax ?_
    refine v_inN hb.1 (by omega) ?_
    have e : ribB W D a p = inN p (rbN W D ax) := by
      rcases (show ax = 0 ∨ ax = 1 by omega) with q | q
      · subst q; subst ea; simp [ribB, rbN, nI]
      · subst q; subst ea; simp [ribB, rbN, nI]
    rw [e] at h
    refine if_bI (fun h1 => ?_) (fun h0 => ?_)
    · rw [h1] at h; exact h
    · rw [h0] at h; exact h
  · refine if_t rfl ?_
    rw [show ribB W D a p = false from by simp [ribB, q0, q1]] at h
    exact h
theorem ch_at (hM : MIs W D Z cx cy c u) {ax : Nat} (ha : ax < 2) : u.2 4 ax = nI (chN cx cy ax) := by
  rcases (show ax = 0 ∨ ax = 1 by omega) with q | q
  · subst q; exact hM.2.2.2.1
  · subst q; exact hM.2.2.2.2.1
theorem v_isChosenM (hO : OKs W D Z cx cy c) (hM : MIs W D Z cx cy c u) {ax pl : Nat} (ha : ax < 2) (hp : pl < 8) {post : Int32 → Prop} (h : post (bI ((chN cx cy ax).testBit pl))) : P_X5_isChosen u (nI ax) (nI pl) post := by
  unfold P_X5_isChosen
  refine ⟨vp_in_nI ha (by decide), ?_⟩
  rw [nI_clamp (by omega), ch_at hM ha]
  refine if_i (bit_dec (ch_8 hO ax) hp) (fun q => ?_) (fun q => ?_)
  · rw [q] at h; exact h
  · rw [Bool.eq_false_iff.mpr q] at h; exact h
theorem v_hasIn (hM : MIs W D Z cx cy c u) {ax pl v z : Nat} (ha : ax < 2) (hp : pl < 8) (hv : v < 8) (hz : z < 8) {post : Int32 → Prop} (h : post (bI ((rcl c ax pl v).testBit z))) : P_X5_hasIn u (nI ax) (nI pl) (nI v) (nI z) post := by
  unfold P_X5_hasIn
  refine if_i (nI_eq (a := ax) (b := 0) (by omega) (by decide)) (fun q => ?_) (fun q => ?_)
  · rw [rcl, if_pos q] at h
    exact v_has hM hp hv hz ⟨bI_nar _, h⟩
  · rw [rcl, if_neg q] at h
    exact v_has hM hv hp hz ⟨bI_nar _, h⟩
end MRD
-- the runs of a column, as the reference notes them
def upN1 (f : Nat → Nat) (k v : Nat) : Nat → Nat := fun j => if j = k then v else f j
def frS (b : Nat) : Nat → Nat × (Nat → Nat) × (Nat → Nat)
  | 0 => (0, fun _ => 0, fun _ => 0)
  | z + 1 => if b.testBit z then (if bgN b z then ((frS b z).1 + 1, upN1 (frS b z).2.1 (frS b z).1 z, upN1 (frS b z).2.2 (frS b z).1 1) else ((frS b z).1, (frS b z).2.1, upN1 (frS b z).2.2 ((frS b z).1 - 1) ((frS b z).2.2 ((frS b z).1 - 1) + 1))) else frS b z
set_option maxRecDepth 100000 in
theorem fr_dec0 : ∀ b : Fin 256, ∀ z : Fin 8, (bgN b.val z.val = true → (frS b.val z.val).1 < 4) ∧ (b.val.testBit z.val = true → bgN b.val z.val = false → 0 < (frS b.val z.val).1 ∧ (frS b.val z.val).1 ≤ 4) := by decide +kernel
/-- the same but for the notes of runs -/
def mR (u u' : St) : Prop := u'.1 = u.1 ∧ ∀ k, k ≠ 6 → k ≠ 7 → u'.2 k = u.2 k
theorem mR.rf {u : St} : mR u u := ⟨rfl, fun _ _ _ => rfl⟩
theorem mR.tr {u v w : St} (h : mR u v) (h2 : mR v w) : mR u w := ⟨h2.1.trans h.1, fun k a b => (h2.2 k a b).trans (h.2 k a b)⟩
theorem mR.MI {W D Z cx cy : Nat} {c : Nat → Nat → Nat} {u v : St} (h : mR u v) (hM : MIs W D Z cx cy c u) : MIs W D Z cx cy c v := by
  unfold MIs
  rw [h.1, h.2 3 (by decide) (by decide), h.2 4 (by decide) (by decide)]
  exact hM
def frI (b z : Nat) (u : St) : Prop := ∀ k, k < (frS b z).1 → u.2 6 k = nI ((frS b z).2.1 k) ∧ u.2 7 k = nI ((frS b z).2.2 k)
theorem frS_hi {b Z : Nat} (h : b < 2 ^ Z) : ∀ d, frS b (Z + d) = frS b Z
  | 0 => rfl
  | d + 1 => by
    have e : b.testBit (Z + d) = false := Nat.testBit_lt_two_pow (Nat.lt_of_lt_of_le h (Nat.pow_le_pow_right (by decide) (Nat.le_add_right Z d)))
    show frS b (Z + d + 1) = _
    rw [frS, if_neg (by rw [e]; decide)]
    exact frS_hi h d
theorem frS_8 {b Z : Nat} (h : b < 2 ^ Z) (hZ : Z ≤ 8) : frS b Z = frS b 8 := by
  have := frS_hi h (8 - Z)
  rw [show Z + (8 - Z) = 8 from by omega] at this
  exact this.symm
set_option maxRecDepth 100000 in
theorem fr_cnt0 : ∀ b : Fin 256, (frS b.val 8).1 = rcN b.val ∧ rcN b.val ≤ 4 := by decide +kernel
theorem v_findRuns {W D Z cx cy : Nat} {c : Nat → Nat → Nat} {u : St} (hO : OKs W D Z cx cy c) (hM : MIs W D Z cx cy c u) {x y : Nat} (hx : x < 8) (hy : y < 8) {post : Int32 → St → Prop} (h : ∀ u', mR u u' → frI (c x y) 8 u' → post (nI (rcN (c x y))) u') : P_X5_findRuns u (nI x) (nI y) post := by
  have hZ := hO.2.2.1
  have hc := hO.c8 x y
  show ∃ n, L_X5_findRuns_5 post (fun v w => post v w) (nI x) (nI y) n (0 : Int32) (0 : Int32) u
  have key := loop_0 (σ := St) (fun n i s => L_X5_findRuns_5 post (fun v w => post v w) (nI x) (nI y) n (nI (frS (c x y) i).1) (nI i) s) (fun i s => mR u s ∧ frI (c x y) i s) Z u ⟨mR.rf, fun k hk => absurd hk (Nat.not_lt_zero k)⟩ ?_ ?_
  · exact key
  · intro n s hs
    show L_X5_findRuns_5 post (fun v w => post v w) (nI x) (nI y) (n + 1) (nI (frS (c x y) Z).1) (nI Z) s
    rw [L_X5_findRuns_5]
    have hM' := hs.1.MI hM
    refine if_t (by rw [hM'.2.2.1]; exact nI_le (Nat.le_refl _) (by omega)) ?_
    have e := frS_8 (hO.2.2.2.2.2.1 x y) hZ.2
    have e2 := hs.2
    unfold frI at e2
    rw [e] at e2
    show post (nI (frS (c x y) Z).1) s
    rw [e, (fr_cnt0 ⟨c x y, hc⟩).1]
    exact h s hs.1 e2
  · intro n z s hz hs ih
    show L_X5_findRuns_5 post (fun v w => post v w) (nI x) (nI y) (n + 1) (nI (frS (c x y) z).1) (nI z) s
    rw [L_X5_findRuns_5]
    have hM' := hs.1.MI hM
    have hz8 : z < 8 := by omega
    obtain ⟨d1, d2⟩ := fr_dec0 ⟨c x y, hc⟩ ⟨z, hz8⟩
    dsimp only at d1 d2
    refine if_f (fun q => ?_) ?_
    · rw [hM'.2.2.1] at q
      exact absurd ((nI_leI (by omega) (by omega)).mp q) (by omega)
    · refine v_has hM' hx hy hz8 ?_
      -- the two ways of a bit that is set
      have begin_ : bgN (c x y) z = true → (c x y).testBit z = true → vp_in (nI (frS (c x y) z).1) 4 ∧ ∀ u_6 : St, u_6 = (s.1, va_up s.2 6 (upd (s.2 6) (nI (frS (c x y) z).1).toNatClampNeg (nI z))) → vp_in (nI (frS (c x y) z).1) 4 ∧ ∀ u_7 : St, u_7 = (u_6.1, va_up u_6.2 7 (upd (u_6.2 7) (nI (frS (c x y) z).1).toNatClampNeg (0 : Int32))) → ∀ y_8 : Int32, y_8 = nI (frS (c x y) z).1 + (1 : Int32) → vp_in (y_8 - (1 : Int32)) 4 ∧ (∀ y_11 : Int32, y_11 = ((u_7.2 7 (y_8 - (1 : Int32)).toNatClampNeg) + (1 : Int32)) → vp_in (y_8 - (1 : Int32)) 4 ∧ ∀ u_12 : St, u_12 = (u_7.1, va_up u_7.2 7 (upd (u_7.2 7) (y_8 - (1 : Int32)).toNatClampNeg y_11)) → ∀ y_15 : Int32, y_15 = nI z + (1 : Int32) → L_X5_findRuns_5 post (fun v w => post v w) (nI x) (nI y) n y_8 y_15 u_12) := by
        intro hb hbit
        have hn := d1 hb
        have hcl : (nI (frS (c x y) z).1).toNatClampNeg = (frS (c x y) z).1 := nI_clamp (by omega)
        refine ⟨vp_in_nI hn (by decide), ?_⟩
        intro u6 e6
        refine ⟨vp_in_nI hn (by decide), ?_⟩
        intro u7 e7 y8 e8
        rw [show nI (frS (c x y) z).1 + (1 : Int32) = nI ((frS (c x y) z).1 + 1) from nI_1 _] at e8
        subst e8
        have e9 : nI ((frS (c x y) z).1 + 1) - (1 : Int32) = nI (frS (c x y) z).1 := nI_pred _
        rw [e9, hcl]
        refine ⟨vp_in_nI hn (by decide), ?_⟩
        intro y11 e11
        refine ⟨vp_in_nI hn (by decide), ?_⟩
        intro u12 e12 y15 e15
        rw [show nI z + (1 : Int32) = nI (z + 1) from nI_1 z] at e15
        subst e15
        have ef : frS (c x y) (z + 1) = ((frS (c x y) z).1 + 1, upN1 (frS (c x y) z).2.1 (frS (c x y) z).1 z, upN1 (frS (c x y) z).2.2 (frS (c x y) z).1 1) := by rw [frS, if_pos hbit, if_pos hb]
        have e1 : (frS (c x y) (z + 1)).1 = (frS (c x y) z).1 + 1 := by rw [ef]
        rw [← e1]
        refine ih u12 ⟨?_, ?_⟩
        · refine hs.1.tr ?_
          subst e6 e7 e12
          exact ⟨rfl, fun k a b => by simp [va_up, a, b]⟩
        · intro k hk
          rw [ef] at hk ⊢
          dsimp only at hk ⊢
          rw [hcl] at e6 e7
          subst e6 e7
          have e11' : y11 = 1 := by rw [e11]; simp [va_up, upd]
          subst e12 e11'
          by_cases ek : k = (frS (c x y) z).1
          · subst ek
            simp [va_up, upd, upN1, nI]
          · have := hs.2 k (by omega)
            simp [va_up, upd, upN1, ek, this.1, this.2]
      refine if_bI (fun h1 => ?_) (fun h0 => ?_)
      · show if nI z = 0 then _ else _
        refine if_i (nI_eq (a := z) (b := 0) (by omega) (by decide)) (fun q => ?_) (fun q => ?_)
        · exact begin_ (by subst q; simp [bgN, h1]) h1
        · rw [show nI z - (1 : Int32) = nI (z - 1) from pk_sub (b := 1) (by omega)]
          refine v_has hM' hx hy (by omega) ?_
          refine if_bI (fun h2 => ?_) (fun h2 => ?_)
          · have hb : bgN (c x y) z = false := by simp [bgN, h1, h2, q]
            obtain ⟨n1, n2⟩ := d2 h1 hb
            dsimp only
            rw [show nI (frS (c x y) z).1 - (1 : Int32) = nI ((frS (c x y) z).1 - 1) from pk_sub (b := 1) n1]
            have hcl : (nI ((frS (c x y) z).1 - 1)).toNatClampNeg = (frS (c x y) z).1 - 1 := nI_clamp (by omega)
            rw [hcl]
            refine ⟨vp_in_nI (by omega) (by decide), ?_⟩
            intro y11 e11
            refine ⟨vp_in_nI (by omega) (by decide), ?_⟩
            intro u12 e12 y15 e15
            rw [show nI z + (1 : Int32) = nI (z + 1) from nI_1 z] at e15
            subst e15
            have ef : frS (c x y) (z + 1) = ((frS (c x y) z).1, (frS (c x y) z).2.1, upN1 (frS (c x y) z).2.2 ((frS (c x y) z).1 - 1) ((frS (c x y) z).2.2 ((frS (c x y) z).1 - 1) + 1)) := by rw [frS, if_pos h1, if_neg (by rw [hb]; decide)]
            have e1 : (frS (c x y) (z + 1)).1 = (frS (c x y) z).1 := by rw [ef]
            rw [← e1]
            refine ih u12 ⟨?_, ?_⟩
            · refine hs.1.tr ?_
              subst e12
              exact ⟨rfl, fun k a b => by simp [va_up, b]⟩
            · intro k hk
              rw [ef] at hk ⊢
              dsimp only at hk ⊢
              subst e12
              have hk1 := hs.2 k hk
              have hk2 := hs.2 ((frS (c x y) z).1 - 1) (by omega)
              by_cases ek : k = (frS (c x y) z).1 - 1
              · subst ek
                refine ⟨?_, ?_⟩
                · simp [va_up, hk1.1]
                · simp only [va_up, upd, upN1, if_pos rfl, if_true]
                  rw [e11, hk2.2]
                  exact nI_1 _
              · simp [va_up, upd, upN1, ek, hk1.1, hk1.2]
          · have hb : bgN (c x y) z = true := by simp [bgN, h1, h2]
            exact begin_ hb h1
      · intro y15 e15
        rw [show nI z + (1 : Int32) = nI (z + 1) from nI_1 z] at e15
        subst e15
        have ef : frS (c x y) (z + 1) = frS (c x y) z := by rw [frS, if_neg (by rw [h0]; decide)]
        have e1 : (frS (c x y) (z + 1)).1 = (frS (c x y) z).1 := by rw [ef]
        rw [← e1]
        refine ih s ⟨hs.1, ?_⟩
        intro k hk
        rw [ef] at hk ⊢
        exact hs.2 k hk
