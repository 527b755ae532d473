/-! the best choice, both sides -/
def cand (W D a b p q : Nat) : Prop := p < 2 ^ W ∧ q < 2 ^ D ∧ pcN p = a ∧ pcN q = b
theorem cand_some {W D a b : Nat} (hW : W ≤ 8) (hD : D ≤ 8) (ha : a ≤ W) (hb : b ≤ D) : cand W D a b (2 ^ a - 1) (2 ^ b - 1) := by
  have h1 : 2 ^ a ≤ 2 ^ W := Nat.pow_le_pow_right (by decide) ha
  have h2 : 2 ^ b ≤ 2 ^ D := Nat.pow_le_pow_right (by decide) hb
  have p1 := Nat.two_pow_pos a
  have p2 := Nat.two_pow_pos b
  have e1 := pc_dec ⟨a, by omega⟩
  have e2 := pc_dec ⟨b, by omega⟩
  exact ⟨by omega, by omega, e1, e2⟩
theorem rc_pc (b : Nat) : rcN b ≤ pcN b := by
  have key : ∀ n, fa_cnt (fun z => bgN b z) n ≤ fa_cnt (fun z => b.testBit z) n := by
    intro n
    induction n with
    | zero => exact Nat.le_refl _
    | succ n ih =>
      by_cases h : b.testBit n = true
      · rw [fa_cnt_yes (p := fun z => b.testBit z) h]
        by_cases g : bgN b n = true
        · rw [fa_cnt_yes (p := fun z => bgN b z) g]
          omega
        · rw [fa_cnt_no (p := fun z => bgN b z) (Bool.eq_false_iff.mpr g)]
          omega
      · have g : bgN b n = false := by
          unfold bgN
          rw [Bool.eq_false_iff.mpr h, Bool.false_and]
        rw [fa_cnt_no (p := fun z => b.testBit z) (Bool.eq_false_iff.mpr h), fa_cnt_no (p := fun z => bgN b z) g]
        exact ih
  exact key 8
theorem cat_cov (W D : Nat) (c : Nat → Nat → Nat) (p q : Nat) : catN W D c p q ≤ covN W D c p q := by
  unfold catN covN
  refine fb_sm_le (fun x _ => fb_sm_le (fun y _ => ?_))
  have hr := rc_pc (c x y)
  unfold caG cvG
  cases p.testBit x <;> cases q.testBit y <;> by_cases h1 : 1 < rcN (c x y) <;> simp [h1] <;> omega
theorem wo_nn (W D : Nat) (c : Nat → Nat → Nat) (p q : Nat) : 0 ≤ wo W D c p q := by
  have := cat_cov W D c p q
  unfold wo
  omega
section BES
variable {W D Z cx cy : Nat} {c : Nat → Nat → Nat} {u : St}
theorem wo_rng (hO : OKs W D Z cx cy c) (p q : Nat) : -1000000 ≤ wo W D c p q ∧ wo W D c p q ≤ 1000000 := by
  have := cov_le hO.1.2 hO.2.1.2 c p q
  have := cat_le hO.1.2 hO.2.1.2 c p q
  unfold wo
  omega
def CBi (W D : Nat) (c : Nat → Nat → Nat) (a b : Nat) (u0 : St) (p : Nat) (x : Int32 × Int32 × Int32 × St) : Prop := uG u0 x.2.2.2 ∧ (((∀ p' q', ¬ (cand W D a b p' q' ∧ p' < p)) ∧ x.2.2.1 = -1) ∨ ∃ bp bq, Bst (wo W D c) (fun p' q' => cand W D a b p' q' ∧ p' < p) bp bq ∧ x.1 = nI bp ∧ x.2.1 = nI bq ∧ x.2.2.1 = zI (wo W D c bp bq))
theorem v_chooseBest (hO : OKs W D Z cx cy c) (hS : SIs W D Z cx cy c u) {a b : Nat} (ha : a ≤ W) (hb : b ≤ D) {post : St → Prop} (h : ∀ bp bq, Bst (wo W D c) (cand W D a b) bp bq → ∀ u', SIs W D Z bp bq c u' → post u') : P_X3_chooseBest u (nI a) (nI b) post := by
  have hW := hO.1
  have hD := hO.2.1
  have hW8 : 2 ^ W ≤ 256 := OKs.pw hW.2
  have hD8 : 2 ^ D ≤ 256 := OKs.pw hD.2
  have hsh : ((1 : Int32) <<< (nI W &&& 31)) = nI (2 ^ W) := sh_dec0 ⟨W, by omega⟩
  show ∃ n, L_X3_chooseBest_11 post (fun (v3_18 : Int32) (v4_19 : Int32) (u_20 : St) => ∀ u_21 : St, u_21 = (upd u_20.1 5 v3_18, u_20.2) → ∀ u_22 : St, u_22 = (upd u_21.1 6 v4_19, u_21.2) → post u_22) (nI a) (nI b) n (0 : Int32) (0 : Int32) (-1 : Int32) (0 : Int32) u
  refine loop_0 (σ := Int32 × Int32 × Int32 × St) (fun n p x => L_X3_chooseBest_11 post (fun (v3_18 : Int32) (v4_19 : Int32) (u_20 : St) => ∀ u_21 : St, u_21 = (upd u_20.1 5 v3_18, u_20.2) → ∀ u_22 : St, u_22 = (upd u_21.1 6 v4_19, u_21.2) → post u_22) (nI a) (nI b) n x.1 x.2.1 x.2.2.1 (nI p) x.2.2.2) (fun p x => CBi W D c a b u p x) (2 ^ W) (0, 0, -1, u) ⟨uG.rf, Or.inl ⟨fun p' q' w => absurd w.2 (Nat.not_lt_zero p'), rfl⟩⟩ ?_ ?_
  · intro n x hx
    have hS' := hx.1.SI hS
    rw [L_X3_chooseBest_11, hS'.1, hsh]
    refine if_t (nI_le (Nat.le_refl _) (by omega)) ?_
    intro u21 e21 u22 e22
    rcases hx.2 with ⟨hno, _⟩ | ⟨bp, bq, hB, e1, e2, _⟩
    · have hc := cand_some hW.2 hD.2 ha hb
      exact absurd ⟨hc, hc.1⟩ (hno _ _)
    · have hB' : Bst (wo W D c) (cand W D a b) bp bq := hB.of (fun p q => ⟨fun w => ⟨w, w.1⟩, fun w => w.1⟩)
      refine h bp bq hB' u22 ?_
      subst e22 e21
      exact ⟨hS'.1, hS'.2.1, hS'.2.2.1, e1, e2, hS'.2.2.2.2.2⟩
  · intro n p x hp hx ih
    have hS' := hx.1.SI hS
    rw [L_X3_chooseBest_11, hS'.1, hsh, show nI p + (1 : Int32) = nI (p + 1) from nI_1 p]
    refine if_f (fun q => absurd ((nI_leI (by omega) (by omega)).mp q) (by omega)) ?_
    refine v_bitCount (by omega) ?_
    have hpc := pc_le p
    refine if_i (nI_eq (by omega) (by omega)) (fun ea => ?_) (fun ea => ?_)
    · refine v_reckonGains hO hS' (by omega) (fun u8 hu8 hg => ?_)
      have hS8 := hu8.SI hS'
      refine v_greatestGains hO hS8 hg (gn_rng hW.2 c p) hb (fun t ht => ?_)
      have ht8 : t < 256 := by have := ht.1; omega
      refine v_worthAlone hO hS8 (by omega) ?_
      refine v_sumOfGains hO hS8 hg ht8 ?_
      intro y12 e12
      rw [zI_add, ← wo_eq] at e12
      have r1 := wo_rng hO p t
      have hct : cand W D a b p t := ⟨hp, ht.1, ea, by rw [← pc_cnt hD.2 ht.1]; exact ht.2.1⟩
      have hbest : ∀ q, q < 2 ^ D → pcN q = b → wo W D c p q < wo W D c p t ∨ (wo W D c p q = wo W D c p t ∧ t ≤ q) := by
        intro q hq hqb
        have := ht.best hD.2 hq (by rw [pc_cnt hD.2 hq]; exact hqb)
        rw [wo_eq W D c p q, wo_eq W D c p t]
        omega
      have take : (∀ p' q', cand W D a b p' q' ∧ p' < p → wo W D c p' q' < wo W D c p t) → ∀ y_17 : Int32, y_17 = nI (p + 1) → L_X3_chooseBest_11 post (fun (v3_18 : Int32) (v4_19 : Int32) (u_20 : St) => ∀ u_21 : St, u_21 = (upd u_20.1 5 v3_18, u_20.2) → ∀ u_22 : St, u_22 = (upd u_21.1 6 v4_19, u_21.2) → post u_22) (nI a) (nI b) n (nI p) (nI t) y12 y_17 u8 := by
        intro hold y17 e17
        subst e17
        refine ih (nI p, nI t, y12, u8) ⟨hx.1.tr hu8, Or.inr ⟨p, t, ⟨⟨hct, by omega⟩, fun p' q' w => ?_⟩, rfl, rfl, e12⟩⟩
        by_cases z : p' = p
        · subst z
          have := hbest q' w.1.2.1 w.1.2.2.2
          omega
        · exact Or.inl (hold p' q' ⟨w.1, by omega⟩)
      rcases hx.2 with ⟨hno, e5⟩ | ⟨bp, bq, hB, e1, e2, e5⟩
      · rw [e12, e5]
        refine if_f (fun q => ?_) ?_
        · rw [fa_le, zI_toInt (by omega) (by omega), show (-1 : Int32).toInt = -1 from by decide] at q
          have r0 := wo_nn W D c p t
          omega
        · rw [← e12]
          exact take (fun p' q' w => absurd w (hno p' q'))
      · have r2 := wo_rng hO bp bq
        rw [e12, e5]
        refine if_i (zI_le r1.1 r1.2 r2.1 r2.2) (fun q => ?_) (fun q => ?_)
        · intro y17 e17
          subst e17
          refine ih (x.1, x.2.1, zI (wo W D c bp bq), u8) ⟨hx.1.tr hu8, Or.inr ⟨bp, bq, ⟨⟨hB.1.1, by have := hB.1.2; omega⟩, fun p' q' w => ?_⟩, e1, e2, rfl⟩⟩
          by_cases z : p' = p
          · subst z
            have := hbest q' w.1.2.1 w.1.2.2.2
            have := hB.1.2
            omega
          · exact hB.2 p' q' ⟨w.1, by omega⟩
        · rw [← e12]
          refine take (fun p' q' w => ?_)
          have := hB.2 p' q' w
          omega
    · intro y17 e17
      subst e17
      refine ih x ⟨hx.1, ?_⟩
      have same : ∀ p' q', (cand W D a b p' q' ∧ p' < p + 1) ↔ (cand W D a b p' q' ∧ p' < p) := by
        intro p' q'
        constructor
        · rintro ⟨w, w2⟩
          refine ⟨w, ?_⟩
          by_cases z : p' = p
          · subst z; exact absurd w.2.2.1 ea
          · omega
        · rintro ⟨w, w2⟩; exact ⟨w, by omega⟩
      rcases hx.2 with ⟨hno, e5⟩ | ⟨bp, bq, hB, e1, e2, e5⟩
      · exact Or.inl ⟨fun p' q' w => hno p' q' ((same p' q').mp w), e5⟩
      · exact Or.inr ⟨bp, bq, hB.of same, e1, e2, e5⟩
set_option maxRecDepth 100000 in
theorem one_dec0 : ∀ b : Fin 256, ∀ p : Fin 8, ((nI b.val >>> (nI p.val &&& 31)) &&& 1) = nI (if b.val.testBit p.val then 1 else 0) := by decide +kernel
theorem v_ones {b : Nat} (hb : b < 256) {post : Int32 → Prop} (h : post (nI (pcN b))) : P_X5_ones (nI b) post := by
  show ∃ n, L_X5_ones_4 post (fun (v1_5 : Int32) => post v1_5) (nI b) n (0 : Int32) (0 : Int32)
  refine loop_0 (σ := Unit) (fun n r _ => L_X5_ones_4 post (fun (v1_5 : Int32) => post v1_5) (nI b) n (nI (fa_cnt (fun z => b.testBit z) r)) (nI r)) (fun _ _ => True) 8 () trivial ?_ ?_
  · intro n _ _
    rw [L_X5_ones_4]
    exact if_t (by decide) h
  · intro n r _ hr _ ih
    have ih := ih () trivial
    have d := one_dec0 ⟨b, hb⟩ ⟨r, hr⟩
    dsimp only at d
    rw [L_X5_ones_4, show nI r + (1 : Int32) = nI (r + 1) from nI_1 r, d, nI_add]
    refine if_f (fun q => absurd ((nI_leI (a := 8) (by decide) (by omega)).mp q) (by omega)) ?_
    intro y3 e3 y4 e4
    subst e3 e4
    exact ih
def Cpq (W D a b p q p' q' : Nat) : Prop := cand W D a b p' q' ∧ (p' < p ∨ (p' = p ∧ q' < q))
def MBi (W D : Nat) (c : Nat → Nat → Nat) (C : Nat → Nat → Prop) (x : Int32 × Int32 × Int32 × Int32) : Prop := ((∀ p' q', ¬ C p' q') ∧ x.1 = -1) ∨ ∃ bp bq, Bst (wo W D c) C bp bq ∧ x.1 = nI (covN W D c bp bq) ∧ x.2.1 = nI (catN W D c bp bq) ∧ x.2.2.1 = nI bp ∧ x.2.2.2 = nI bq
theorem MBi.of {C C' : Nat → Nat → Prop} {x : Int32 × Int32 × Int32 × Int32} (h : MBi W D c C x) (e : ∀ p q, C' p q ↔ C p q) : MBi W D c C' x := by
  rcases h with ⟨h1, h2⟩ | ⟨bp, bq, hB, h2⟩
  · exact Or.inl ⟨fun p q w => h1 p q ((e p q).mp w), h2⟩
  · exact Or.inr ⟨bp, bq, hB.of e, h2⟩
theorem v_bestM (hO : OKs W D Z cx cy c) (hM : MIs W D Z cx cy c u) (hL : ∀ x y, x < W → y < D → lkI c u x y) {a b : Nat} (ha : a ≤ W) (hb : b ≤ D) {post : Int32 → St → Prop} {K : Int32 → Int32 → Int32 → Prop} (h : ∀ bp bq, Bst (wo W D c) (cand W D a b) bp bq → K (nI (covN W D c bp bq)) (nI bp) (nI bq)) : ∃ n, L_X5_best_49 post K (nI a) (nI b) u n (-1 : Int32) (0 : Int32) (0 : Int32) (0 : Int32) (0 : Int32) := by
  have hW := hO.1
  have hD := hO.2.1
  have hW8 : 2 ^ W ≤ 256 := OKs.pw hW.2
  have hD8 : 2 ^ D ≤ 256 := OKs.pw hD.2
  have hshW : ((1 : Int32) <<< (nI W &&& 31)) = nI (2 ^ W) := sh_dec0 ⟨W, by omega⟩
  have hshD : ((1 : Int32) <<< (nI D &&& 31)) = nI (2 ^ D) := sh_dec0 ⟨D, by omega⟩
  refine loop_0 (σ := Int32 × Int32 × Int32 × Int32) (fun n p x => L_X5_best_49 post K (nI a) (nI b) u n x.1 x.2.1 x.2.2.1 x.2.2.2 (nI p)) (fun p x => MBi W D c (Cpq W D a b p 0) x) (2 ^ W) (-1, 0, 0, 0) (Or.inl ⟨fun p' q' w => by have := w.2; omega, rfl⟩) ?_ ?_
  · intro n x hx
    rw [L_X5_best_49, hM.1, hshW]
    refine if_t (nI_le (Nat.le_refl _) (by omega)) ?_
    rcases hx with ⟨hno, _⟩ | ⟨bp, bq, hB, e1, e2, e3, e4⟩
    · have hc := cand_some hW.2 hD.2 ha hb
      exact absurd ⟨hc, Or.inl hc.1⟩ (hno _ _)
    · rw [e1, e3, e4]
      exact h bp bq (hB.of (fun p q => ⟨fun w => ⟨w, Or.inl w.1⟩, fun w => w.1⟩))
  · intro n p x hp hx ih
    rw [L_X5_best_49, hM.1, hshW, show nI p + (1 : Int32) = nI (p + 1) from nI_1 p]
    refine if_f (fun q => absurd ((nI_leI (by omega) (by omega)).mp q) (by omega)) ?_
    refine loop_0 (σ := Int32 × Int32 × Int32 × Int32) (fun n' q x' => L_X5_best_63 post (fun (v3_25 : Int32) (v4_26 : Int32) (v5_27 : Int32) (v6_28 : Int32) => ∀ y_29 : Int32, y_29 = nI (p + 1) → L_X5_best_49 post K (nI a) (nI b) u n v3_25 v4_26 v5_27 v6_28 y_29) (nI a) (nI b) u (nI p) n' x'.1 x'.2.1 x'.2.2.1 x'.2.2.2 (nI q)) (fun q x' => MBi W D c (Cpq W D a b p q) x') (2 ^ D) x hx ?_ ?_
    · intro n' x' hx'
      rw [L_X5_best_63, hM.2.1, hshD]
      refine if_t (nI_le (Nat.le_refl _) (by omega)) ?_
      intro y29 e29
      subst e29
      refine ih x' (hx'.of (fun p' q' => ?_))
      constructor
      · rintro ⟨w, w2⟩; exact ⟨w, by have := w.2.1; omega⟩
      · rintro ⟨w, w2⟩; exact ⟨w, by omega⟩
    · intro n' q x' hq hx' ih'
      rw [L_X5_best_63, hM.2.1, hshD, show nI q + (1 : Int32) = nI (q + 1) from nI_1 q]
      refine if_f (fun q => absurd ((nI_leI (by omega) (by omega)).mp q) (by omega)) ?_
      have hpp := pc_le p
      have hpq := pc_le q
      refine v_ones (by omega) ?_
      refine if_i (nI_eq (by omega) (by omega)) (fun ea => ?_) (fun ea => ?_)
      · refine v_ones (by omega) ?_
        refine if_i (nI_eq (by omega) (by omega)) (fun eb => ?_) (fun eb => ?_)
        · refine v_coverOf hO hM hL (by omega) (by omega) ?_
          have hc : cand W D a b p q := ⟨hp, hq, ea, eb⟩
          have b1 := cov_le hW.2 hD.2 c p q
          have b2 := cat_le hW.2 hD.2 c p q
          have take : (∀ p' q', Cpq W D a b p q p' q' → wo W D c p' q' < wo W D c p q) → P_X5_caughtOf u (nI p) (nI q) (fun r_19 : Int32 => ∀ y_24 : Int32, y_24 = nI (q + 1) → L_X5_best_63 post (fun (v3_25 : Int32) (v4_26 : Int32) (v5_27 : Int32) (v6_28 : Int32) => ∀ y_29 : Int32, y_29 = nI (p + 1) → L_X5_best_49 post K (nI a) (nI b) u n v3_25 v4_26 v5_27 v6_28 y_29) (nI a) (nI b) u (nI p) n' (nI (covN W D c p q)) r_19 (nI p) (nI q) y_24) := by
            intro hold
            refine v_caughtOf hO hM hL (by omega) (by omega) ?_
            intro y24 e24
            subst e24
            refine ih' (nI (covN W D c p q), nI (catN W D c p q), nI p, nI q) (Or.inr ⟨p, q, ⟨⟨hc, by omega⟩, fun p' q' w => ?_⟩, rfl, rfl, rfl, rfl⟩)
            by_cases z : p' = p ∧ q' = q
            · rw [z.1, z.2]
              omega
            · exact Or.inl (hold p' q' ⟨w.1, by have := w.2; omega⟩)
          have keep : ∀ bp bq, Bst (wo W D c) (Cpq W D a b p q) bp bq → x'.1 = nI (covN W D c bp bq) → x'.2.1 = nI (catN W D c bp bq) → x'.2.2.1 = nI bp → x'.2.2.2 = nI bq → wo W D c p q ≤ wo W D c bp bq → ∀ y_24 : Int32, y_24 = nI (q + 1) → L_X5_best_63 post (fun (v3_25 : Int32) (v4_26 : Int32) (v5_27 : Int32) (v6_28 : Int32) => ∀ y_29 : Int32, y_29 = nI (p + 1) → L_X5_best_49 post K (nI a) (nI b) u n v3_25 v4_26 v5_27 v6_28 y_29) (nI a) (nI b) u (nI p) n' x'.1 x'.2.1 x'.2.2.1 x'.2.2.2 y_24 := by
            intro bp bq hB e1 e2 e3 e4 hle y24 e24
            subst e24
            have hB1 := hB.1.2
            refine ih' x' (Or.inr ⟨bp, bq, ⟨⟨hB.1.1, by omega⟩, fun p' q' w => ?_⟩, e1, e2, e3, e4⟩)
            by_cases z : p' = p ∧ q' = q
            · rw [z.1, z.2]
              omega
            · exact hB.2 p' q' ⟨w.1, by have := w.2; omega⟩
          rcases hx' with ⟨hno, e1⟩ | ⟨bp, bq, hB, e1, e2, e3, e4⟩
          · refine if_t ?_ (take (fun p' q' w => absurd w (hno p' q')))
            rw [e1, fa_lt, nI_toInt (by omega), show (-1 : Int32).toInt = -1 from by decide]
            omega
          · have b3 := cov_le hW.2 hD.2 c bp bq
            have b4 := cat_le hW.2 hD.2 c bp bq
            have w1 : wo W D c p q = 128 * (covN W D c p q : Int) - (catN W D c p q : Int) := rfl
            have w2 : wo W D c bp bq = 128 * (covN W D c bp bq : Int) - (catN W D c bp bq : Int) := rfl
            have better : wo W D c bp bq < wo W D c p q → ∀ p' q', Cpq W D a b p q p' q' → wo W D c p' q' < wo W D c p q := by
              intro hlt p' q' w
              have := hB.2 p' q' w
              omega
            have kp := keep bp bq hB e1 e2 e3 e4
            refine if_i (d := covN W D c bp bq < covN W D c p q) (by rw [e1]; exact nI_ltI (by omega) (by omega)) (fun z => take (better (by omega))) (fun z => ?_)
            refine if_i (d := covN W D c p q = covN W D c bp bq) (by rw [e1]; exact nI_eq (by omega) (by omega)) (fun z2 => ?_) (fun z2 => kp (by omega))
            refine v_caughtOf hO hM hL (by omega) (by omega) ?_
            exact if_i (d := catN W D c bp bq ≤ catN W D c p q) (by rw [e2]; exact nI_leI (by omega) (by omega)) (fun z3 => kp (by omega)) (fun z3 => take (better (by omega)))
        · intro y24 e24
          subst e24
          refine ih' x' (hx'.of (fun p' q' => ?_))
          constructor
          · rintro ⟨w, w2⟩
            refine ⟨w, ?_⟩
            by_cases z : q' = q
            · subst z; exact absurd w.2.2.2 eb
            · omega
          · rintro ⟨w, w2⟩; exact ⟨w, by omega⟩
      · intro y29 e29
        subst e29
        refine ih x' (hx'.of (fun p' q' => ?_))
        constructor
        · rintro ⟨w, w2⟩
          refine ⟨w, ?_⟩
          by_cases z : p' = p
          · subst z; exact absurd w.2.2.1 ea
          · omega
        · rintro ⟨w, w2⟩; exact ⟨w, by omega⟩
end BES
theorem op_best {ux : St × St} {um : St} (hI : Inv ux um) (a b : Int32) : P_X4_best ux a b (fun r ux' => P_X5_best um a b (fun r' um' => r = r' ∧ Inv ux' um')) := by
  obtain ⟨W, D, Z, cx, cy, c, hO, hS, hM, hB⟩ := id hI
  have hW := hO.1
  have hD := hO.2.1
  have e0 : (0 : Int32).toInt = 0 := by decide
  have eW : (nI W).toInt = W := nI_toInt (by omega)
  have eD : (nI D).toInt = D := nI_toInt (by omega)
  have inW : ∀ {post : Int32 → Prop}, post (bI (decide (0 ≤ a.toInt ∧ a.toInt ≤ W))) → P_X5_in a.toInt64 (0 : Int64) ((um.1 0).toInt64) post := by
    intro post hp
    rw [hM.1]
    exact v_inL 0 W (by decide) (by rw [Int32.toInt_toInt64, eW]) hp
  have inD : ∀ {post : Int32 → Prop}, post (bI (decide (0 ≤ b.toInt ∧ b.toInt ≤ D))) → P_X5_in b.toInt64 (0 : Int64) ((um.1 1).toInt64) post := by
    intro post hp
    rw [hM.2.1]
    exact v_inL 0 D (by decide) (by rw [Int32.toInt_toInt64, eD]) hp
  have badA : ¬ (0 ≤ a.toInt ∧ a.toInt ≤ W) → P_X5_best um a b (fun r' um' => (-2 : Int32) = r' ∧ Inv ux um') := by
    intro hn
    unfold P_X5_best
    refine inW ?_
    exact if_bI (fun t => absurd (of_decide_eq_true t) hn) (fun _ => ⟨rfl, hI⟩)
  have badB : ¬ (0 ≤ b.toInt ∧ b.toInt ≤ D) → P_X5_best um a b (fun r' um' => (-2 : Int32) = r' ∧ Inv ux um') := by
    intro hn
    unfold P_X5_best
    refine inW ?_
    refine if_bI (fun _ => ?_) (fun _ => ⟨rfl, hI⟩)
    refine inD ?_
    exact if_bI (fun t => absurd (of_decide_eq_true t) hn) (fun _ => ⟨rfl, hI⟩)
  unfold P_X4_best
  refine if_i (d := a.toInt < 0) (by rw [fa_lt, e0]) (fun q => badA (by omega)) (fun qa0 => ?_)
  refine if_i (d := (W : Int) < a.toInt) (by rw [hS.1, fa_lt, eW]) (fun q => badA (by omega)) (fun qa1 => ?_)
  refine if_i (d := b.toInt < 0) (by rw [fa_lt, e0]) (fun q => badB (by omega)) (fun qb0 => ?_)
  refine if_i (d := b.toInt ≤ (D : Int)) (by rw [hS.2.1, fa_le, eD]) (fun qb1 => ?_) (fun q => badB (by omega))
  obtain ⟨na, ea⟩ : ∃ n : Nat, a.toInt = n := ⟨a.toInt.toNat, by omega⟩
  obtain ⟨nb, eb⟩ : ∃ n : Nat, b.toInt = n := ⟨b.toInt.toNat, by omega⟩
  have ha : a = nI na := by rw [fa_eq, nI_toInt (by omega)]; exact ea
  have hb : b = nI nb := by rw [fa_eq, nI_toInt (by omega)]; exact eb
  rw [ha, hb]
  refine v_chooseBest hO hS (by omega) (by omega) (fun bp bq hbst us hs => ?_)
  intro u2 e2
  refine v_forget ?_
  intro u5 e5
  subst e5 e2
  have hO' : OKs W D Z bp bq c := ⟨hO.1, hO.2.1, hO.2.2.1, hbst.1.1, hbst.1.2.1, hO.2.2.2.2.2⟩
  refine v_coveredCubes hO' hs ?_
  rw [← ha, ← hb]
  unfold P_X5_best
  refine inW ?_
  refine if_bI (fun _ => ?_) (fun t => absurd (of_decide_eq_false t) (by omega))
  refine inD ?_
  refine if_bI (fun _ => ?_) (fun t => absurd (of_decide_eq_false t) (by omega))
  rw [ha, hb]
  refine v_lookAt hO hM (fun u' hm hl => ?_)
  have hM' := hm.MI hM
  refine v_bestM hO hM' hl (by omega) (by omega) (fun bp' bq' hbst' => ?_)
  obtain ⟨z1, z2⟩ := hbst.one hbst'
  subst z1 z2
  refine ⟨vp_in_nI (n := 0) (N := 2) (by decide) (by decide), ?_⟩
  intro u33 e33
  refine ⟨vp_in_nI (n := 1) (N := 2) (by decide) (by decide), ?_⟩
  intro u34 e34 u35 e35
  refine ⟨rfl, ?_⟩
  subst e33 e34 e35
  refine ⟨W, D, Z, bp, bq, c, hO', hs, ?_, BIs.forget rfl⟩
  exact ⟨hM'.1, hM'.2.1, hM'.2.2.1, rfl, rfl, hM'.2.2.2.2.2⟩
