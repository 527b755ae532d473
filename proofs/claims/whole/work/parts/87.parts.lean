/-! parts: what hangs together -/
def adjN (a b : Nat) : Prop := (b = a + 1 ∧ a % 8 < 7) ∨ (a = b + 1 ∧ b % 8 < 7) ∨ b = a + 8 ∨ a = b + 8
theorem adjN.sym {a b : Nat} (h : adjN a b) : adjN b a := by
  unfold adjN at *
  omega
def Cn (g : Nat → Bool) (a b : Nat) : Prop := ∀ S : Nat → Prop, S a → (∀ x y, S x → adjN x y → g y = true → S y) → S b
theorem Cn.rf {g : Nat → Bool} {a : Nat} : Cn g a a := fun _ h _ => h
theorem Cn.tr {g : Nat → Bool} {a b c : Nat} (h : Cn g a b) (h2 : Cn g b c) : Cn g a c := fun S ha hs => h2 S (h S ha hs) hs
theorem Cn.st {g : Nat → Bool} {a b : Nat} (h : adjN a b) (hb : g b = true) : Cn g a b := fun S ha hs => hs a b ha h hb
theorem Cn.g {g : Nat → Bool} {a b : Nat} (ha : g a = true) (h : Cn g a b) : g b = true := h (fun x => g x = true) ha (fun _ _ _ _ hy => hy)
theorem Cn.sym {g : Nat → Bool} {a b : Nat} (ha : g a = true) (h : Cn g a b) : Cn g b a :=
  (h (fun x => Cn g x a ∧ g x = true) ⟨Cn.rf, ha⟩ (fun _ _ hx hxy hy => ⟨(Cn.st hxy.sym hx.2).tr hx.1, hy⟩)).1
/-- the least of its part -/
def Root (g : Nat → Bool) (k : Nat) : Prop := g k = true ∧ ∀ b, Cn g k b → k ≤ b
noncomputable def prB (p : Prop) : Bool := @decide p (Classical.propDecidable p)
theorem prB_t {p : Prop} (h : p) : prB p = true := @decide_eq_true p (Classical.propDecidable p) h
theorem prB_f {p : Prop} (h : ¬ p) : prB p = false := @decide_eq_false p (Classical.propDecidable p) h
theorem of_prB {p : Prop} (h : prB p = true) : p := @of_decide_eq_true p (Classical.propDecidable p) h
theorem prB_iff {p : Prop} : prB p = true ↔ p := ⟨of_prB, prB_t⟩
theorem prB_cong {p q : Prop} (h : p ↔ q) : prB p = prB q := by rw [propext h]
theorem root_of {g : Nat → Bool} {k : Nat} (hk : g k = true) : ∃ r, Root g r ∧ Cn g r k ∧ r ≤ k := by
  obtain ⟨r, hr, hmin⟩ := pk_least (fun r => Cn g k r) ⟨k, Cn.rf⟩
  have gr := Cn.g hk hr
  refine ⟨r, ⟨gr, fun b hb => ?_⟩, Cn.sym hk hr, ?_⟩
  · rcases Nat.lt_or_ge b r with q | q
    · exact absurd (hr.tr hb) (hmin b q)
    · exact q
  · rcases Nat.lt_or_ge k r with q | q
    · exact absurd Cn.rf (hmin k q)
    · exact q
theorem root_one {g : Nat → Bool} {a b : Nat} (ha : Root g a) (hb : Root g b) (h : Cn g a b) : a = b := Nat.le_antisymm (ha.2 b h) (hb.2 a (Cn.sym ha.1 h))
-- words of 64 bits
theorem lN_inj {a b : Nat} (ha : a < 2 ^ 64) (hb : b < 2 ^ 64) : lN a = lN b ↔ a = b := by
  constructor
  · intro h
    have := congrArg (fun x => x.toBitVec.toNat) h
    rw [wb_tn ha, wb_tn hb] at this
    exact this
  · intro h; rw [h]
theorem cmp_eq (x y : Int64) : lg_cmp x y = 0 ↔ x = y := by
  unfold lg_cmp
  by_cases h1 : x > y
  · rw [if_pos h1]
    constructor
    · intro q; exact absurd q (by decide)
    · intro q
      subst q
      rw [gt_iff_lt, fa_lt64] at h1
      omega
  · rw [if_neg h1]
    by_cases h2 : x = y
    · rw [if_pos h2]; exact ⟨fun _ => h2, fun _ => rfl⟩
    · rw [if_neg h2]; exact ⟨fun q => absurd q (by decide), fun q => absurd q h2⟩
def M7 : Nat := 9187201950435737471
def M8 : Nat := 18374403900871474942
def nbN (n : Nat) : Nat := ((((n &&& M7) * 2) ||| ((n &&& M8) / 2)) ||| (n * 256 % 2 ^ 64)) ||| (n / 256)
theorem M7_bit : ∀ j : Fin 64, M7.testBit j.val = decide (j.val % 8 < 7) := by decide +kernel
theorem M8_bit : ∀ j : Fin 64, M8.testBit j.val = decide (1 ≤ j.val % 8) := by decide +kernel
theorem hi64 {n k : Nat} (hn : n < 2 ^ 64) (hk : 64 ≤ k) : n.testBit k = false := Nat.testBit_lt_two_pow (Nat.lt_of_lt_of_le hn (Nat.pow_le_pow_right (by decide) hk))
theorem tb_x2 (x k : Nat) : (x * 2).testBit k = (decide (1 ≤ k) && x.testBit (k - 1)) := by
  have := Nat.testBit_shiftLeft (i := 1) (j := k) x
  rw [Nat.shiftLeft_eq] at this
  exact this
theorem tb_x256 (x k : Nat) : (x * 256).testBit k = (decide (8 ≤ k) && x.testBit (k - 8)) := by
  have := Nat.testBit_shiftLeft (i := 8) (j := k) x
  rw [Nat.shiftLeft_eq] at this
  exact this
theorem tb_d2 (x k : Nat) : (x / 2).testBit k = x.testBit (k + 1) := by
  have := Nat.testBit_div_two_pow (n := 1) (i := k) x
  exact this
theorem tb_d256 (x k : Nat) : (x / 256).testBit k = x.testBit (k + 8) := by
  have := Nat.testBit_div_two_pow (n := 8) (i := k) x
  exact this
theorem nbN_bit {n k : Nat} (hn : n < 2 ^ 64) (hk : k < 64) : (nbN n).testBit k = true ↔ ∃ j, adjN j k ∧ n.testBit j = true := by
  unfold nbN
  rw [Nat.testBit_or, Nat.testBit_or, Nat.testBit_or, tb_x2, Nat.testBit_and, tb_d2, Nat.testBit_and, Nat.testBit_mod_two_pow, decide_eq_true hk, Bool.true_and, tb_x256, tb_d256]
  simp only [Bool.or_eq_true, Bool.and_eq_true, decide_eq_true_eq]
  constructor
  · intro h
    rcases h with ((⟨h1, h2, h3⟩ | ⟨h2, h3⟩) | ⟨h1, h2⟩) | h2
    · refine ⟨k - 1, ?_, h2⟩
      have := M7_bit ⟨k - 1, by omega⟩
      dsimp only at this
      rw [h3] at this
      have := of_decide_eq_true this.symm
      unfold adjN
      omega
    · refine ⟨k + 1, ?_, h2⟩
      have hk1 : k + 1 < 64 := by
        rcases Nat.lt_or_ge (k + 1) 64 with q | q
        · exact q
        · rw [hi64 hn q] at h2; cases h2
      have := M8_bit ⟨k + 1, hk1⟩
      dsimp only at this
      rw [h3] at this
      have := of_decide_eq_true this.symm
      unfold adjN
      omega
    · exact ⟨k - 8, by unfold adjN; omega, h2⟩
    · exact ⟨k + 8, by unfold adjN; omega, h2⟩
  · rintro ⟨j, hj, hb⟩
    have hj64 : j < 64 := by
      rcases Nat.lt_or_ge j 64 with q | q
      · exact q
      · rw [hi64 hn q] at hb; cases hb
    unfold adjN at hj
    rcases hj with ⟨h1, h2⟩ | ⟨h1, h2⟩ | h1 | h1
    · refine Or.inl (Or.inl (Or.inl ⟨by omega, ?_, ?_⟩))
      · rw [show k - 1 = j from by omega]; exact hb
      · rw [show k - 1 = j from by omega]
        exact (M7_bit ⟨j, hj64⟩).trans (decide_eq_true h2)
    · refine Or.inl (Or.inl (Or.inr ⟨?_, ?_⟩))
      · rw [show k + 1 = j from by omega]; exact hb
      · rw [show k + 1 = j from by omega]
        exact (M8_bit ⟨j, hj64⟩).trans (decide_eq_true (by show 1 ≤ j % 8; omega))
    · refine Or.inl (Or.inr ⟨by omega, ?_⟩)
      rw [show k - 8 = j from by omega]; exact hb
    · refine Or.inr ?_
      rw [show k + 8 = j from by omega]; exact hb
theorem v_neighboursOf {n : Nat} (hn : n < 2 ^ 64) {post : Int64 → Prop} (h : post (lN (nbN n))) : P_X2_neighboursOf (lN n) post := by
  unfold P_X2_neighboursOf
  intro y1 e1 y2 e2
  have hM8 : (-72340172838076674 : Int64) = lN M8 := by decide
  have a1 : y1 = lN ((n &&& M7) * 2) := by
    rw [e1, show (9187201950435737471 : Int64) = lN M7 from rfl, fb_andL]
    exact wb_shl (n &&& M7) (k := 1) (by decide)
  have a2 : y2 = lN ((n &&& M8) / 2) := by
    rw [e2, hM8, fb_andL]
    exact wb_shr (n := n &&& M8) (k := 1) (Nat.lt_of_le_of_lt Nat.and_le_left hn) (by decide)
  have a3 : lN n <<< ((8 : Int32).toInt64 &&& 63) = lN (n * 256 % 2 ^ 64) := by
    rw [← wb_mod]
    exact wb_shl n (k := 8) (by decide)
  have a4 : ((lN n).toUInt64 >>> ((8 : Int32).toInt64.toUInt64 &&& Int64.toUInt64 63)).toInt64 = lN (n / 256) := wb_shr (n := n) (k := 8) hn (by decide)
  rw [a1, a2, a3, a4, fb_orL, fb_orL, fb_orL]
  exact h
theorem nbN_lt {n : Nat} (hn : n < 2 ^ 64) : nbN n < 2 ^ 64 := by
  unfold nbN
  refine Nat.or_lt_two_pow (Nat.or_lt_two_pow (Nat.or_lt_two_pow ?_ ?_) (Nat.mod_lt _ (by decide))) ?_
  · have : n &&& M7 ≤ M7 := Nat.and_le_right
    have : M7 = 9187201950435737471 := rfl
    omega
  · have : n &&& M8 ≤ n := Nat.and_le_left
    omega
  · omega
theorem cnt_sub {p q : Nat → Bool} (h : ∀ k, p k = true → q k = true) : ∀ n, fa_cnt p n ≤ fa_cnt q n
  | 0 => Nat.le_refl _
  | n + 1 => by
    have ih := cnt_sub h n
    rw [fa_cnt, fa_cnt]
    cases e : p n with
    | false => simp; omega
    | true => rw [h n e]; simp; omega
theorem cnt_subl {p q : Nat → Bool} (h : ∀ k, p k = true → q k = true) {j : Nat} (hp : p j = false) (hq : q j = true) : ∀ {n}, j < n → fa_cnt p n < fa_cnt q n
  | 0, hj => absurd hj (Nat.not_lt_zero j)
  | n + 1, hj => by
    rw [fa_cnt, fa_cnt]
    by_cases e : n = j
    · subst e
      rw [hp, hq]
      have := cnt_sub h n
      simp; omega
    · have ih := cnt_subl h hp hq (n := n) (by omega)
      cases e2 : p n with
      | false => simp; omega
      | true => rw [h n e2]; simp; omega
theorem bit64_ext {a b : Nat} (ha : a < 2 ^ 64) (hb : b < 2 ^ 64) (h : ∀ k, k < 64 → a.testBit k = b.testBit k) : a = b := by
  apply Nat.eq_of_testBit_eq
  intro k
  rcases Nat.lt_or_ge k 64 with q | q
  · exact h k q
  · rw [hi64 ha q, hi64 hb q]
theorem v_partAround {G m : Nat} (hG : G < 2 ^ 64) (hm : m < 64) (hgm : G.testBit m = true) {post : Int64 → Prop} (h : ∀ q, q < 2 ^ 64 → (∀ k, q.testBit k = true ↔ Cn (fun k => G.testBit k) m k) → post (lN q)) : P_X2_partAround (lN G) (lN (2 ^ m)) post := by
  show ∃ n, L_X2_partAround_6 post _ (lN G) n (lN (2 ^ m)) (0 : Int32)
  refine loop_0 (σ := Nat) (fun n i q => L_X2_partAround_6 post _ (lN G) n (lN q) (nI i)) (fun i q => q < 2 ^ 64 ∧ q.testBit m = true ∧ (∀ k, q.testBit k = true → Cn (fun k => G.testBit k) m k) ∧ i + 1 ≤ fa_cnt (fun k => q.testBit k) 64) 64 (2 ^ m) ⟨Nat.pow_lt_pow_right (by decide) hm, Nat.testBit_two_pow_self, fun k hk => ?_, ?_⟩ ?_ ?_
  · rw [Nat.testBit_two_pow] at hk
    have := of_decide_eq_true hk
    subst this
    exact Cn.rf
  · have := cnt_lt (p := fun k => (2 ^ m).testBit k) hm Nat.testBit_two_pow_self
    omega
  · intro n q hq
    have := fa_cnt_le (fun k => q.testBit k) 64
    omega
  · intro n i q hi hq ih
    obtain ⟨h1, h2, h3, h4⟩ := hq
    rw [L_X2_partAround_6]
    refine if_f (fun w => absurd ((nI_leI (a := 64) (by decide) (by omega)).mp w) (by omega)) ?_
    refine v_neighboursOf h1 ?_
    intro y4 e4
    rw [fb_orL, fb_andL] at e4
    have hgr : (q ||| nbN q) &&& G < 2 ^ 64 := Nat.lt_of_le_of_lt Nat.and_le_right hG
    have hsub : ∀ k, q.testBit k = true → ((q ||| nbN q) &&& G).testBit k = true := by
      intro k hk
      rw [Nat.testBit_and, Nat.testBit_or, hk, Bool.true_or, Bool.true_and]
      exact Cn.g (g := fun k => G.testBit k) hgm (h3 k hk)
    subst e4
    refine if_i ((cmp_eq _ _).trans (lN_inj hgr h1)) (fun e => ?_) (fun e => ?_)
    · refine h q h1 (fun k => ⟨h3 k, fun hc => ?_⟩)
      refine hc (fun x => q.testBit x = true) h2 (fun x y hx hxy hy => ?_)
      have hy : G.testBit y = true := hy
      have hy64 : y < 64 := by
        rcases Nat.lt_or_ge y 64 with w | w
        · exact w
        · rw [hi64 hG w] at hy; cases hy
      rw [← e, Nat.testBit_and, Nat.testBit_or, (nbN_bit h1 hy64).mpr ⟨x, hxy, hx⟩, Bool.or_true, Bool.true_and]
      exact hy
    · intro y5 e5
      rw [show nI i + (1 : Int32) = nI (i + 1) from nI_1 i] at e5
      subst e5
      refine ih _ ⟨hgr, hsub m h2, fun k hk => ?_, ?_⟩
      · rw [Nat.testBit_and, Nat.testBit_or] at hk
        obtain ⟨ha, hb⟩ := (Bool.and_eq_true _ _).mp hk
        rcases (Bool.or_eq_true _ _).mp ha with w | w
        · exact h3 k w
        · have hk64 : k < 64 := by
            rcases Nat.lt_or_ge k 64 with z | z
            · exact z
            · rw [hi64 hG z] at hb; cases hb
          obtain ⟨j, hj, hjb⟩ := (nbN_bit h1 hk64).mp w
          exact (h3 j hjb).tr (Cn.st hj hb)
      · have hex : ∃ j, j < 64 ∧ q.testBit j = false ∧ ((q ||| nbN q) &&& G).testBit j = true := by
          apply Classical.byContradiction
          intro hn
          apply e
          apply bit64_ext hgr h1
          intro k hk
          cases eq : q.testBit k with
          | true => exact hsub k eq
          | false =>
            cases eg : ((q ||| nbN q) &&& G).testBit k with
            | false => rfl
            | true => exact absurd ⟨k, hk, eq, eg⟩ hn
        obtain ⟨j, hj, hj1, hj2⟩ := hex
        have := cnt_subl (p := fun k => q.testBit k) (q := fun k => ((q ||| nbN q) &&& G).testBit k) hsub hj1 hj2 hj
        omega
/-- the least bit alone -/
theorem low_bit {n : Nat} (hn : n < 2 ^ 64) {m : Nat} (hm : n.testBit m = true) (hl : ∀ j, j < m → n.testBit j = false) : lN n &&& (-(lN n)) = lN (2 ^ m) := by
  have hm64 : m < 64 := by
    rcases Nat.lt_or_ge m 64 with q | q
    · exact q
    · rw [hi64 hn q] at hm; cases hm
  have hpos : 0 < n := by
    rcases Nat.eq_zero_or_pos n with q | q
    · subst q; rw [Nat.zero_testBit] at hm; cases hm
    · exact q
  have hneg : -(lN n) = lN (2 ^ 64 - n) := by
    have e1 : lN n + lN (2 ^ 64 - n) = 0 := by
      rw [lN_add, show n + (2 ^ 64 - n) = 2 ^ 64 from by omega]
      decide
    have e2 : -(lN n) + (lN n + lN (2 ^ 64 - n)) = lN (2 ^ 64 - n) := by
      rw [← Int64.add_assoc, Int64.add_left_neg, Int64.zero_add]
    rw [e1, Int64.add_zero] at e2
    exact e2
  rw [hneg, fb_andL]
  congr 1
  have hmod : n % 2 ^ (m + 1) = 2 ^ m := by
    apply Nat.eq_of_testBit_eq
    intro i
    rw [Nat.testBit_mod_two_pow, Nat.testBit_two_pow]
    rcases Nat.lt_trichotomy i m with q | q | q
    · rw [hl i q, Bool.and_false]
      exact (decide_eq_false (by omega)).symm
    · subst q
      rw [hm, decide_eq_true (Nat.lt_succ_self i), decide_eq_true rfl]; rfl
    · rw [decide_eq_false (by omega), Bool.false_and]
      exact (decide_eq_false (by omega)).symm
  have hdiv := Nat.div_add_mod n (2 ^ (m + 1))
  rw [hmod] at hdiv
  have h2m : 0 < 2 ^ m := Nat.two_pow_pos m
  have h2m1 : 2 ^ (m + 1) = 2 * 2 ^ m := by rw [Nat.pow_succ, Nat.mul_comm]
  have hn1 : n - 1 = 2 ^ (m + 1) * (n / 2 ^ (m + 1)) + (2 ^ m - 1) := by omega
  apply Nat.eq_of_testBit_eq
  intro i
  rw [Nat.testBit_and, show 2 ^ 64 - n = 2 ^ 64 - ((n - 1) + 1) from by omega, Nat.testBit_two_pow_sub_succ (by omega), Nat.testBit_two_pow, hn1, Nat.testBit_two_pow_mul_add _ (by omega), Nat.testBit_two_pow_sub_one]
  rcases Nat.lt_trichotomy i m with q | q | q
  · rw [hl i q, Bool.false_and]
    exact (decide_eq_false (by omega)).symm
  · subst q
    rw [hm, decide_eq_true hm64, if_pos (Nat.lt_succ_self i), decide_eq_false (Nat.lt_irrefl i), decide_eq_true rfl]; rfl
  · rw [if_neg (by omega)]
    have e3 : (n / 2 ^ (m + 1)).testBit (i - (m + 1)) = n.testBit i := by
      rw [Nat.testBit_div_two_pow, show i - (m + 1) + (m + 1) = i from by omega]
    rw [e3, decide_eq_false (show ¬ m = i from by omega)]
    cases n.testBit i <;> simp
noncomputable def clB (g : Nat → Bool) (O k : Nat) : Bool := prB (Root g k) && prB (∀ c, Cn g k c → O.testBit c = false)
theorem v_partsClearOf {G O : Nat} (hG : G < 2 ^ 64) (hO : O < 2 ^ 64) {post : Int32 → Prop} (h : post (nI (fa_cnt (clB (fun k => G.testBit k) O) 64))) : P_X2_partsClearOf (lN G) (lN O) post := by
  have hg64 : ∀ k, G.testBit k = true → k < 64 := by
    intro k hk
    rcases Nat.lt_or_ge k 64 with w | w
    · exact w
    · rw [hi64 hG w] at hk; cases hk
  show ∃ n, L_X2_partsClearOf_9 post _ (lN G) (lN O) n (0 : Int32) (lN G) (0 : Int32)
  have key := loop_0 (σ := Nat × Nat) (fun n i x => L_X2_partsClearOf_9 post (fun (v4_9 : Int32) => post v4_9) (lN G) (lN O) n (nI (fa_cnt (clB (fun k => G.testBit k) O) x.1)) (lN x.2) (nI i)) (fun i x => i ≤ x.1 ∧ x.1 ≤ 64 ∧ x.2 < 2 ^ 64 ∧ ∀ k, x.2.testBit k = true ↔ (G.testBit k = true ∧ ∀ r, Root (fun k => G.testBit k) r → Cn (fun k => G.testBit k) r k → x.1 ≤ r)) 64 (0, G) ⟨Nat.le_refl _, Nat.zero_le _, hG, fun k => ⟨fun w => ⟨w, fun _ _ _ => Nat.zero_le _⟩, fun w => w.1⟩⟩ ?_ ?_
  · exact key
  · intro n x hx
    rw [L_X2_partsClearOf_9]
    refine if_t (by decide) ?_
    have : x.1 = 64 := by omega
    rw [this]
    exact h
  · intro n i x hi hx ih
    obtain ⟨t, rest⟩ := x
    obtain ⟨h1, h2, h3, h4⟩ := hx
    dsimp only at h1 h2 h3 h4 ⊢
    rw [L_X2_partsClearOf_9]
    refine if_f (fun w => absurd ((nI_leI (a := 64) (by decide) (by omega)).mp w) (by omega)) ?_
    refine if_i ((cmp_eq _ _).trans (lN_inj (b := 0) h3 (by decide))) (fun e => ?_) (fun e => ?_)
    · -- nothing is left
      have : fa_cnt (clB (fun k => G.testBit k) O) (t + (64 - t)) = fa_cnt (clB (fun k => G.testBit k) O) t := cnt_hi (64 - t) (fun k k1 k2 => by
        cases ek : clB (fun k => G.testBit k) O k with
        | false => rfl
        | true =>
          have hr := of_prB ((Bool.and_eq_true _ _).mp ek).1
          have : rest.testBit k = true := (h4 k).mpr ⟨hr.1, fun r hr2 hc => by rw [root_one hr2 hr hc]; exact k1⟩
          rw [e, Nat.zero_testBit] at this; cases this)
      rw [show t + (64 - t) = 64 from by omega] at this
      rw [← this]
      exact h
    · have hex : ∃ k, rest.testBit k = true := by
        apply Classical.byContradiction
        intro hn
        apply e
        apply Nat.eq_of_testBit_eq
        intro k
        rw [Nat.zero_testBit]
        cases ek : rest.testBit k with
        | false => rfl
        | true => exact absurd ⟨k, ek⟩ hn
      obtain ⟨m, hm, hmin⟩ := pk_least (fun k => rest.testBit k = true) hex
      have hgm := ((h4 m).mp hm).1
      have hm64 := hg64 m hgm
      -- the least one left is the least of its part
      have hroot : Root (fun k => G.testBit k) m := by
        obtain ⟨r, hr, hc, hle⟩ := root_of (g := fun k => G.testBit k) hgm
        have hrt : t ≤ r := ((h4 m).mp hm).2 r hr hc
        have hrr : rest.testBit r = true := (h4 r).mpr ⟨hr.1, fun r2 hr2 hc2 => by rw [root_one hr2 hr hc2]; exact hrt⟩
        have : r = m := by
          rcases Nat.lt_or_ge r m with w | w
          · exact absurd hrr (hmin r w)
          · omega
        rw [← this]; exact hr
      have htm : t ≤ m := ((h4 m).mp hm).2 m hroot Cn.rf
      have hcnt : fa_cnt (clB (fun k => G.testBit k) O) m = fa_cnt (clB (fun k => G.testBit k) O) t := by
        have := cnt_hi (p := clB (fun k => G.testBit k) O) (a := t) (m - t) (fun k k1 k2 => by
          cases ek : clB (fun k => G.testBit k) O k with
          | false => rfl
          | true =>
            have hr := of_prB ((Bool.and_eq_true _ _).mp ek).1
            have : rest.testBit k = true := (h4 k).mpr ⟨hr.1, fun r hr2 hc => by rw [root_one hr2 hr hc]; exact k1⟩
            exact absurd this (hmin k (by omega)))
        rw [show t + (m - t) = m from by omega] at this
        exact this
      rw [low_bit h3 hm (fun j hj => Bool.eq_false_iff.mpr (hmin j hj))]
      refine v_partAround hG hm64 hgm (fun q hq hqb => ?_)
      have next : ∀ y_7 : Int64, y_7 = (lN rest &&& (lN q ^^^ (-1 : Int64))) → ∀ y_8 : Int32, y_8 = nI i + (1 : Int32) → L_X2_partsClearOf_9 post (fun (v4_9 : Int32) => post v4_9) (lN G) (lN O) n (nI (fa_cnt (clB (fun k => G.testBit k) O) (m + 1))) y_7 y_8 := by
        intro y7 e7 y8 e8
        rw [show nI i + (1 : Int32) = nI (i + 1) from nI_1 i] at e8
        rw [show (-1 : Int64) = lN (2 ^ 64 - 1) from by decide, fb_xorL, fb_andL] at e7
        subst e7 e8
        refine ih (m + 1, rest &&& (q ^^^ (2 ^ 64 - 1))) ⟨by show i + 1 ≤ m + 1; omega, by show m + 1 ≤ 64; omega, Nat.lt_of_le_of_lt Nat.and_le_left h3, fun k => ?_⟩
        show (rest &&& (q ^^^ (2 ^ 64 - 1))).testBit k = true ↔ _
        rw [Nat.testBit_and, Nat.testBit_xor, Nat.testBit_two_pow_sub_one]
        constructor
        · intro w
          obtain ⟨w1, w2⟩ := (Bool.and_eq_true _ _).mp w
          have hk := (h4 k).mp w1
          have hk64 := hg64 k hk.1
          rw [decide_eq_true hk64, Bool.xor_true] at w2
          refine ⟨hk.1, fun r hr hc => ?_⟩
          have hrt := hk.2 r hr hc
          have hrr : rest.testBit r = true := (h4 r).mpr ⟨hr.1, fun r2 hr2 hc2 => by rw [root_one hr2 hr hc2]; exact hrt⟩
          have hne : r ≠ m := by
            intro e2
            subst e2
            rw [(hqb k).mpr hc] at w2; cases w2
          have : ¬ r < m := fun z => absurd hrr (hmin r z)
          show m + 1 ≤ r
          omega
        · rintro ⟨w1, w2⟩
          have hk64 := hg64 k w1
          have hrk : rest.testBit k = true := (h4 k).mpr ⟨w1, fun r hr hc => by have := w2 r hr hc; omega⟩
          rw [hrk, decide_eq_true hk64, Bool.xor_true, Bool.true_and]
          cases eq : q.testBit k with
          | false => rfl
          | true =>
            have := w2 m hroot ((hqb k).mp eq)
            omega
      rw [fb_andL]
      refine if_i ((cmp_eq _ _).trans (lN_inj (b := 0) (Nat.lt_of_le_of_lt Nat.and_le_left hq) (by decide))) (fun ec => ?_) (fun ec => ?_)
      · intro y5 e5
        have hcl : clB (fun k => G.testBit k) O m = true := by
          unfold clB
          rw [prB_t hroot, Bool.true_and]
          refine prB_t (fun c hc => ?_)
          have : (q &&& O).testBit c = false := by rw [ec, Nat.zero_testBit]
          rw [Nat.testBit_and, (hqb c).mpr hc, Bool.true_and] at this
          exact this
        rw [← hcnt, show nI (fa_cnt (clB (fun k => G.testBit k) O) m) + (1 : Int32) = nI (fa_cnt (clB (fun k => G.testBit k) O) m + 1) from nI_1 _, ← fa_cnt_yes hcl] at e5
        subst e5
        exact next
      · have hcl : clB (fun k => G.testBit k) O m = false := by
          unfold clB
          rw [prB_t hroot, Bool.true_and]
          refine prB_f (fun hall => ec ?_)
          apply Nat.eq_of_testBit_eq
          intro k
          rw [Nat.zero_testBit, Nat.testBit_and]
          cases eq : q.testBit k with
          | false => rfl
          | true => rw [hall k ((hqb k).mp eq)]; rfl
        rw [← hcnt, ← fa_cnt_no hcl]
        exact next
