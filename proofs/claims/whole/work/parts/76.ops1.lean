/-! the invariant between class and reference; the calls that are plain -/
def BIs (ub um : St) : Prop := ub.1 1 = um.1 5 ∧ (ub.1 1 = 0 ∨ (ub.1 1 = 1 ∧ ∃ n, n ≤ 16 ∧ ub.1 2 = nI n ∧ um.1 14 = nI n ∧ ub.1 4 = um.1 15 ∧ ∀ i k, i < n → k < 7 → ub.2 0 (7 * i + k) = um.2 13 (7 * i + k)))
def Inv (ux : St × St) (um : St) : Prop := ∃ (W D Z cx cy : Nat) (c : Nat → Nat → Nat), OKs W D Z cx cy c ∧ SIs W D Z cx cy c ux.1 ∧ MIs W D Z cx cy c um ∧ BIs ux.2 um
/-- the same but for the reference's scratch rows -/
def mS (u u' : St) : Prop := (∀ k, k ≠ 9 → k ≠ 10 → u'.1 k = u.1 k) ∧ ∀ k, k ≠ 6 → k ≠ 7 → k ≠ 8 → k ≠ 11 → k ≠ 12 → k ≠ 16 → u'.2 k = u.2 k
theorem mS.rf {u : St} : mS u u := ⟨fun _ _ _ => rfl, fun _ _ _ _ _ _ _ => rfl⟩
theorem mS.tr {u v w : St} (h : mS u v) (h2 : mS v w) : mS u w := ⟨fun k a b => (h2.1 k a b).trans (h.1 k a b), fun k a b c d e f => (h2.2 k a b c d e f).trans (h.2 k a b c d e f)⟩
theorem mR.mS {u v : St} (h : mR u v) : mS u v := ⟨fun k _ _ => congrFun h.1 k, fun k a b _ _ _ _ => h.2 k a b⟩
theorem mS.MI {W D Z cx cy : Nat} {c : Nat → Nat → Nat} {u v : St} (h : mS u v) (hM : MIs W D Z cx cy c u) : MIs W D Z cx cy c v := by
  unfold MIs
  rw [h.1 0 (by decide) (by decide), h.1 1 (by decide) (by decide), h.1 2 (by decide) (by decide), h.2 3 (by decide) (by decide) (by decide) (by decide) (by decide) (by decide), h.2 4 (by decide) (by decide) (by decide) (by decide) (by decide) (by decide)]
  exact hM
theorem mS.BI {ub u v : St} (h : mS u v) (hB : BIs ub u) : BIs ub v := by
  unfold BIs
  rw [h.1 5 (by decide) (by decide), h.1 14 (by decide) (by decide), h.1 15 (by decide) (by decide), h.2 13 (by decide) (by decide) (by decide) (by decide) (by decide) (by decide)]
  exact hB
theorem mS.inv {ux : St × St} {u v : St} (h : mS u v) (hI : Inv ux u) : Inv ux v := by
  obtain ⟨W, D, Z, cx, cy, c, hO, hS, hM, hB⟩ := hI
  exact ⟨W, D, Z, cx, cy, c, hO, hS, h.MI hM, h.BI hB⟩
theorem v_isSize {x : Int32} {post : Int32 → Prop} (h : post (bI (decide (1 ≤ x.toInt ∧ x.toInt ≤ 8)))) : P_X4_isSize x post := by
  unfold P_X4_isSize
  have e1 : (1 : Int32).toInt = 1 := by decide
  have e8 : (8 : Int32).toInt = 8 := by decide
  refine if_i ((fa_lt x 1).trans (by rw [e1])) (fun q => ?_) (fun q => ?_)
  · rw [decide_eq_false (by omega)] at h; exact h
  · refine if_i ((fa_lt 8 x).trans (by rw [e8])) (fun q2 => ?_) (fun q2 => ?_)
    · rw [decide_eq_false (by omega)] at h; exact h
    · rw [decide_eq_true (by omega)] at h; exact h
theorem v_isCorner {x : Int32} {post : Int32 → Prop} (h : post (bI (decide (-8 ≤ x.toInt ∧ x.toInt ≤ 8)))) : P_X4_isCorner x post := by
  unfold P_X4_isCorner
  have e1 : (-8 : Int32).toInt = -8 := by decide
  have e8 : (8 : Int32).toInt = 8 := by decide
  refine if_i ((fa_lt x (-8)).trans (by rw [e1])) (fun q => ?_) (fun q => ?_)
  · rw [decide_eq_false (by omega)] at h; exact h
  · refine if_i ((fa_lt 8 x).trans (by rw [e8])) (fun q2 => ?_) (fun q2 => ?_)
    · rw [decide_eq_false (by omega)] at h; exact h
    · rw [decide_eq_true (by omega)] at h; exact h
theorem v_inL {x : Int32} {b c : Int64} (lo hi : Int) (hb : b.toInt = lo) (hc : c.toInt = hi) {post : Int32 → Prop} (h : post (bI (decide (lo ≤ x.toInt ∧ x.toInt ≤ hi)))) : P_X5_in x.toInt64 b c post := by
  refine v_in ?_
  rw [i64, hb, hc]
  exact h
theorem of_rng {x : Int32} {lo hi : Nat} (h : decide ((lo : Int) ≤ x.toInt ∧ x.toInt ≤ hi) = true) : ∃ j, lo ≤ j ∧ j ≤ hi ∧ x = nI j := by
  have h := of_decide_eq_true h
  have : ¬ x < 0 := fun z => by rw [fa_lt] at z; have e : (0 : Int32).toInt = 0 := by decide
                                omega
  obtain ⟨j, hj, rfl⟩ := nI_of this
  rw [nI_toInt hj] at h
  exact ⟨j, by omega, by omega, rfl⟩
theorem v_forget {u : St} {post : St → Prop} (h : post (upd u.1 1 0, u.2)) : P_X0_forget u post := by
  unfold P_X0_forget
  intro u1 e
  subst e
  exact h
theorem v_asNumber {b : Bool} {post : Int32 → Prop} (h : post (bI b)) : P_X4_asNumber (bI b) post := by
  unfold P_X4_asNumber
  refine if_bI (fun q => ?_) (fun q => ?_)
  · rw [q] at h; exact h
  · rw [q] at h; exact h
theorem BIs.forget {ub um' : St} (h5 : um'.1 5 = 0) : BIs (upd ub.1 1 0, ub.2) um' := ⟨by rw [h5]; rfl, Or.inl rfl⟩
theorem v_beginAnew {u : St} {W D Z : Nat} {post : St → Prop} (h : ∀ u', SIs W D Z 0 0 (fun _ _ => 0) u' → post u') : P_X3_beginAnew u (nI W) (nI D) (nI Z) post := by
  show ∃ n, L_X3_beginAnew_3 post _ n (0 : Int32) u
  refine loop_0 (σ := St) (fun n i s => L_X3_beginAnew_3 post _ n (nI i) s) (fun i s => ∀ j, j < i → s.2 0 j = 0) 64 u (fun j hj => absurd hj (Nat.not_lt_zero j)) ?_ ?_
  · intro n s hs
    rw [L_X3_beginAnew_3]
    refine if_t (by decide) ?_
    intro u6 e6 u7 e7 u8 e8 u9 e9 u10 e10
    refine h u10 ?_
    subst e6 e7 e8 e9 e10
    refine ⟨rfl, rfl, rfl, rfl, rfl, fun x y hx hy => ?_⟩
    exact hs (8 * x + y) (by omega)
  · intro n i s hi hs ih
    rw [L_X3_beginAnew_3]
    refine if_f (fun q => ?_) ⟨vp_in_nI hi (by decide), ?_⟩
    · exact absurd ((nI_leI (a := 64) (b := i) (by decide) (by omega)).mp q) (by omega)
    · intro u3 e3 y4 e4
      rw [show nI i + (1 : Int32) = nI (i + 1) from nI_1 i] at e4
      subst e4
      refine ih u3 ?_
      intro j hj
      subst e3
      rw [nI_clamp (by omega)]
      by_cases ej : j = i
      · subst ej; simp [va_up, upd]
      · simp [va_up, upd, ej, hs j (by omega)]
theorem v_spaceM {u : St} {W D Z : Nat} {post : Int32 → St → Prop} (hW : 1 ≤ W ∧ W ≤ 8) (hD : 1 ≤ D ∧ D ≤ 8) (hZ : 1 ≤ Z ∧ Z ≤ 8) (h : ∀ u', MIs W D Z 0 0 (fun _ _ => 0) u' → u'.1 5 = 0 → post ((nI W * nI D) * nI Z) u') : P_X5_space u (nI W) (nI D) (nI Z) post := by
  have inn : ∀ {a : Nat} {p : Int32 → Prop}, 1 ≤ a ∧ a ≤ 8 → p 1 → P_X5_in (nI a).toInt64 (1 : Int64) (8 : Int64) p := by
    intro a p ha hp
    refine v_inL 1 8 (by decide) (by decide) ?_
    rw [nI_toInt (by omega), decide_eq_true (by omega)]
    exact hp
  unfold P_X5_space
  refine inn hW (if_f (by decide) (inn hD (if_f (by decide) (inn hZ (if_f (by decide) ?_)))))
  intro u4 e4 u5 e5 u6 e6
  show ∃ n, L_X5_space_57 post _ n (0 : Int32) u6
  refine loop_0 (σ := St) (fun n i s => L_X5_space_57 post _ n (nI i) s) (fun i s => s.1 = u6.1 ∧ ∀ j, j < i → s.2 3 j = 0) 512 u6 ⟨rfl, fun j hj => absurd hj (Nat.not_lt_zero j)⟩ ?_ ?_
  · intro n s hs
    rw [L_X5_space_57]
    refine if_t (by decide) ?_
    refine ⟨vp_in_nI (n := 0) (N := 2) (by decide) (by decide), ?_⟩
    intro u12 e12
    refine ⟨vp_in_nI (n := 1) (N := 2) (by decide) (by decide), ?_⟩
    intro u13 e13 u14 e14
    have e60 : u6.1 0 = nI W ∧ u6.1 1 = nI D ∧ u6.1 2 = nI Z := by subst e4 e5 e6; exact ⟨rfl, rfl, rfl⟩
    refine h u14 ?_ ?_
    · subst e12 e13 e14
      refine ⟨?_, ?_, ?_, ?_, ?_, fun x y z hx hy hz => ?_⟩
      · show s.1 0 = _; rw [hs.1]; exact e60.1
      · show s.1 1 = _; rw [hs.1]; exact e60.2.1
      · show s.1 2 = _; rw [hs.1]; exact e60.2.2
      · rfl
      · rfl
      · show s.2 3 (64 * x + 8 * y + z) = _
        rw [hs.2 _ (by omega), Nat.zero_testBit]; rfl
    · subst e14; rfl
  · intro n i s hi hs ih
    rw [L_X5_space_57]
    refine if_f (fun q => ?_) ⟨vp_in_nI hi (by decide), ?_⟩
    · exact absurd ((nI_leI (a := 512) (b := i) (by decide) (by omega)).mp q) (by omega)
    · intro u9 e9 y10 e10
      rw [show nI i + (1 : Int32) = nI (i + 1) from nI_1 i] at e10
      subst e10
      refine ih u9 ⟨?_, ?_⟩
      · subst e9; exact hs.1
      · intro j hj
        subst e9
        rw [nI_clamp (by omega)]
        by_cases ej : j = i
        · subst ej; rw [show vp_nar .boolean (0 : Int32) = 0 from rfl]; simp [va_up, upd]
        · simp [va_up, upd, ej, hs.2 j (by omega)]
theorem in_rng {x : Int32} {lo hi : Nat} : (∃ j, lo ≤ j ∧ j ≤ hi ∧ x = nI j) ∨ decide ((lo : Int) ≤ x.toInt ∧ x.toInt ≤ hi) = false := by
  cases e : decide ((lo : Int) ≤ x.toInt ∧ x.toInt ≤ hi) with
  | true => exact Or.inl (of_rng e)
  | false => exact Or.inr rfl
theorem op_space {ux : St × St} {um : St} (hI : Inv ux um) (x y z : Int32) : P_X4_space ux x y z (fun r ux' => P_X5_space um x y z (fun r' um' => r = r' ∧ Inv ux' um')) := by
  have bad : ∀ {p : Int32 → St → Prop}, (p (-2) um) → (decide (((1 : Nat) : Int) ≤ x.toInt ∧ x.toInt ≤ ((8 : Nat) : Int)) = false ∨ decide (((1 : Nat) : Int) ≤ y.toInt ∧ y.toInt ≤ ((8 : Nat) : Int)) = false ∨ decide (((1 : Nat) : Int) ≤ z.toInt ∧ z.toInt ≤ ((8 : Nat) : Int)) = false) → P_X5_space um x y z p := by
    intro p hp hq
    unfold P_X5_space
    refine v_inL 1 8 (by decide) (by decide) ?_
    refine if_bI (fun h1 => ?_) (fun h0 => hp)
    refine v_inL 1 8 (by decide) (by decide) ?_
    refine if_bI (fun h2 => ?_) (fun h0 => hp)
    refine v_inL 1 8 (by decide) (by decide) ?_
    refine if_bI (fun h3 => ?_) (fun h0 => hp)
    rcases hq with q | q | q
    · rw [show decide (((1 : Nat) : Int) ≤ x.toInt ∧ x.toInt ≤ ((8 : Nat) : Int)) = decide (1 ≤ x.toInt ∧ x.toInt ≤ 8) from rfl, h1] at q; cases q
    · rw [show decide (((1 : Nat) : Int) ≤ y.toInt ∧ y.toInt ≤ ((8 : Nat) : Int)) = decide (1 ≤ y.toInt ∧ y.toInt ≤ 8) from rfl, h2] at q; cases q
    · rw [show decide (((1 : Nat) : Int) ≤ z.toInt ∧ z.toInt ≤ ((8 : Nat) : Int)) = decide (1 ≤ z.toInt ∧ z.toInt ≤ 8) from rfl, h3] at q; cases q
  unfold P_X4_space
  refine v_isSize ?_
  refine if_bI (fun h1 => ?_) (fun h0 => bad ⟨rfl, hI⟩ (Or.inl h0))
  refine v_isSize ?_
  refine if_bI (fun h2 => ?_) (fun h0 => bad ⟨rfl, hI⟩ (Or.inr (Or.inl h0)))
  refine v_isSize ?_
  refine if_bI (fun h3 => ?_) (fun h0 => bad ⟨rfl, hI⟩ (Or.inr (Or.inr h0)))
  obtain ⟨W, w1, w2, rfl⟩ := of_rng (lo := 1) (hi := 8) h1
  obtain ⟨D, d1, d2, rfl⟩ := of_rng (lo := 1) (hi := 8) h2
  obtain ⟨Z, z1, z2, rfl⟩ := of_rng (lo := 1) (hi := 8) h3
  refine v_beginAnew (fun us hs => ?_)
  intro u5 e5
  refine v_forget ?_
  intro u8 e8
  refine v_spaceM ⟨w1, w2⟩ ⟨d1, d2⟩ ⟨z1, z2⟩ (fun um' hm h5 => ⟨rfl, ?_⟩)
  subst e5 e8
  exact ⟨W, D, Z, 0, 0, fun _ _ => 0, ⟨⟨w1, w2⟩, ⟨d1, d2⟩, ⟨z1, z2⟩, Nat.two_pow_pos W, Nat.two_pow_pos D, fun _ _ => Nat.two_pow_pos Z, fun _ _ _ => rfl⟩, hs, hm, BIs.forget h5⟩
theorem op_at {ux : St × St} {um : St} (hI : Inv ux um) (x y z : Int32) : P_X4_at ux x y z (fun r => P_X5_at um x y z (fun r' => r = r')) := by
  obtain ⟨W, D, Z, cx, cy, c, hO, hS, hM, hB⟩ := hI
  have hW := hO.1
  have hD := hO.2.1
  have hZ := hO.2.2.1
  unfold P_X4_at
  have mod : ∀ (r : Int32), ((inN x W && (inN y D && inN z Z)) = false → r = -1) → (∀ a b d, a < W → b < D → d < Z → x = nI a → y = nI b → z = nI d → r = bI ((c a b).testBit d)) → P_X5_at um x y z (fun r' => r = r') := by
    intro r h0 h1
    unfold P_X5_at
    refine v_isPlace hO hM ?_
    refine if_bI (fun q => ?_) (fun q => h0 q)
    obtain ⟨q1, q2⟩ := (Bool.and_eq_true _ _).mp q
    obtain ⟨q2, q3⟩ := (Bool.and_eq_true _ _).mp q2
    obtain ⟨a, ha, rfl⟩ := inN_t (by omega) q1
    obtain ⟨b, hb, rfl⟩ := inN_t (by omega) q2
    obtain ⟨d, hd, rfl⟩ := inN_t (by omega) q3
    refine v_has hM (by omega) (by omega) (by omega) ?_
    have e := h1 a b d ha hb hd rfl rfl rfl
    refine if_bI (fun t => ?_) (fun t => ?_)
    · rw [e, t]; rfl
    · rw [e, t]; rfl
  refine v_hasColumn hO hS ?_
  refine if_bI (fun q => ?_) (fun q => ?_)
  · obtain ⟨q1, q2⟩ := (Bool.and_eq_true _ _).mp q
    refine v_hasLayer hO hS ?_
    refine if_bI (fun q3 => ?_) (fun q3 => ?_)
    · obtain ⟨a, ha, rfl⟩ := inN_t (by omega) q1
      obtain ⟨b, hb, rfl⟩ := inN_t (by omega) q2
      obtain ⟨d, hd, rfl⟩ := inN_t (by omega) q3
      refine v_columnAt hO hS (by omega) (by omega) ?_
      refine v_hasBit (hO.c8 a b) (by omega) ?_
      refine v_asNumber ?_
      refine mod _ (fun t => ?_) (fun a' b' d' ha' hb' hd' e1 e2 e3 => ?_)
      · rw [q1, q2, q3] at t; cases t
      · rw [(nI_eq (by omega) (by omega)).mp e1, (nI_eq (by omega) (by omega)).mp e2, (nI_eq (by omega) (by omega)).mp e3]
    · refine mod _ (fun _ => rfl) (fun a b d ha hb hd e1 e2 e3 => ?_)
      subst e3
      rw [inN_nI (by omega), decide_eq_true hd] at q3; cases q3
  · refine mod _ (fun _ => rfl) (fun a b d ha hb hd e1 e2 e3 => ?_)
    subst e1 e2
    rw [inN_nI (by omega), inN_nI (by omega), decide_eq_true ha, decide_eq_true hb] at q; cases q
