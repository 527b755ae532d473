/-! box: the call itself -/
theorem lay_bits {z : Int32} {hg Z : Nat} (hz : -8 ≤ z.toInt ∧ z.toInt ≤ 8) (hh : 1 ≤ hg ∧ hg ≤ 8) (hZ : Z ≤ 8) : (if (8 : Int32) < (if nI Z < z + nI hg then nI Z else z + nI hg) then (8 : Int32) else (if nI Z < z + nI hg then nI Z else z + nI hg)).toInt = min (Z : Int) (z.toInt + hg) := by
  have e1 : (if nI Z < z + nI hg then nI Z else z + nI hg).toInt = min (Z : Int) (z.toInt + hg) := by
    rw [min_to hZ, addk hz.1 hz.2 (by omega)]
  have e8 : (8 : Int32).toInt = 8 := by decide
  by_cases q : (8 : Int32) < (if nI Z < z + nI hg then nI Z else z + nI hg)
  · rw [fa_lt, e1, e8] at q
    omega
  · rw [if_neg q, e1]
theorem sm_cong2 {F G : Nat → Nat} {n : Nat} (h : ∀ k, k < n → F k = G k) : fb_sm F n = fb_sm G n := fb_sm_cong h
/-- Java's bits between, for any ints of the box -/
theorem v_layers {z : Int32} {hg Z : Nat} (hz : -8 ≤ z.toInt ∧ z.toInt ≤ 8) (hh : 1 ≤ hg ∧ hg ≤ 8) (hZ : Z ≤ 8) {post : Int32 → Prop} (h : ∀ L, L < 2 ^ Z → (∀ k, k < 8 → L.testBit k = lyB z.toInt hg Z k) → post (nI L)) : P_X1_bitsBetween z (if nI Z < z + nI hg then nI Z else z + nI hg) post := by
  have eE := lay_bits hz hh hZ
  by_cases hn : 0 ≤ min (Z : Int) (z.toInt + hg)
  · have ex1 : (if (8 : Int32) < (if nI Z < z + nI hg then nI Z else z + nI hg) then (8 : Int32) else (if nI Z < z + nI hg then nI Z else z + nI hg)) = nI (min (Z : Int) (z.toInt + hg)).toNat := by
      rw [fa_eq, eE, nI_toInt (by omega)]
      omega
    refine v_bitsBetween (f := z.toInt.toNat) (e := (min (Z : Int) (z.toInt + hg)).toNat) _ _ (max0 hz.1 hz.2) ex1 (by omega) (by omega) ?_
    refine h _ ?_ (fun k hk => ?_)
    · have h1 : 2 ^ (min (Z : Int) (z.toInt + hg)).toNat ≤ 2 ^ Z := Nat.pow_le_pow_right (by decide) (by omega)
      have h2 : 1 ≤ 2 ^ z.toInt.toNat := Nat.two_pow_pos _
      have h3 : 1 ≤ 2 ^ Z := Nat.two_pow_pos _
      unfold bbN
      omega
    · rw [bb_bit hk (by omega) (by omega)]
      unfold lyB
      exact decide_eq_decide.mpr (by omega)
  · -- the box lies below the space
    unfold P_X1_bitsBetween
    intro y1 e1
    rw [max0 hz.1 hz.2] at e1
    subst e1
    refine ⟨1, ?_⟩
    show L_X1_bitsBetween_8 post (fun v => post v) _ 1 0 (nI z.toInt.toNat)
    rw [L_X1_bitsBetween_8]
    refine if_t ?_ ?_
    · rw [fa_le, eE, nI_toInt (by omega)]
      omega
    · refine h 0 (Nat.two_pow_pos Z) (fun k hk => ?_)
      rw [Nat.zero_testBit]
      exact (decide_eq_false (by omega)).symm
theorem bx_same {z0 : Int} {Z hg L b : Nat} {v : Bool} (hZ : Z ≤ 8) (hb : b < 2 ^ Z) (hL : L < 2 ^ Z) (hl : ∀ k, k < 8 → L.testBit k = lyB z0 hg Z k) : bxU z0 Z v b hg = bxF L v b ∧ bxD z0 Z v b hg = pcN (b ^^^ bxF L v b) := by
  have h1 : bxU z0 Z v b hg = bxF L v b := byte_ext (Nat.lt_of_lt_of_le (bxU_lt hZ hb hg) (OKs.pw hZ)) (Nat.lt_of_lt_of_le (bxF_lt hL hb) (OKs.pw hZ)) (fun k hk => by rw [bxU_bit hZ hk, bxF_bit hk, hl k hk])
  refine ⟨h1, ?_⟩
  rw [bxD_cnt hZ]
  unfold pcN
  apply fa_cnt_cong
  intro k hk
  rw [Nat.testBit_xor, bxF_bit hk, hl k hk]
  cases lyB z0 hg Z k <;> cases b.testBit k <;> cases v <;> rfl
theorem op_box {ux : St × St} {um : St} (hI : Inv ux um) (x y z w d h : Int32) (v : Bool) : P_X4_box ux x y z w d h (bI v) (fun r ux' => P_X5_box um x y z w d h (bI v) (fun r' um' => r = r' ∧ Inv ux' um')) := by
  obtain ⟨W, D, Z, cx, cy, c, hO, hS, hM, hB⟩ := id hI
  have hW := hO.1
  have hD := hO.2.1
  have hZ := hO.2.2.1
  have bad : ∀ {p : Int32 → St → Prop}, p (-2) um → (decide (-8 ≤ x.toInt ∧ x.toInt ≤ 8) = false ∨ decide (-8 ≤ y.toInt ∧ y.toInt ≤ 8) = false ∨ decide (-8 ≤ z.toInt ∧ z.toInt ≤ 8) = false ∨ decide (1 ≤ w.toInt ∧ w.toInt ≤ 8) = false ∨ decide (1 ≤ d.toInt ∧ d.toInt ≤ 8) = false ∨ decide (1 ≤ h.toInt ∧ h.toInt ≤ 8) = false) → P_X5_box um x y z w d h (bI v) p := by
    intro p hp hq
    unfold P_X5_box
    refine v_inL (-8) 8 (by decide) (by decide) ?_
    refine if_bI (fun q1 => ?_) (fun _ => if_t rfl hp)
    refine v_inL (-8) 8 (by decide) (by decide) ?_
    refine if_bI (fun q2 => ?_) (fun _ => if_t rfl hp)
    refine v_inL (-8) 8 (by decide) (by decide) ?_
    refine if_bI (fun q3 => ?_) (fun _ => if_t rfl hp)
    refine v_inL 1 8 (by decide) (by decide) ?_
    refine if_bI (fun q4 => ?_) (fun _ => if_t rfl hp)
    refine v_inL 1 8 (by decide) (by decide) ?_
    refine if_bI (fun q5 => ?_) (fun _ => if_t rfl hp)
    refine v_inL 1 8 (by decide) (by decide) ?_
    refine if_bI (fun q6 => ?_) (fun _ => if_t rfl hp)
    rcases hq with q | q | q | q | q | q
    · rw [q1] at q; cases q
    · rw [q2] at q; cases q
    · rw [q3] at q; cases q
    · rw [q4] at q; cases q
    · rw [q5] at q; cases q
    · rw [q6] at q; cases q
  unfold P_X4_box
  refine v_isCorner ?_
  refine if_bI (fun q1 => ?_) (fun q => bad ⟨rfl, hI⟩ (Or.inl q))
  refine v_isCorner ?_
  refine if_bI (fun q2 => ?_) (fun q => bad ⟨rfl, hI⟩ (Or.inr (Or.inl q)))
  refine v_isCorner ?_
  refine if_bI (fun q3 => ?_) (fun q => bad ⟨rfl, hI⟩ (Or.inr (Or.inr (Or.inl q))))
  refine v_isSize ?_
  refine if_bI (fun q4 => ?_) (fun q => bad ⟨rfl, hI⟩ (Or.inr (Or.inr (Or.inr (Or.inl q)))))
  refine v_isSize ?_
  refine if_bI (fun q5 => ?_) (fun q => bad ⟨rfl, hI⟩ (Or.inr (Or.inr (Or.inr (Or.inr (Or.inl q))))))
  refine v_isSize ?_
  refine if_bI (fun q6 => ?_) (fun q => bad ⟨rfl, hI⟩ (Or.inr (Or.inr (Or.inr (Or.inr (Or.inr q))))))
  obtain ⟨wd, w1, w2, rfl⟩ := of_rng (lo := 1) (hi := 8) q4
  obtain ⟨dp, d1, d2, rfl⟩ := of_rng (lo := 1) (hi := 8) q5
  obtain ⟨hg, h1, h2, rfl⟩ := of_rng (lo := 1) (hi := 8) q6
  have hx := of_decide_eq_true q1
  have hy := of_decide_eq_true q2
  have hz := of_decide_eq_true q3
  rw [hS.1, hS.2.1, hS.2.2.1]
  refine v_layers hz ⟨h1, h2⟩ hZ.2 (fun L hL hl => ?_)
  intro y8 e8 y9 e9 y10 e10
  rw [max0 hx.1 hx.2] at e10
  subst e10
  refine v_boxX hO hS hx hy ⟨w1, w2⟩ ⟨d1, d2⟩ hL (by rw [e8, min_to hW.2, addk hx.1 hx.2 (by omega)]) (by rw [e9, min_to hD.2, addk hy.1 hy.2 (by omega)]) (fun us hus => ?_)
  -- the reference
  unfold P_X5_box
  refine v_inL (-8) 8 (by decide) (by decide) ?_
  refine if_bI (fun _ => ?_) (fun t => by rw [q1] at t; cases t)
  refine v_inL (-8) 8 (by decide) (by decide) ?_
  refine if_bI (fun _ => ?_) (fun t => by rw [q2] at t; cases t)
  refine v_inL (-8) 8 (by decide) (by decide) ?_
  refine if_bI (fun _ => ?_) (fun t => by rw [q3] at t; cases t)
  refine v_inL 1 8 (by decide) (by decide) ?_
  refine if_bI (fun _ => ?_) (fun t => by rw [q4] at t; cases t)
  refine v_inL 1 8 (by decide) (by decide) ?_
  refine if_bI (fun _ => ?_) (fun t => by rw [q5] at t; cases t)
  refine v_inL 1 8 (by decide) (by decide) ?_
  refine if_bI (fun _ => ?_) (fun t => by rw [q6] at t; cases t)
  refine if_f (by decide) ?_
  refine v_boxM hO hM hx hy hz w2 d2 h2 (fun s' hs' => ?_)
  intro u32 e32
  have same : ∀ a b, bxU z.toInt Z v (c a b) hg = bxF L v (c a b) ∧ bxD z.toInt Z v (c a b) hg = pcN (c a b ^^^ bxF L v (c a b)) := fun a b => bx_same hZ.2 (hO.2.2.2.2.2.1 a b) hL hl
  have eC : cP c (fun b => bxU z.toInt Z v b hg) (dnM x.toInt y.toInt wd 0 dp W D) = cP c (bxF L v) (bxAll x.toInt y.toInt wd dp W D) := by
    funext a b
    have e : dnM x.toInt y.toInt wd 0 dp W D a b = bxAll x.toInt y.toInt wd dp W D a b := by
      unfold dnM bxAll
      rw [show bxIn y.toInt 0 b = false from decide_eq_false (by omega)]
      cases bxIn x.toInt wd a <;> cases bxIn y.toInt dp b <;> cases decide (a < W) <;> cases decide (b < D) <;> simp
    show (if dnM x.toInt y.toInt wd 0 dp W D a b then bxU z.toInt Z v (c a b) hg else c a b) = (if bxAll x.toInt y.toInt wd dp W D a b then bxF L v (c a b) else c a b)
    rw [e, (same a b).1]
  have eN : fb_sm (hX c (fun b => bxD z.toInt Z v b hg) x.toInt y.toInt W D dp) wd = fb_sm (gX c (bxF L v) x.toInt y.toInt wd dp D) W := by
    refine Eq.trans (show fb_sm (hX c (fun b => bxD z.toInt Z v b hg) x.toInt y.toInt W D dp) wd = _ from sm_shift (fun i => fb_sm (hY c (fun b => bxD z.toInt Z v b hg) y.toInt D i) dp) x.toInt W wd) ?_
    apply fb_sm_cong
    intro i hi
    unfold gX
    cases bxIn x.toInt wd i with
    | false => rfl
    | true =>
      show fb_sm (hY c (fun b => bxD z.toInt Z v b hg) y.toInt D i) dp = fb_sm (gY c (bxF L v) y.toInt dp i) D
      refine Eq.trans (show fb_sm (hY c (fun b => bxD z.toInt Z v b hg) y.toInt D i) dp = _ from sm_shift (fun j => bxD z.toInt Z v (c i j) hg) y.toInt D dp) ?_
      apply fb_sm_cong
      intro j hj
      unfold gY
      rw [(same i j).2]
  rw [eC] at hs'
  refine ⟨by rw [eN], ?_⟩
  subst e32
  refine ⟨W, D, Z, cx, cy, _, hO.cP (fun b hb => bxF_lt hL hb) (fun a b q => ?_), hus, ?_, BIs.forget rfl⟩
  · unfold bxAll at q
    simp only [Bool.and_eq_true, decide_eq_true_eq] at q
    exact ⟨q.1.2, q.2.2⟩
  · exact ⟨hs'.1, hs'.2.1, hs'.2.2.1, hs'.2.2.2.1, hs'.2.2.2.2.1, hs'.2.2.2.2.2⟩
