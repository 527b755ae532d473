/-! figures onto boards: both -/
section LYM
variable {W D Z cx cy : Nat} {c : Nat → Nat → Nat} {u : St}
theorem v_layM (hO : OKs W D Z cx cy c) (hM : MIs W D Z cx cy c u) {k0 w h : Nat} (hk : k0 ≤ 5) (hw : 1 ≤ w ∧ w ≤ 60) (hh : 1 ≤ h ∧ h ≤ 60) {post : Int32 → St → Prop}
    (h0 : (∃ j, j < (gs cx cy c k0 16).2 ∧ ¬ ((gs cx cy c k0 16).1 j 5 ≤ w ∧ (gs cx cy c k0 16).1 j 6 ≤ h)) → ∀ u', mS u u' → post (-5) u')
    (h1 : (∀ j, j < (gs cx cy c k0 16).2 → (gs cx cy c k0 16).1 j 5 ≤ w ∧ (gs cx cy c k0 16).1 j 6 ≤ h) → ∀ u', MIs W D Z cx cy c u' → u'.1 5 = 1 → u'.1 14 = nI (gs cx cy c k0 16).2 → u'.1 15 = ((nI (arN (gs cx cy c k0 16).1 (gs cx cy c k0 16).2) + nI w * nI h) - (1 : Int32)) / (nI w * nI h) → Rw (u'.2 13) (gs cx cy c k0 16).1 (gs cx cy c k0 16).2 → Ls w h (gs cx cy c k0 16).1 (u'.2 13) (gs cx cy c k0 16).2 → post (if (gs cx cy c k0 16).2 = 0 then 0 else nI (rws w h (gs cx cy c k0 16).1 (gs cx cy c k0 16).2).1 + 1) u') : P_X5_lay u (nI w) (nI h) (nI k0) post := by
  have hwh : 1 ≤ w * h := Nat.mul_pos (by omega) (by omega)
  have hwh2 : w * h ≤ 60 * 60 := Nat.mul_le_mul (by omega) (by omega)
  have ewh : nI w * nI h = nI (w * h) := pk_mul w h
  have tw : (nI w).toInt = w := nI_toInt (by omega)
  have th : (nI h).toInt = h := nI_toInt (by omega)
  have tk : (nI k0).toInt = k0 := nI_toInt (by omega)
  unfold P_X5_lay
  refine v_inL 1 60 (by decide) (by decide) ?_
  refine if_bI (fun _ => ?_) (fun t => absurd (of_decide_eq_false t) (by omega))
  refine v_inL 1 60 (by decide) (by decide) ?_
  refine if_bI (fun _ => ?_) (fun t => absurd (of_decide_eq_false t) (by omega))
  refine v_inL 0 5 (by decide) (by decide) ?_
  refine if_bI (fun _ => ?_) (fun t => absurd (of_decide_eq_false t) (by omega))
  refine v_gather hO hM hk (fun u5 m5 hR5 => ?_)
  have hle := gs_le (cx := cx) (cy := cy) (c := c) (k0 := k0) 16
  have hBd := gs_bd (cx := cx) (cy := cy) (c := c) hk (r := 16) (by omega)
  have hps := gs_pos (cx := cx) (cy := cy) (c := c) (k0 := k0) (r := 16)
  generalize (gs cx cy c k0 16).1 = f at *
  generalize (gs cx cy c k0 16).2 = n at *
  refine v_fitM hR5 hBd hle hw.2 hh.2 (fun hf => ?_) (fun hn => h0 hn u5 m5)
  refine v_rowsM hR5 hBd hle hps hf hw hh (fun u32 f32 hR32 hL32 => ?_)
  refine v_copy hle (fun u38 g1 g2 g3 => ?_)
  intro u39 e39
  refine ⟨?_, ?_⟩
  · rw [ewh]
    intro q
    have := (nI_eq (b := 0) (by omega) (by decide)).mp q
    omega
  intro y40 e40 u41 e41 u42 e42
  have key : MIs W D Z cx cy c u42 ∧ u42.1 5 = 1 ∧ u42.1 14 = nI n ∧ u42.1 15 = y40 ∧ u42.2 13 = u38.2 13 := by
    subst e42 e41 e39
    have hM38 : MIs W D Z cx cy c u38 := by
      have hM32 := f32.mS.MI (m5.MI hM)
      unfold MIs
      rw [g1, g2 3 (by decide), g2 4 (by decide)]
      exact hM32
    exact ⟨hM38, rfl, rfl, rfl, rfl⟩
  obtain ⟨k1, k2, k3, k4, k5⟩ := key
  have hR42 : Rw (u42.2 13) f n := by
    intro j k hj hkk
    have := kk_7 hkk
    rw [k5, g3 _ (by omega)]
    exact hR32 j k hj hkk
  have hL42 : Ls w h f (u42.2 13) n := by
    intro j hj
    rw [k5, g3 _ (by omega), g3 _ (by omega), g3 _ (by omega)]
    exact hL32 j hj
  have fin := h1 hf u42 k1 k2 k3 (k4.trans e40) hR42 hL42
  refine if_i (d := n = 0) (nI_eq (b := 0) (by omega) (by decide)) (fun q => ?_) (fun q => ?_)
  · rw [if_pos q] at fin
    exact fin
  · rw [if_neg q] at fin
    exact fin
end LYM
theorem BIs.lay {ub um : St} {f : Nat → Nat → Nat} {n w h : Nat} (hn : n ≤ 16) (b1 : ub.1 1 = 1) (b2 : ub.1 2 = nI n) (m5 : um.1 5 = 1) (m14 : um.1 14 = nI n) (e4 : ub.1 4 = um.1 15) (hR : Rw (ub.2 0) f n) (hL : Ls w h f (ub.2 0) n) (hR' : Rw (um.2 13) f n) (hL' : Ls w h f (um.2 13) n) : BIs ub um := by
  refine ⟨by rw [b1, m5], Or.inr ⟨b1, n, hn, b2, m14, e4, fun i k hi hk => ?_⟩⟩
  rcases (show kk k ∨ k = 2 ∨ k = 3 ∨ k = 4 by unfold kk; omega) with q | q | q | q
  · rw [hR i k hi q, hR' i k hi q]
  · subst q; rw [(hL i hi).1, (hL' i hi).1]
  · subst q; rw [(hL i hi).2.1, (hL' i hi).2.1]
  · subst q; rw [(hL i hi).2.2, (hL' i hi).2.2]
theorem op_lay {ux : St × St} {um : St} (hI : Inv ux um) (w h k : Int32) : P_X4_lay ux w h k (fun r ux' => P_X5_lay um w h k (fun r' um' => r = r' ∧ Inv ux' um')) := by
  obtain ⟨W, D, Z, cx, cy, c, hO, hS, hM, hB⟩ := id hI
  have e0 : (0 : Int32).toInt = 0 := by decide
  have e1 : (1 : Int32).toInt = 1 := by decide
  have e5 : (5 : Int32).toInt = 5 := by decide
  have e60 : (60 : Int32).toInt = 60 := by decide
  have bad : ¬ ((1 ≤ w.toInt ∧ w.toInt ≤ 60) ∧ (1 ≤ h.toInt ∧ h.toInt ≤ 60) ∧ (0 ≤ k.toInt ∧ k.toInt ≤ 5)) → P_X5_lay um w h k (fun r' um' => (-2 : Int32) = r' ∧ Inv ux um') := by
    intro hn
    unfold P_X5_lay
    refine v_inL 1 60 (by decide) (by decide) ?_
    refine if_bI (fun t1 => ?_) (fun _ => ⟨rfl, hI⟩)
    refine v_inL 1 60 (by decide) (by decide) ?_
    refine if_bI (fun t2 => ?_) (fun _ => ⟨rfl, hI⟩)
    refine v_inL 0 5 (by decide) (by decide) ?_
    refine if_bI (fun t3 => ?_) (fun _ => ⟨rfl, hI⟩)
    exact absurd ⟨of_decide_eq_true t1, of_decide_eq_true t2, of_decide_eq_true t3⟩ hn
  unfold P_X4_lay
  refine if_i (d := w.toInt < 1) (by rw [fa_lt, e1]) (fun q => bad (by omega)) (fun q1 => ?_)
  refine if_i (d := 60 < w.toInt) (by rw [fa_lt, e60]) (fun q => bad (by omega)) (fun q2 => ?_)
  refine if_i (d := h.toInt < 1) (by rw [fa_lt, e1]) (fun q => bad (by omega)) (fun q3 => ?_)
  refine if_i (d := 60 < h.toInt) (by rw [fa_lt, e60]) (fun q => bad (by omega)) (fun q4 => ?_)
  refine if_i (d := k.toInt < 0) (by rw [fa_lt, e0]) (fun q => bad (by omega)) (fun q5 => ?_)
  refine if_i (d := k.toInt ≤ 5) (by rw [fa_le, e5]) (fun q6 => ?_) (fun q => bad (by omega))
  obtain ⟨nw, ew⟩ : ∃ n : Nat, w.toInt = n := ⟨w.toInt.toNat, by omega⟩
  obtain ⟨nh, eh⟩ : ∃ n : Nat, h.toInt = n := ⟨h.toInt.toNat, by omega⟩
  obtain ⟨nk, ek⟩ : ∃ n : Nat, k.toInt = n := ⟨k.toInt.toNat, by omega⟩
  have hw : w = nI nw := by rw [fa_eq, nI_toInt (by omega)]; exact ew
  have hh : h = nI nh := by rw [fa_eq, nI_toInt (by omega)]; exact eh
  have hk : k = nI nk := by rw [fa_eq, nI_toInt (by omega)]; exact ek
  have x1 : (nI nw - nI nk).toInt = (nw : Int) - nk := pk_sub_toInt (by omega) (by omega)
  have x2 : (nI nh - nI nk).toInt = (nh : Int) - nk := pk_sub_toInt (by omega) (by omega)
  have all := gs_all (cx := cx) (cy := cy) (c := c) (k0 := nk) (Q := fun e => e 5 ≤ nw ∧ e 6 ≤ nh) 16
  have hle := gs_le (cx := cx) (cy := cy) (c := c) (k0 := nk) 16
  have hBd := gs_bd (cx := cx) (cy := cy) (c := c) (k0 := nk) (by omega) (r := 16) (by omega)
  have hk5 : nk ≤ 5 := by omega
  have hw6 : 1 ≤ nw ∧ nw ≤ 60 := by omega
  have hh6 : 1 ≤ nh ∧ nh ≤ 60 := by omega
  clear ew eh ek
  subst hw hh hk
  refine v_allFit hO hS (fun hall => ?_) (fun hno => ?_)
  · have hfit := all.mpr (fun r hr ho => by
      have := hall r hr ho
      rw [x1, x2] at this
      show spU c (r / 8) (r % 8) + nk ≤ nw ∧ spV c (r / 8) (r % 8) + nk ≤ nh
      omega)
    refine if_f (by decide) ?_
    intro z4 e4 u3 e3
    subst e4 e3
    refine v_layLoop hO hS (k0 := nk) hk5 rfl (fun ub a2 aR => ?_)
    refine v_layInRows a2 hle aR hBd hw6 hh6 (fun z b1 b2 b3 b4 b5 b6 => ?_)
    intro u22 e22
    subst e22
    refine v_layM hO hM hk5 hw6 hh6 (fun hn => ?_) (fun _ um' c1 c2 c3 c4 c5 c6 => ?_)
    · obtain ⟨j, hj, hn⟩ := hn
      exact absurd (hfit j hj) hn
    · exact ⟨b3, W, D, Z, cx, cy, c, hO, hS, c1, BIs.lay hle b1 b2 c2 c3 (b4.trans c4.symm) b5 b6 c5 c6⟩
  · refine if_t rfl ?_
    refine v_layM hO hM hk5 hw6 hh6 (fun _ um' hm => ⟨rfl, hm.inv hI⟩) (fun hf => ?_)
    obtain ⟨r, hr, ho, hn⟩ := hno
    have := all.mp hf r hr ho
    have : spU c (r / 8) (r % 8) + nk ≤ nw ∧ spV c (r / 8) (r % 8) + nk ≤ nh := this
    rw [x1, x2] at hn
    omega
