/-! the class: gains, and the best choice -/
def uG (u u' : St) : Prop := u'.1 = u.1 ∧ ∀ k, k ≠ 1 → u'.2 k = u.2 k
theorem uG.rf {u : St} : uG u u := ⟨rfl, fun _ _ => rfl⟩
theorem uG.tr {u v w : St} (h : uG u v) (h2 : uG v w) : uG u w := ⟨h2.1.trans h.1, fun k hk => (h2.2 k hk).trans (h.2 k hk)⟩
theorem uG.SI {W D Z cx cy : Nat} {c : Nat → Nat → Nat} {u v : St} (h : uG u v) (hS : SIs W D Z cx cy c u) : SIs W D Z cx cy c v := by
  unfold SIs
  rw [h.1, h.2 0 (by decide)]
  exact hS
section GNS
variable {W D Z cx cy : Nat} {c : Nat → Nat → Nat} {u : St}
theorem v_reckonGains (hO : OKs W D Z cx cy c) (hS : SIs W D Z cx cy c u) {p : Nat} (hp : p < 256) {post : St → Prop} (h : ∀ u', uG u u' → (∀ y, y < D → u'.2 1 y = zI (gn W c p y)) → post u') : P_X3_reckonGains u (nI p) post := by
  have hW := hO.1
  have hD := hO.2.1
  show ∃ n, L_X3_reckonGains_2 post (fun (u_16 : St) => post u_16) (nI p) n (0 : Int32) u
  refine loop_0 (σ := St) (fun n y s => L_X3_reckonGains_2 post (fun (u_16 : St) => post u_16) (nI p) n (nI y) s) (fun y s => uG u s ∧ ∀ y', y' < y → s.2 1 y' = zI (gn W c p y')) D u ⟨uG.rf, fun y' hy' => absurd hy' (Nat.not_lt_zero y')⟩ ?_ ?_
  · intro n s hs
    rw [L_X3_reckonGains_2, (hs.1.SI hS).2.1]
    exact if_t (nI_le (Nat.le_refl _) (by omega)) (h s hs.1 hs.2)
  · intro n y s hy hs ih
    have hS' := hs.1.SI hS
    rw [L_X3_reckonGains_2, hS'.2.1, show nI y + (1 : Int32) = nI (y + 1) from nI_1 y]
    refine if_f (fun q => absurd ((nI_leI (by omega) (by omega)).mp q) (by omega)) ?_
    refine if_f (fun q => absurd ((nI_leI (a := 8) (by decide) (by omega)).mp q) (by omega)) ?_
    refine loop_0 (σ := Unit) (fun n' x _ => L_X3_reckonGains_24 post (fun (v3_13 : Int32) => vp_in (nI y) 8 ∧ ∀ u_14 : St, u_14 = (s.1, va_up s.2 1 (upd (s.2 1) (nI y).toNatClampNeg v3_13)) → ∀ y_15 : Int32, y_15 = nI (y + 1) → L_X3_reckonGains_2 post (fun (u_16 : St) => post u_16) (nI p) n y_15 u_14) (nI p) (nI y) s n' (zI (fb_si (fun x => gc c p x y) x)) (nI x)) (fun _ _ => True) W () trivial ?_ ?_
    · intro n' _ _
      rw [L_X3_reckonGains_24, hS'.1]
      refine if_t (nI_le (Nat.le_refl _) (by omega)) ?_
      refine ⟨vp_in_nI (by omega) (by decide), ?_⟩
      intro u14 e14 y15 e15
      subst e15
      refine ih u14 ⟨?_, ?_⟩
      · rw [e14]
        exact hs.1.tr ⟨rfl, fun k hk => if_neg hk⟩
      · intro y' hy'
        rw [e14, nI_clamp (by omega)]
        show upd (s.2 1) y _ y' = _
        by_cases q : y' = y
        · subst q; exact pk_us
        · exact (if_neg q).trans (hs.2 y' (by omega))
    · intro n' x _ hx _ ih'
      have ih' := ih' () trivial
      rw [fb_si_succ, ← zI_add] at ih'
      rw [L_X3_reckonGains_24, hS'.1, show nI x + (1 : Int32) = nI (x + 1) from nI_1 x]
      refine if_f (fun q => absurd ((nI_leI (by omega) (by omega)).mp q) (by omega)) ?_
      refine v_hasBit hp (by omega) ?_
      refine if_bI (fun t => ?_) (fun t => ?_)
      · refine v_wouldCatch hO hS' (by omega) (by omega) ?_
        refine if_bI (fun t2 => ?_) (fun t2 => ?_)
        · intro y7 e7 y12 e12
          rw [show gc c p x y = -1 from by unfold gc; rw [if_pos t, if_pos (of_decide_eq_true t2)], show zI (-1) = (-1 : Int32) from rfl] at ih'
          subst e7 e12
          exact ih'
        · intro y12 e12
          rw [show gc c p x y = 0 from by unfold gc; rw [if_pos t, if_neg (of_decide_eq_false t2)], zI_add, Int.add_zero] at ih'
          subst e12
          exact ih'
      · refine v_columnAt hO hS' (by omega) (by omega) ?_
        refine v_bitCount (hO.c8 x y) ?_
        intro y10 e10 y12 e12
        rw [show gc c p x y = 128 * (pcN (c x y) : Int) from by unfold gc; rw [if_neg (by rw [t]; decide)], ← zI_128] at ih'
        subst e10 e12
        exact ih'
def Nx (g : Nat → Int) (t y : Nat) (v : Int32) : Prop := (v = -1 ∧ ∀ y', y' < y → t.testBit y' = true) ∨ ∃ m, m < y ∧ v = nI m ∧ t.testBit m = false ∧ ∀ y', y' < y → t.testBit y' = false → kyN g y' ≤ kyN g m
theorem v_greatestGains (hO : OKs W D Z cx cy c) (hS : SIs W D Z cx cy c u) {g : Nat → Int} (hg : ∀ y, y < D → u.2 1 y = zI (g y)) (hr : ∀ y, -8192 ≤ g y ∧ g y ≤ 8192) {b : Nat} (hb : b ≤ D) {post : Int32 → Prop} (h : ∀ t, Tp D (kyN g) t b → post (nI t)) : P_X3_greatestGains u (nI b) post := by
  have hD := hO.2.1
  show ∃ n, L_X3_greatestGains_4 post (fun (v2_12 : Int32) => post v2_12) u (nI b) n (0 : Int32) (0 : Int32)
  refine loop_0 (σ := Nat) (fun n i t => L_X3_greatestGains_4 post (fun (v2_12 : Int32) => post v2_12) u (nI b) n (nI t) (nI i)) (fun i t => Tp D (kyN g) t i) b 0 (Tp.zero (θ := 512 * 8192) (fun y hy => by have := hr y; unfold kyN; generalize 2 ^ y = z; omega)) ?_ ?_
  · intro n t ht
    rw [L_X3_greatestGains_4]
    exact if_t (nI_le (Nat.le_refl _) (by omega)) (h t ht)
  · intro n i t hi ht ih
    have ht8 : t < 256 := Nat.lt_of_lt_of_le ht.1 (OKs.pw hD.2)
    rw [L_X3_greatestGains_4, show nI i + (1 : Int32) = nI (i + 1) from nI_1 i]
    refine if_f (fun q => absurd ((nI_leI (by omega) (by omega)).mp q) (by omega)) ?_
    refine loop_0 (σ := Int32) (fun n' y v => L_X3_greatestGains_15 post (fun (v4_8 : Int32) => jn1 (fun (v2_10 : Int32) => ∀ y_11 : Int32, y_11 = nI (i + 1) → L_X3_greatestGains_4 post (fun (v2_12 : Int32) => post v2_12) u (nI b) n v2_10 y_11) (fun J_87 => if v4_8 < 0 then (J_87 (nI t)) else (∀ y_9 : Int32, y_9 = (nI t ||| ((1 : Int32) <<< (v4_8 &&& 31))) → J_87 y_9))) u (nI t) n' v (nI y)) (fun y v => Nx g t y v) D (-1) (Or.inl ⟨rfl, fun y' hy' => absurd hy' (Nat.not_lt_zero y')⟩) ?_ ?_
    · intro n' v hv
      rw [L_X3_greatestGains_15, hS.2.1]
      refine if_t (nI_le (Nat.le_refl _) (by omega)) ?_
      rcases hv with ⟨_, hall⟩ | ⟨m, hm, rfl, hf, hbest⟩
      · have e1 := ht.2.1
        rw [cnt_all D hall] at e1
        omega
      · refine if_f (fun q => absurd ((nI_ltI (b := 0) (by omega) (by decide)).mp q) (by omega)) ?_
        intro y9 e9 y11 e11
        have hsh := sh_dec0 ⟨m, by omega⟩
        dsimp only at hsh
        rw [hsh, fa_or] at e9
        subst e9 e11
        exact ih _ (ht.step hm hf hbest)
    · intro n' y v hy hv ih'
      rw [L_X3_greatestGains_15, hS.2.1, show nI y + (1 : Int32) = nI (y + 1) from nI_1 y]
      refine if_f (fun q => absurd ((nI_leI (by omega) (by omega)).mp q) (by omega)) ?_
      refine if_f (fun q => absurd ((nI_leI (a := 8) (by decide) (by omega)).mp q) (by omega)) ?_
      refine v_hasBit ht8 (by omega) ?_
      refine if_bI (fun e => ?_) (fun e => ?_)
      · intro y7 e7
        subst e7
        refine ih' v ?_
        rcases hv with ⟨hv, hall⟩ | ⟨m, hm, hv, hf, hbest⟩
        · refine Or.inl ⟨hv, fun y' hy' => ?_⟩
          by_cases q : y' = y
          · rw [q]; exact e
          · exact hall y' (by omega)
        · refine Or.inr ⟨m, by omega, hv, hf, fun y' hy' hf' => ?_⟩
          by_cases q : y' = y
          · rw [q, e] at hf'; cases hf'
          · exact hbest y' (by omega) hf'
      · have new : (∀ y', y' < y → t.testBit y' = false → kyN g y' ≤ kyN g y) → ∀ y_7 : Int32, y_7 = nI (y + 1) → L_X3_greatestGains_15 post (fun (v4_8 : Int32) => jn1 (fun (v2_10 : Int32) => ∀ y_11 : Int32, y_11 = nI (i + 1) → L_X3_greatestGains_4 post (fun (v2_12 : Int32) => post v2_12) u (nI b) n v2_10 y_11) (fun J_87 => if v4_8 < 0 then (J_87 (nI t)) else (∀ y_9 : Int32, y_9 = (nI t ||| ((1 : Int32) <<< (v4_8 &&& 31))) → J_87 y_9))) u (nI t) n' (nI y) y_7 := by
          intro hh y7 e7
          subst e7
          refine ih' (nI y) (Or.inr ⟨y, by omega, rfl, e, fun y' hy' hf' => ?_⟩)
          by_cases q : y' = y
          · rw [q]; exact Int.le_refl _
          · exact hh y' (by omega) hf'
        rcases hv with ⟨hv, hall⟩ | ⟨m, hm, hv, hf, hbest⟩
        · have hlt : v < 0 := by rw [hv]; decide
          refine if_t hlt (new (fun y' hy' hf' => ?_))
          rw [hall y' hy'] at hf'; cases hf'
        · subst hv
          refine if_f (fun q => absurd ((nI_ltI (b := 0) (by omega) (by decide)).mp q) (by omega)) ?_
          refine ⟨vp_in_nI (by omega) (by decide), vp_in_nI (by omega) (by decide), ?_⟩
          rw [nI_clamp (show y < 2 ^ 31 by omega), nI_clamp (show m < 2 ^ 31 by omega), hg y hy, hg m (by omega)]
          have r1 := hr y
          have r2 := hr m
          refine if_i (zI_le (by omega) (by omega) (by omega) (by omega)) (fun q => ?_) (fun q => ?_)
          · intro y7 e7
            subst e7
            refine ih' (nI m) (Or.inr ⟨m, by omega, rfl, hf, fun y' hy' hf' => ?_⟩)
            by_cases z : y' = y
            · rw [z]; exact ky_le hm q
            · exact hbest y' (by omega) hf'
          · refine new (fun y' hy' hf' => ?_)
            have k1 := hbest y' hy' hf'
            have k2 : kyN g m ≤ kyN g y := ky_lt (by omega) (by omega)
            omega
theorem v_sumOfGains (hO : OKs W D Z cx cy c) (hS : SIs W D Z cx cy c u) {g : Nat → Int} (hg : ∀ y, y < D → u.2 1 y = zI (g y)) {q : Nat} (hq : q < 256) {post : Int32 → Prop} (h : post (zI (sg g q D))) : P_X3_sumOfGains u (nI q) post := by
  have hD := hO.2.1
  show ∃ n, L_X3_sumOfGains_4 post (fun (v2_7 : Int32) => post v2_7) u (nI q) n (0 : Int32) (0 : Int32)
  refine loop_0 (σ := Unit) (fun n y _ => L_X3_sumOfGains_4 post (fun (v2_7 : Int32) => post v2_7) u (nI q) n (zI (fb_si (fun y => if q.testBit y = true then g y else 0) y)) (nI y)) (fun _ _ => True) D () trivial ?_ ?_
  · intro n _ _
    rw [L_X3_sumOfGains_4, hS.2.1]
    exact if_t (nI_le (Nat.le_refl _) (by omega)) h
  · intro n y _ hy _ ih
    have ih := ih () trivial
    rw [fb_si_succ] at ih
    rw [L_X3_sumOfGains_4, hS.2.1, show nI y + (1 : Int32) = nI (y + 1) from nI_1 y]
    refine if_f (fun q => absurd ((nI_leI (by omega) (by omega)).mp q) (by omega)) ?_
    refine if_f (fun q => absurd ((nI_leI (a := 8) (by decide) (by omega)).mp q) (by omega)) ?_
    refine v_hasBit hq (by omega) ?_
    refine if_bI (fun e => ?_) (fun e => ?_)
    · refine ⟨vp_in_nI (by omega) (by decide), ?_⟩
      intro y4 e4 y6 e6
      rw [nI_clamp (by omega), hg y hy, zI_add] at e4
      rw [if_pos e] at ih
      subst e4 e6
      exact ih
    · intro y6 e6
      rw [if_neg (by rw [e]; decide), Int.add_zero] at ih
      subst e6
      exact ih
theorem wa_col (hO : OKs W D Z cx cy c) (x : Nat) : fb_sm (fun v => pcN (rcl c 0 x v)) 8 = fb_sm (fun y => pcN (c x y)) D := by
  have hD := hO.2.1
  have e : ∀ v, rcl c 0 x v = c x v := fun v => if_pos rfl
  rw [show (fun v => pcN (rcl c 0 x v)) = (fun y => pcN (c x y)) from funext fun v => by rw [e v]]
  refine sm_eq (fun k hk => ?_)
  have : c x k = 0 := hO.2.2.2.2.2.2 x k (by omega)
  rw [this]
  decide
theorem v_worthAlone (hO : OKs W D Z cx cy c) (hS : SIs W D Z cx cy c u) {p : Nat} (hp : p < 256) {post : Int32 → Prop} (h : post (zI (128 * (waN W D c p : Int)))) : P_X3_worthAlone u (nI p) post := by
  have hW := hO.1
  show ∃ n, L_X3_worthAlone_4 post (fun (v2_9 : Int32) => post ((128 : Int32) * v2_9)) u (nI p) n (0 : Int32) (0 : Int32)
  refine loop_0 (σ := Unit) (fun n x _ => L_X3_worthAlone_4 post (fun (v2_9 : Int32) => post ((128 : Int32) * v2_9)) u (nI p) n (nI (fb_sm (fun x => if p.testBit x = true then fb_sm (fun y => pcN (c x y)) D else 0) x)) (nI x)) (fun _ _ => True) W () trivial ?_ ?_
  · intro n _ _
    rw [L_X3_worthAlone_4, hS.1, zI_128]
    exact if_t (nI_le (Nat.le_refl _) (by omega)) h
  · intro n x _ hx _ ih
    have ih := ih () trivial
    rw [fb_sm_succ] at ih
    rw [L_X3_worthAlone_4, hS.1, show nI x + (1 : Int32) = nI (x + 1) from nI_1 x]
    refine if_f (fun q => absurd ((nI_leI (by omega) (by omega)).mp q) (by omega)) ?_
    refine v_hasBit hp (by omega) ?_
    refine if_bI (fun e => ?_) (fun e => ?_)
    · refine v_figureOf hO hS (ax := 0) (by decide) (by omega) ?_
      refine v_bitCount64 (rcl_8 hO 0 x) ?_
      intro y6 e6 y8 e8
      rw [wa_col hO, nI_add] at e6
      rw [if_pos e] at ih
      subst e6 e8
      exact ih
    · intro y8 e8
      rw [if_neg (by rw [e]; decide), Nat.add_zero (fb_sm (fun x => if p.testBit x = true then fb_sm (fun y => pcN (c x y)) D else 0) x)] at ih
      subst e8
      exact ih
end GNS
