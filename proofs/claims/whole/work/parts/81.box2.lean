/-! box: the loops of both sides -/
theorem sm_hi {f : Nat → Nat} {a : Nat} : ∀ d, (∀ k, a ≤ k → k < a + d → f k = 0) → fb_sm f (a + d) = fb_sm f a
  | 0, _ => rfl
  | d + 1, h => by
    show fb_sm f (a + d + 1) = _
    rw [fb_sm_succ, h (a + d) (by omega) (by omega), Nat.add_zero]
    exact sm_hi d (fun k h1 h2 => h k h1 (by omega))
theorem sm_eq {f : Nat → Nat} {a b : Nat} (h : ∀ k, (a ≤ k ∧ k < b) ∨ (b ≤ k ∧ k < a) → f k = 0) : fb_sm f a = fb_sm f b := by
  rcases Nat.le_total a b with q | q
  · obtain ⟨d, rfl⟩ : ∃ d, b = a + d := ⟨b - a, by omega⟩
    exact (sm_hi d (fun k h1 h2 => h k (Or.inl ⟨h1, h2⟩))).symm
  · obtain ⟨d, rfl⟩ : ∃ d, a = b + d := ⟨a - b, by omega⟩
    exact sm_hi d (fun k h1 h2 => h k (Or.inr ⟨h1, h2⟩))
theorem sm_one {f g : Nat → Nat} {j : Nat} (he : ∀ k, k ≠ j → g k = f k) : ∀ n, fb_sm g n + (if j < n then f j else 0) = fb_sm f n + (if j < n then g j else 0)
  | 0 => rfl
  | n + 1 => by
    have ih := sm_one he n
    rw [fb_sm_succ, fb_sm_succ]
    by_cases e : n = j
    · subst e
      rw [if_neg (Nat.lt_irrefl n), if_neg (Nat.lt_irrefl n)] at ih
      rw [if_pos (Nat.lt_succ_self n), if_pos (Nat.lt_succ_self n)]
      omega
    · rw [he n e]
      by_cases h : j < n
      · rw [if_pos h, if_pos h] at ih
        rw [if_pos (by omega), if_pos (by omega)]
        omega
      · rw [if_neg h, if_neg h] at ih
        rw [if_neg (by omega), if_neg (by omega)]
        omega
/-- the same sum, told from the box and told from the space -/
theorem sm_shift (F : Nat → Nat) (x0 : Int) (W : Nat) : ∀ w, fb_sm (fun k => if 0 ≤ x0 + (k : Int) ∧ x0 + (k : Int) < W then F (x0 + (k : Int)).toNat else 0) w = fb_sm (fun i => if bxIn x0 w i then F i else 0) W
  | 0 => by
    have : fb_sm (fun i => if bxIn x0 0 i then F i else 0) W = fb_sm (fun i => if bxIn x0 0 i then F i else 0) 0 := sm_eq (fun k _ => by rw [show bxIn x0 0 k = false from decide_eq_false (by omega)]; rfl)
    rw [this]; rfl
  | w + 1 => by
    rw [fb_sm_succ, sm_shift F x0 W w]
    by_cases h : 0 ≤ x0 + (w : Int) ∧ x0 + (w : Int) < W
    · rw [if_pos h]
      have hs := sm_one (f := fun i => if bxIn x0 w i then F i else 0) (g := fun i => if bxIn x0 (w + 1) i then F i else 0) (j := (x0 + (w : Int)).toNat) (fun k hk => by
        rw [show bxIn x0 (w + 1) k = bxIn x0 w k from decide_eq_decide.mpr (by omega)]) W
      have hlt : (x0 + (w : Int)).toNat < W := by omega
      rw [if_pos hlt, if_pos hlt] at hs
      rw [show bxIn x0 w (x0 + (w : Int)).toNat = false from decide_eq_false (by omega), show bxIn x0 (w + 1) (x0 + (w : Int)).toNat = true from decide_eq_true (by omega)] at hs
      simp only [if_true, Bool.false_eq_true, if_false, Nat.add_zero] at hs
      exact hs.symm
    · rw [if_neg h, Nat.add_zero]
      apply fb_sm_cong
      intro k hk
      by_cases e : (k : Int) = x0 + w
      · exact absurd ⟨by omega, by omega⟩ h
      · rw [show bxIn x0 (w + 1) k = bxIn x0 w k from decide_eq_decide.mpr (by omega)]
def cP (c : Nat → Nat → Nat) (F : Nat → Nat) (dn : Nat → Nat → Bool) : Nat → Nat → Nat := fun x y => if dn x y then F (c x y) else c x y
theorem cP_put {c : Nat → Nat → Nat} {F : Nat → Nat} {dn dn' : Nat → Nat → Bool} {i j : Nat} (h : dn' i j = true) (h2 : ∀ x y, ¬ (x = i ∧ y = j) → dn' x y = dn x y) : cPut (cP c F dn) i j (F (c i j)) = cP c F dn' := by
  funext x y
  unfold cPut cP
  by_cases e : x = i ∧ y = j
  · rw [if_pos e, e.1, e.2, h, if_pos rfl]
  · rw [if_neg e, h2 x y e]
theorem cP_eq {c : Nat → Nat → Nat} {F : Nat → Nat} {dn dn' : Nat → Nat → Bool} (h : ∀ x y, dn x y = dn' x y) : cP c F dn = cP c F dn' := by
  funext x y
  unfold cP
  rw [h]
theorem cP_at {c : Nat → Nat → Nat} {F : Nat → Nat} {dn : Nat → Nat → Bool} {i j : Nat} (h : dn i j = false) : cP c F dn i j = c i j := by
  unfold cP
  rw [h]; rfl
theorem OKs.cP {W D Z cx cy : Nat} {c : Nat → Nat → Nat} (hO : OKs W D Z cx cy c) {F : Nat → Nat} {dn : Nat → Nat → Bool} (hF : ∀ b, b < 2 ^ Z → F b < 2 ^ Z) (hd : ∀ x y, dn x y = true → x < W ∧ y < D) : OKs W D Z cx cy (cP c F dn) := by
  refine ⟨hO.1, hO.2.1, hO.2.2.1, hO.2.2.2.1, hO.2.2.2.2.1, fun x y => ?_, fun x y h => ?_⟩
  · show (if dn x y then F (c x y) else c x y) < _
    split
    · exact hF _ (hO.2.2.2.2.2.1 x y)
    · exact hO.2.2.2.2.2.1 x y
  · show (if dn x y then F (c x y) else c x y) = _
    rw [if_neg (fun q => h (hd x y q))]
    exact hO.2.2.2.2.2.2 x y h
/-- the box, whole, on the columns -/
def bxAll (x0 y0 : Int) (w d W D : Nat) (x y : Nat) : Bool := (bxIn x0 w x && decide (x < W)) && (bxIn y0 d y && decide (y < D))
def gY (c : Nat → Nat → Nat) (F : Nat → Nat) (y0 : Int) (d i j : Nat) : Nat := if bxIn y0 d j then pcN (c i j ^^^ F (c i j)) else 0
def gX (c : Nat → Nat → Nat) (F : Nat → Nat) (x0 y0 : Int) (w d D i : Nat) : Nat := if bxIn x0 w i then fb_sm (gY c F y0 d i) D else 0
theorem toN_le {y : Int32} {i : Nat} (hi : i < 4096) : y ≤ nI i ↔ y.toInt.toNat ≤ i := by
  rw [fa_le, nI_toInt (by omega)]
  omega
theorem max0 {x : Int32} (h1 : -8 ≤ x.toInt) (h2 : x.toInt ≤ 8) : (if x < (0 : Int32) then (0 : Int32) else x) = nI x.toInt.toNat := by
  have e0 : (0 : Int32).toInt = 0 := by decide
  by_cases q : x < 0
  · rw [if_pos q]
    rw [fa_lt, e0] at q
    rw [show x.toInt.toNat = 0 from by omega]; rfl
  · rw [if_neg q]
    obtain ⟨j, hj, rfl⟩ := nI_of q
    rw [nI_toInt hj]; rfl
theorem min_to {x : Int32} {W : Nat} (hW : W ≤ 8) : (if nI W < x then nI W else x).toInt = min (W : Int) x.toInt := by
  by_cases q : nI W < x
  · rw [if_pos q]
    rw [fa_lt, nI_toInt (by omega)] at q
    rw [nI_toInt (by omega)]; omega
  · rw [if_neg q]
    rw [fa_lt, nI_toInt (by omega)] at q
    omega
theorem add_to {x y : Int32} (h1 : -8 ≤ x.toInt) (h2 : x.toInt ≤ 8) (h3 : 0 ≤ y.toInt) (h4 : y.toInt ≤ 16) : (x + y).toInt = x.toInt + y.toInt := fb_addI (by omega) (by omega)
theorem v_boxX {W D Z cx cy : Nat} {c : Nat → Nat → Nat} {ux : St × St} (hO : OKs W D Z cx cy c) (hS : SIs W D Z cx cy c ux.1) {x y : Int32} {wd dp L : Nat} {v : Bool} (hx : -8 ≤ x.toInt ∧ x.toInt ≤ 8) (hy : -8 ≤ y.toInt ∧ y.toInt ≤ 8) (hw : 1 ≤ wd ∧ wd ≤ 8) (hd : 1 ≤ dp ∧ dp ≤ 8) (hL : L < 2 ^ Z) {post : Int32 → (St × St) → Prop} {y8 y9 : Int32} (e8 : y8.toInt = min (W : Int) (x.toInt + wd)) (e9 : y9.toInt = min (D : Int) (y.toInt + dp))
    (h : ∀ us, SIs W D Z cx cy (cP c (bxF L v) (bxAll x.toInt y.toInt wd dp W D)) us → post (nI (fb_sm (gX c (bxF L v) x.toInt y.toInt wd dp D) W)) (us, (upd ux.2.1 1 0, ux.2.2))) :
    ∃ n, L_X4_box_113 post (fun (v11_26 : Int32) (u_27 : St × St) => P_X0_forget u_27.2 (fun (z_30 : St) => ∀ u_29 : St × St, u_29 = (u_27.1, z_30) → post v11_26 u_29)) y (bI v) (nI L) y8 y9 n (0 : Int32) (nI x.toInt.toNat) ux := by
  have hW := hO.1
  have hD := hO.2.1
  obtain ⟨x0, ex⟩ : ∃ x0, x0 = x.toInt := ⟨_, rfl⟩
  obtain ⟨y0, ey⟩ : ∃ y0, y0 = y.toInt := ⟨_, rfl⟩
  rw [← ex] at hx e8 h ⊢
  rw [← ey] at hy e9 h
  have z0 : fb_sm (gX c (bxF L v) x0 y0 wd dp D) x0.toNat = 0 := by
    have : fb_sm (gX c (bxF L v) x0 y0 wd dp D) x0.toNat = fb_sm (gX c (bxF L v) x0 y0 wd dp D) 0 := sm_eq (fun k hk => by
      unfold gX
      rw [show bxIn x0 wd k = false from decide_eq_false (by omega)]; rfl)
    rw [this]; rfl
  have key := pk_loop (σ := St × St) (fun n i s => L_X4_box_113 post (fun (v11_26 : Int32) (u_27 : St × St) => P_X0_forget u_27.2 (fun (z_30 : St) => ∀ u_29 : St × St, u_29 = (u_27.1, z_30) → post v11_26 u_29)) y (bI v) (nI L) y8 y9 n (nI (fb_sm (gX c (bxF L v) x0 y0 wd dp D) i)) (nI i) s) (fun i s => x0.toNat ≤ i ∧ s.2 = ux.2 ∧ SIs W D Z cx cy (cP c (bxF L v) (fun a b => bxAll x0 y0 wd dp W D a b && decide (a < i))) s.1) (max x0.toNat (min (W : Int) (x0 + wd)).toNat) x0.toNat ux (Nat.le_max_left _ _) ⟨Nat.le_refl _, rfl, ?_⟩ ?_ ?_
  · rw [z0] at key
    exact key
  · rw [show cP c (bxF L v) (fun a b => bxAll x0 y0 wd dp W D a b && decide (a < x0.toNat)) = c from by
      funext a b
      refine cP_at ?_
      by_cases q : a < x0.toNat
      · rw [show bxAll x0 y0 wd dp W D a b = false from by unfold bxAll; rw [show bxIn x0 wd a = false from decide_eq_false (by omega)]; rfl]; rfl
      · rw [decide_eq_false q, Bool.and_false]]
    exact hS
  · intro n s hs
    have hmx : max x0.toNat (min (W : Int) (x0 + wd)).toNat ≤ 16 := by omega
    rw [L_X4_box_113]
    refine if_t ((toN_le (by omega)).mpr (by rw [e8]; omega)) ?_
    refine v_forget ?_
    intro u29 e29
    have eS : fb_sm (gX c (bxF L v) x0 y0 wd dp D) (max x0.toNat (min (W : Int) (x0 + wd)).toNat) = fb_sm (gX c (bxF L v) x0 y0 wd dp D) W := sm_eq (fun k hk => by
      unfold gX
      rw [show bxIn x0 wd k = false from decide_eq_false (by omega)]; rfl)
    rw [eS]
    have eC : cP c (bxF L v) (fun a b => bxAll x0 y0 wd dp W D a b && decide (a < max x0.toNat (min (W : Int) (x0 + wd)).toNat)) = cP c (bxF L v) (bxAll x0 y0 wd dp W D) := cP_eq (fun a b => by
      by_cases q : a < max x0.toNat (min (W : Int) (x0 + wd)).toNat
      · rw [decide_eq_true q, Bool.and_true]
      · rw [decide_eq_false q, Bool.and_false]
        unfold bxAll
        by_cases q2 : bxIn x0 wd a = true
        · have := of_decide_eq_true q2
          rw [show decide (a < W) = false from decide_eq_false (by omega), Bool.and_false, Bool.false_and]
        · rw [Bool.eq_false_iff.mpr q2]; rfl)
    have h3 := hs.2.2
    rw [eC] at h3
    subst e29
    rw [hs.2.1]
    exact h s.1 h3
  · intro n i s hi hs ih
    have hi2 : (i : Int) < min (W : Int) (x0 + wd) := by have := hs.1; omega
    have hiW : i < W := by omega
    have hbx : bxIn x0 wd i = true := decide_eq_true (by have := hs.1; omega)
    rw [L_X4_box_113]
    refine if_f (fun q => ?_) ?_
    · have := (toN_le (by omega)).mp q
      rw [e8] at this
      omega
    · intro y14 e14
      rw [max0 (by rw [← ey]; exact hy.1) (by rw [← ey]; exact hy.2), ← ey] at e14
      subst e14
      have zy : fb_sm (gY c (bxF L v) y0 dp i) y0.toNat = 0 := by
        have : fb_sm (gY c (bxF L v) y0 dp i) y0.toNat = fb_sm (gY c (bxF L v) y0 dp i) 0 := sm_eq (fun k hk => by
          unfold gY
          rw [show bxIn y0 dp k = false from decide_eq_false (by omega)]; rfl)
        rw [this]; rfl
      show ∃ n', L_X4_box_127 post _ (bI v) (nI L) y9 (nI i) n' (nI (fb_sm (gX c (bxF L v) x0 y0 wd dp D) i)) (nI y0.toNat) s
      have key2 := pk_loop (σ := St × St) (fun n' j s' => L_X4_box_127 post (fun (v11_23 : Int32) (u_24 : St × St) => ∀ y_25 : Int32, y_25 = nI i + (1 : Int32) → L_X4_box_113 post (fun (v11_26 : Int32) (u_27 : St × St) => P_X0_forget u_27.2 (fun (z_30 : St) => ∀ u_29 : St × St, u_29 = (u_27.1, z_30) → post v11_26 u_29)) y (bI v) (nI L) y8 y9 n v11_23 y_25 u_24) (bI v) (nI L) y9 (nI i) n' (nI (fb_sm (gX c (bxF L v) x0 y0 wd dp D) i + fb_sm (gY c (bxF L v) y0 dp i) j)) (nI j) s') (fun j s' => y0.toNat ≤ j ∧ s'.2 = ux.2 ∧ SIs W D Z cx cy (cP c (bxF L v) (fun a b => bxAll x0 y0 wd dp W D a b && (decide (a < i) || (decide (a = i) && decide (b < j))))) s'.1) (max y0.toNat (min (D : Int) (y0 + dp)).toNat) y0.toNat s (Nat.le_max_left _ _) ⟨Nat.le_refl _, hs.2.1, ?_⟩ ?_ ?_
      · rw [zy, Nat.add_zero] at key2
        exact key2
      · rw [show cP c (bxF L v) (fun a b => bxAll x0 y0 wd dp W D a b && (decide (a < i) || (decide (a = i) && decide (b < y0.toNat)))) = cP c (bxF L v) (fun a b => bxAll x0 y0 wd dp W D a b && decide (a < i)) from cP_eq (fun a b => by
          by_cases q : b < y0.toNat
          · rw [show bxAll x0 y0 wd dp W D a b = false from by unfold bxAll; rw [show bxIn y0 dp b = false from decide_eq_false (by omega)]; simp]; rfl
          · rw [decide_eq_false q, Bool.and_false, Bool.or_false])]
        exact hs.2.2
      · intro n' s' hs'
        rw [L_X4_box_127]
        refine if_t ((toN_le (by omega)).mpr (by rw [e9]; omega)) ?_
        intro y25 e25
        rw [show nI i + (1 : Int32) = nI (i + 1) from nI_1 i] at e25
        subst e25
        have eS : fb_sm (gY c (bxF L v) y0 dp i) (max y0.toNat (min (D : Int) (y0 + dp)).toNat) = fb_sm (gY c (bxF L v) y0 dp i) D := sm_eq (fun k hk => by
          unfold gY
          rw [show bxIn y0 dp k = false from decide_eq_false (by omega)]; rfl)
        rw [eS, show fb_sm (gX c (bxF L v) x0 y0 wd dp D) i + fb_sm (gY c (bxF L v) y0 dp i) D = fb_sm (gX c (bxF L v) x0 y0 wd dp D) (i + 1) from by
          rw [fb_sm_succ]
          congr 1
          unfold gX
          rw [hbx]; rfl]
        refine ih s' ⟨by have := hs.1; omega, hs'.2.1, ?_⟩
        rw [show cP c (bxF L v) (fun a b => bxAll x0 y0 wd dp W D a b && decide (a < i + 1)) = cP c (bxF L v) (fun a b => bxAll x0 y0 wd dp W D a b && (decide (a < i) || (decide (a = i) && decide (b < max y0.toNat (min (D : Int) (y0 + dp)).toNat)))) from cP_eq (fun a b => by
          by_cases qa : a = i
          · subst qa
            rw [decide_eq_true (show a < a + 1 from by omega), Bool.and_true, decide_eq_false (Nat.lt_irrefl a), Bool.false_or, decide_eq_true rfl, Bool.true_and]
            by_cases qb : b < max y0.toNat (min (D : Int) (y0 + dp)).toNat
            · rw [decide_eq_true qb, Bool.and_true]
            · rw [decide_eq_false qb, Bool.and_false]
              unfold bxAll
              by_cases q2 : bxIn y0 dp b = true
              · have := of_decide_eq_true q2
                rw [show decide (b < D) = false from decide_eq_false (by omega)]; simp
              · rw [Bool.eq_false_iff.mpr q2]; simp
          · rw [show decide (a = i) = false from decide_eq_false qa, Bool.false_and, Bool.or_false, show decide (a < i + 1) = decide (a < i) from decide_eq_decide.mpr (by omega)])]
        exact hs'.2.2
      · intro n' j s' hj hs' ih'
        have hj2 : (j : Int) < min (D : Int) (y0 + dp) := by have := hs'.1; omega
        have hjD : j < D := by omega
        have hby : bxIn y0 dp j = true := decide_eq_true (by have := hs'.1; omega)
        rw [L_X4_box_127]
        refine if_f (fun q => ?_) ?_
        · have := (toN_le (by omega)).mp q
          rw [e9] at this
          omega
        · have hat : cP c (bxF L v) (fun a b => bxAll x0 y0 wd dp W D a b && (decide (a < i) || (decide (a = i) && decide (b < j)))) i j = c i j := cP_at (by rw [decide_eq_false (Nat.lt_irrefl i), decide_eq_false (Nat.lt_irrefl j)]; simp)
          have hO' : OKs W D Z cx cy (cP c (bxF L v) (fun a b => bxAll x0 y0 wd dp W D a b && (decide (a < i) || (decide (a = i) && decide (b < j))))) := hO.cP (fun b hb => bxF_lt hL hb) (fun a b q => by
            have q := ((Bool.and_eq_true _ _).mp q).1
            unfold bxAll at q
            simp only [Bool.and_eq_true, decide_eq_true_eq] at q
            exact ⟨q.1.2, q.2.2⟩)
          refine v_changeColumn hO' hs'.2.2 hiW hjD hL (fun us hus => ?_)
          rw [hat] at hus
          rw [hat]
          intro u19 e19 y21 e21 y22 e22
          rw [show nI j + (1 : Int32) = nI (j + 1) from nI_1 j] at e22
          rw [nI_add, Nat.add_assoc, show fb_sm (gY c (bxF L v) y0 dp i) j + pcN (c i j ^^^ bxF L v (c i j)) = fb_sm (gY c (bxF L v) y0 dp i) (j + 1) from by
            rw [fb_sm_succ]
            congr 1
            unfold gY
            rw [hby]; rfl] at e21
          subst e21 e22 e19
          refine ih' _ ⟨by have := hs'.1; omega, hs'.2.1, ?_⟩
          show SIs W D Z cx cy _ us
          rw [← cP_put (dn := fun a b => bxAll x0 y0 wd dp W D a b && (decide (a < i) || (decide (a = i) && decide (b < j)))) (i := i) (j := j) ?_ ?_]
          · exact hus
          · unfold bxAll
            rw [hbx, hby, decide_eq_true hiW, decide_eq_true hjD, decide_eq_true rfl, decide_eq_true (show j < j + 1 from by omega)]; simp
          · intro a b hab
            congr 1
            by_cases qa : a = i
            · have qb : b ≠ j := fun q => hab ⟨qa, q⟩
              rw [show decide (b < j + 1) = decide (b < j) from decide_eq_decide.mpr (by omega)]
            · rw [show decide (a = i) = false from decide_eq_false qa]; rfl
