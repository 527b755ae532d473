/-! figures onto boards: the reference -/
def E16 (u u' : St) : Prop := u'.1 = u.1 ∧ ∀ k, k ≠ 16 → u'.2 k = u.2 k
theorem E16.rf {u : St} : E16 u u := ⟨rfl, fun _ _ => rfl⟩
theorem E16.tr {u v w : St} (h : E16 u v) (h2 : E16 v w) : E16 u w := ⟨h2.1.trans h.1, fun k hk => (h2.2 k hk).trans (h.2 k hk)⟩
theorem E16.mS {u v : St} (h : E16 u v) : mS u v := ⟨fun k _ _ => congrFun h.1 k, fun k _ _ _ _ _ h16 => h.2 k h16⟩
theorem E16.up {u : St} (X : Nat → Int32) : E16 u (u.1, va_up u.2 16 X) := ⟨rfl, fun _ hk => if_neg hk⟩
theorem ix7 (a k : Nat) : (7 : Int32) * nI a + nI k = nI (7 * a + k) := by
  rw [show (7 : Int32) * nI a = nI (7 * a) from pk_mul 7 a, nI_add]
theorem v_isAhead {u : St} {g : Nat → Nat → Nat} {N a b : Nat} (hR : Rw (u.2 16) g N) (hB : Bd g N) (ha : a < N) (hb : b < N) (hN : N ≤ 16) {post : Int32 → Prop} (h : post (bI (lss (g b) (g a)))) : P_X5_isAhead u (nI a) (nI b) post := by
  have a5 := hB a ha 5
  have a6 := hB a ha 6
  have b5 := hB b hb 5
  have b6 := hB b hb 6
  have k5 : kk 5 := Or.inr (Or.inr (Or.inl rfl))
  have k6 : kk 6 := Or.inr (Or.inr (Or.inr rfl))
  unfold P_X5_isAhead
  rw [show (7 : Int32) * nI a + (6 : Int32) = nI (7 * a + 6) from ix7 a 6, show (7 : Int32) * nI b + (6 : Int32) = nI (7 * b + 6) from ix7 b 6, show (7 : Int32) * nI a + (5 : Int32) = nI (7 * a + 5) from ix7 a 5, show (7 : Int32) * nI b + (5 : Int32) = nI (7 * b + 5) from ix7 b 5, nI_clamp (show 7 * a + 6 < 2 ^ 31 by omega), nI_clamp (show 7 * b + 6 < 2 ^ 31 by omega), nI_clamp (show 7 * a + 5 < 2 ^ 31 by omega), nI_clamp (show 7 * b + 5 < 2 ^ 31 by omega), hR a 6 ha k6, hR b 6 hb k6, hR a 5 ha k5, hR b 5 hb k5]
  refine ⟨vp_in_nI (by omega) (by decide), vp_in_nI (by omega) (by decide), ?_⟩
  refine if_i (nI_eq (by omega) (by omega)) (fun q => ?_) (fun q => ?_)
  · refine ⟨vp_in_nI (by omega) (by decide), vp_in_nI (by omega) (by decide), ?_⟩
    refine if_i (nI_leI (by omega) (by omega)) (fun q2 => ?_) (fun q2 => ?_)
    · rw [show lss (g b) (g a) = false from decide_eq_false (by omega)] at h
      exact h
    · rw [show lss (g b) (g a) = true from decide_eq_true (by omega)] at h
      exact h
  · refine ⟨vp_in_nI (by omega) (by decide), vp_in_nI (by omega) (by decide), ?_⟩
    refine if_i (nI_leI (by omega) (by omega)) (fun q2 => ?_) (fun q2 => ?_)
    · rw [show lss (g b) (g a) = false from decide_eq_false (by omega)] at h
      exact h
    · rw [show lss (g b) (g a) = true from decide_eq_true (by omega)] at h
      exact h
def swA (A : Nat → Int32) (a b j k : Nat) : Int32 := if j = a then A (7 * b + k) else if j = b then A (7 * a + k) else A (7 * j + k)
theorem v_exchange {u : St} {a b : Nat} (ha : a < 16) (hb : b < 16) (hab : a ≠ b) {post : St → Prop} (h : ∀ u', E16 u u' → (∀ j k, k < 7 → u'.2 16 (7 * j + k) = swA (u.2 16) a b j k) → post u') : P_X5_exchange u (nI a) (nI b) post := by
  show ∃ n, L_X5_exchange_2 post (fun (u_8 : St) => post u_8) (nI a) (nI b) n (0 : Int32) u
  refine loop_0 (σ := St) (fun n m s => L_X5_exchange_2 post (fun (u_8 : St) => post u_8) (nI a) (nI b) n (nI m) s) (fun m s => E16 u s ∧ ∀ j k, k < 7 → s.2 16 (7 * j + k) = if k < m then swA (u.2 16) a b j k else u.2 16 (7 * j + k)) 7 u ⟨E16.rf, fun j k _ => (if_neg (Nat.not_lt_zero k)).symm⟩ ?_ ?_
  · intro n s hs
    rw [L_X5_exchange_2]
    exact if_t (by decide) (h s hs.1 (fun j k hk => (hs.2 j k hk).trans (if_pos hk)))
  · intro n m s hm hs ih
    rw [L_X5_exchange_2, show nI m + (1 : Int32) = nI (m + 1) from nI_1 m, ix7, ix7, nI_clamp (show 7 * a + m < 2 ^ 31 by omega), nI_clamp (show 7 * b + m < 2 ^ 31 by omega)]
    refine if_f (fun q => absurd ((nI_leI (a := 7) (by decide) (by omega)).mp q) (by omega)) ?_
    refine ⟨vp_in_nI (by omega) (by decide), ?_⟩
    intro y3 e3
    refine ⟨vp_in_nI (by omega) (by decide), ?_⟩
    intro y4 e4
    refine ⟨vp_in_nI (by omega) (by decide), ?_⟩
    intro u5 e5
    refine ⟨vp_in_nI (by omega) (by decide), ?_⟩
    intro u6 e6 y7 e7
    subst e7
    have f5 : E16 s u5 := by rw [e5]; exact E16.up _
    have f6 : E16 u5 u6 := by rw [e6]; exact E16.up _
    refine ih u6 ⟨hs.1.tr (f5.tr f6), fun j k hk => ?_⟩
    have eA : u6.2 16 = upd (upd (s.2 16) (7 * a + m) y4) (7 * b + m) y3 := by
      rw [e6, e5]
      rfl
    rw [eA]
    by_cases qk : k = m
    · subst qk
      rw [if_pos (by omega)]
      have n3 : y3 = u.2 16 (7 * a + k) := by rw [e3, hs.2 a k hk, if_neg (by omega)]
      have n4 : y4 = u.2 16 (7 * b + k) := by rw [e4, hs.2 b k hk, if_neg (by omega)]
      unfold swA
      by_cases qb : j = b
      · subst qb
        rw [pk_us, if_neg (by omega), if_pos rfl]
        exact n3
      · rw [pk_un (by omega)]
        by_cases qa : j = a
        · subst qa
          rw [pk_us, if_pos rfl]
          exact n4
        · rw [pk_un (by omega), if_neg qa, if_neg qb, hs.2 j k hk, if_neg (by omega)]
    · rw [pk_un (by omega), pk_un (by omega), hs.2 j k hk]
      by_cases q : k < m
      · rw [if_pos q, if_pos (by omega)]
      · rw [if_neg q, if_neg (by omega)]
theorem v_insLoop {u : St} {f : Nat → Nat → Nat} {n : Nat} {e : Nat → Nat} (hR : Rw (u.2 16) (insF f n e) (n + 1)) (hB : Bd f n) (he : ∀ k, e k ≤ 13) (hn : n < 16) {post : Int32 → St → Prop} {K : St → Prop} (h : ∀ u', E16 u u' → Rw (u'.2 16) (insF f (psN f e n) e) (n + 1) → K u') : ∃ m, L_X5_gather_125 post K m (nI n) u := by
  refine ⟨n + 1, pk_loopD (σ := St) (fun m i s => L_X5_gather_125 post K m (nI i) s) (fun i s => i ≤ n ∧ psN f e n = psN f e i ∧ E16 u s ∧ Rw (s.2 16) (insF f i e) (n + 1)) ?_ ?_ n u ⟨Nat.le_refl n, rfl, E16.rf, hR⟩⟩
  · intro m s hs
    rw [L_X5_gather_125]
    refine if_t (by decide) (h s hs.2.2.1 ?_)
    rw [hs.2.1]
    exact hs.2.2.2
  · intro m i s hs ih
    have hBi : Bd (insF f (i + 1) e) (n + 1) := (ins_all (Q := fun e => ∀ k, e k ≤ 13) hs.1).mpr ⟨hB, he⟩
    rw [L_X5_gather_125, show nI (i + 1) - (1 : Int32) = nI i from pk_sub (a := i + 1) (b := 1) (by omega)]
    refine if_f (fun q => absurd ((nI_leI (b := 0) (by omega) (by decide)).mp q) (by omega)) ?_
    refine v_isAhead hs.2.2.2 hBi (by omega) (by omega) (by omega) ?_
    rw [insF_eq, insF_lt (show i < i + 1 by omega)]
    refine if_bI (fun t => ?_) (fun t => ?_)
    · refine v_exchange (by omega) (by omega) (by omega) (fun s2 f2 hsw => ?_)
      intro y21 e21
      have e21 : y21 = nI i := e21.trans (pk_m1 i)
      subst e21
      refine ih s2 ⟨by omega, by rw [hs.2.1, psN_t t], hs.2.2.1.tr f2, fun j k hj hk => ?_⟩
      rw [hsw j k (kk_7 hk)]
      unfold swA
      by_cases q1 : j = i + 1
      · subst q1
        rw [if_pos rfl, hs.2.2.2 i k (by omega) hk, insF_lt (show i < i + 1 by omega), insF_gt (show i < i + 1 by omega), Nat.add_sub_cancel]
      · rw [if_neg q1]
        by_cases q2 : j = i
        · subst q2
          rw [if_pos rfl, hs.2.2.2 (j + 1) k (by omega) hk, insF_eq, insF_eq]
        · rw [if_neg q2, hs.2.2.2 j k hj hk]
          rcases Nat.lt_or_ge j i with q3 | q3
          · rw [insF_lt q3, insF_lt (show j < i + 1 by omega)]
          · rw [insF_gt (show i < j by omega), insF_gt (show i + 1 < j by omega)]
    · refine h s hs.2.2.1 ?_
      rw [hs.2.1, psN_f t]
      exact hs.2.2.2
section LAM
variable {W D Z cx cy : Nat} {c : Nat → Nat → Nat} {u : St}
theorem v_gather (hO : OKs W D Z cx cy c) (hM : MIs W D Z cx cy c u) {k0 : Nat} (hk : k0 ≤ 5) {post : Int32 → St → Prop} (h : ∀ u', mS u u' → Rw (u'.2 16) (gs cx cy c k0 16).1 (gs cx cy c k0 16).2 → post (nI (gs cx cy c k0 16).2) u') : P_X5_gather u (nI k0) post := by
  show ∃ n, L_X5_gather_4 post (fun (v2_27 : Int32) (u_28 : St) => post v2_27 u_28) (nI k0) n (0 : Int32) (0 : Int32) u
  refine loop_0 (σ := St) (fun n r s => L_X5_gather_4 post (fun (v2_27 : Int32) (u_28 : St) => post v2_27 u_28) (nI k0) n (nI (gs cx cy c k0 r).2) (nI r) s) (fun r s => mS u s ∧ Rw (s.2 16) (gs cx cy c k0 r).1 (gs cx cy c k0 r).2) 16 u ⟨mS.rf, fun j k hj _ => absurd hj (Nat.not_lt_zero j)⟩ ?_ ?_
  · intro n s hs
    rw [L_X5_gather_4]
    exact if_t (by decide) (h s hs.1 hs.2)
  · intro n r s hr hs ih
    have hM' := hs.1.MI hM
    have hle := gs_le (cx := cx) (cy := cy) (c := c) (k0 := k0) r
    have hBd := gs_bd (cx := cx) (cy := cy) (c := c) hk (r := r) (by omega)
    have skip : okR cx cy c r = false → ∀ y_26 : Int32, y_26 = nI (r + 1) → L_X5_gather_4 post (fun (v2_27 : Int32) (u_28 : St) => post v2_27 u_28) (nI k0) n (nI (gs cx cy c k0 r).2) y_26 s := by
      intro ho y26 e26
      subst e26
      have ih := ih s
      rw [gs_f ho] at ih
      exact ih hs
    rw [L_X5_gather_4, show nI r + (1 : Int32) = nI (r + 1) from nI_1 r, show nI r - nI r / (8 : Int32) * (8 : Int32) = nI (r % 8) from pk_rem (d := 8) (by omega) (by decide) (by decide), show nI r / (8 : Int32) = nI (r / 8) from pk_div (d := 8) (by omega) (by decide) (by decide)]
    refine if_f (fun z => absurd ((nI_leI (a := 16) (by decide) (by omega)).mp z) (by omega)) ?_
    refine v_isChosenM hO hM' (by omega) (by omega) ?_
    refine if_bI (fun t => ?_) (fun t => ?_)
    · have s1 : spU c (r / 8) (r % 8) ≤ 8 := spN_8 _
      refine v_spanM hO hM' (by omega) (by omega) ?_
      refine if_i (nI_leI (b := 0) (by omega) (by decide)) (fun q => ?_) (fun q => ?_)
      · refine skip ?_
        unfold okR
        rw [decide_eq_false (by omega), Bool.and_false]
      · have ho : okR cx cy c r = true := by
          unfold okR
          rw [t, decide_eq_true (by omega)]
          rfl
        rw [gs_t ho] at ih
        dsimp only at ih
        have he := eN_13 c hk hr
        generalize hgn : (gs cx cy c k0 r).2 = n0 at *
        have i0 : (7 : Int32) * nI n0 = nI (7 * n0) := pk_mul 7 n0
        have i1 : nI (7 * n0) + (1 : Int32) = nI (7 * n0 + 1) := nI_add _ 1
        have i5 : nI (7 * n0) + (5 : Int32) = nI (7 * n0 + 5) := nI_add _ 5
        have i6 : nI (7 * n0) + (6 : Int32) = nI (7 * n0 + 6) := nI_add _ 6
        intro y6 e6
        refine ⟨by rw [i0]; exact vp_in_nI (by omega) (by decide), ?_⟩
        intro u7 e7 y8 e8
        refine ⟨by rw [i0, i1]; exact vp_in_nI (by omega) (by decide), ?_⟩
        intro u9 e9
        rw [i0, nI_clamp (by omega)] at e7
        rw [i0, i1, nI_clamp (by omega)] at e9
        have f7 : E16 s u7 := by rw [e7]; exact E16.up _
        have f9 : E16 s u9 := f7.tr (by rw [e9]; exact E16.up _)
        refine v_spanM hO (f9.mS.MI hM') (by omega) (by omega) ?_
        intro y11 e11
        refine ⟨by rw [i0, i5]; exact vp_in_nI (by omega) (by decide), ?_⟩
        intro u12 e12
        rw [i0, i5, nI_clamp (by omega)] at e12
        have f12 : E16 s u12 := f9.tr (by rw [e12]; exact E16.up _)
        refine v_spanM1 hO (f12.mS.MI hM') (by omega) (by omega) ?_
        intro y14 e14
        refine ⟨by rw [i0, i6]; exact vp_in_nI (by omega) (by decide), ?_⟩
        intro u15 e15
        rw [i0, i6, nI_clamp (by omega)] at e15
        have f15 : E16 s u15 := f12.tr (by rw [e15]; exact E16.up _)
        rw [nI_add] at e11 e14
        have eA : u15.2 16 = set4 (s.2 16) n0 (eN c k0 r) := by
          rw [e15, e12, e9, e7, e6, e8, e11, e14]
          rfl
        have hR0 := hs.2.put (eN c k0 r)
        rw [← eA] at hR0
        refine v_insLoop hR0 hBd he (by omega) (fun u22 f22 hR22 => ?_)
        intro y23 e23 y26 e26
        rw [show nI n0 + (1 : Int32) = nI (n0 + 1) from nI_1 n0] at e23
        subst e23 e26
        exact ih u22 ⟨hs.1.tr (f15.tr f22).mS, hR22⟩
    · refine skip ?_
      unfold okR
      rw [t, Bool.false_and]
end LAM
section ROM
variable {u : St} {f : Nat → Nat → Nat} {n w h : Nat} {post : Int32 → St → Prop}
theorem v_fitM (hR : Rw (u.2 16) f n) (hB : Bd f n) (hn : n ≤ 16) (hw : w ≤ 60) (hh : h ≤ 60) {K : Prop} (h1 : (∀ j, j < n → f j 5 ≤ w ∧ f j 6 ≤ h) → K) (h0 : (∃ j, j < n ∧ ¬ (f j 5 ≤ w ∧ f j 6 ≤ h)) → post (-5) u) : ∃ m, L_X5_lay_49 post K (nI w) (nI h) (nI n) u m (0 : Int32) := by
  refine loop_0 (σ := Unit) (fun m i _ => L_X5_lay_49 post K (nI w) (nI h) (nI n) u m (nI i)) (fun i _ => ∀ j, j < i → f j 5 ≤ w ∧ f j 6 ≤ h) n () (fun j hj => absurd hj (Nat.not_lt_zero j)) ?_ ?_
  · intro m _ hi
    rw [L_X5_lay_49]
    exact if_t (nI_le (Nat.le_refl _) (by omega)) (h1 hi)
  · intro m i _ hi hall ih
    have b5 := hB i hi 5
    have b6 := hB i hi 6
    rw [L_X5_lay_49, show nI i + (1 : Int32) = nI (i + 1) from nI_1 i, show (7 : Int32) * nI i + (6 : Int32) = nI (7 * i + 6) from ix7 i 6, show (7 : Int32) * nI i + (5 : Int32) = nI (7 * i + 5) from ix7 i 5, nI_clamp (show 7 * i + 6 < 2 ^ 31 by omega), nI_clamp (show 7 * i + 5 < 2 ^ 31 by omega), hR i 5 hi (Or.inr (Or.inr (Or.inl rfl))), hR i 6 hi (Or.inr (Or.inr (Or.inr rfl)))]
    refine if_f (fun q => absurd ((nI_leI (by omega) (by omega)).mp q) (by omega)) ?_
    refine ⟨vp_in_nI (by omega) (by decide), ?_⟩
    refine if_i (nI_ltI (by omega) (by omega)) (fun q => h0 ⟨i, hi, by omega⟩) (fun q => ?_)
    refine ⟨vp_in_nI (by omega) (by decide), ?_⟩
    refine if_i (nI_leI (by omega) (by omega)) (fun q2 => ?_) (fun q2 => h0 ⟨i, hi, by omega⟩)
    intro y7 e7
    subst e7
    refine ih () (fun j hj => ?_)
    by_cases z : j = i
    · subst z; omega
    · exact hall j (by omega)
def MX (w h : Nat) (f : Nat → Nat → Nat) (i : Nat) (x : Int32 × Int32 × Int32 × Int32) : Prop := (i = 0 ∧ x = (0, 0, 0, 0)) ∨ (0 < i ∧ 0 < (rws w h f i).2.2.2 ∧ x = (nI (rws w h f i).1, nI (rws w h f i).2.2.2, nI (rws w h f i).2.1, nI (rws w h f i).2.2.1))
theorem v_rowsM (hR : Rw (u.2 16) f n) (hB : Bd f n) (hn : n ≤ 16) (hpos : ∀ j, j < n → 0 < f j 5) (hfit : ∀ j, j < n → f j 5 ≤ w ∧ f j 6 ≤ h) (hw : 1 ≤ w ∧ w ≤ 60) (hh : 1 ≤ h ∧ h ≤ 60) {K : Int32 → Int32 → St → Prop} (hp : ∀ s, E16 u s → Rw (s.2 16) f n → Ls w h f (s.2 16) n → K (nI (rws w h f n).1) (nI (arN f n)) s) : ∃ m, L_X5_lay_116 post K (nI w) (nI h) (nI n) m (0 : Int32) (0 : Int32) (0 : Int32) (0 : Int32) (0 : Int32) (0 : Int32) u := by
  refine loop_0 (σ := (Int32 × Int32 × Int32 × Int32) × St) (fun m i x => L_X5_lay_116 post K (nI w) (nI h) (nI n) m x.1.1 x.1.2.1 x.1.2.2.1 x.1.2.2.2 (nI (arN f i)) (nI i) x.2) (fun i x => MX w h f i x.1 ∧ E16 u x.2 ∧ Rw (x.2.2 16) f n ∧ Ls w h f (x.2.2 16) i) n ((0, 0, 0, 0), u) ⟨Or.inl ⟨rfl, rfl⟩, E16.rf, hR, fun j hj => absurd hj (Nat.not_lt_zero j)⟩ ?_ ?_
  · intro m x hx
    rw [L_X5_lay_116]
    refine if_t (nI_le (Nat.le_refl _) (by omega)) ?_
    have e : x.1.1 = nI (rws w h f n).1 := by
      rcases hx.1 with ⟨q, e⟩ | ⟨_, _, e⟩
      · rw [e, q]; rfl
      · rw [e]
    rw [e]
    exact hp x.2 hx.2.1 hx.2.2.1 hx.2.2.2
  · intro m i x hi hx ih
    have b5 := hB i hi 5
    have b6 := hB i hi 6
    have p5 := hpos i hi
    have ft := hfit i hi
    have rb := rws_bd (w := w) (h := h) (f := f) (i := i) (fun j hj => hB j (by omega))
    have fin : ∀ v5 v6 v7 v8 : Int32, v5 = nI (qN w h f i).1 → v6 = nI (qN w h f i).2.2.2 → v7 = nI (qN w h f i).2.1 → (qN w h f i).2.2.2 < 1000 → ((qN w h f i).2.2.2 ≠ 0 → v8 = nI (qN w h f i).2.2.1) → ((qN w h f i).2.2.2 = 0 → (qN w h f i).2.2.1 = f i 6) → jn1 (fun (w_23 : Int32) => vp_in (nI (7 * i + 2)) 112 ∧ ∀ u_24 : St, u_24 = (x.2.1, va_up x.2.2 16 (upd (x.2.2 16) (7 * i + 2) v5)) → vp_in (nI (7 * i + 3)) 112 ∧ ∀ u_25 : St, u_25 = (u_24.1, va_up u_24.2 16 (upd (u_24.2 16) (7 * i + 3) v6)) → vp_in (nI (7 * i + 4)) 112 ∧ ∀ u_26 : St, u_26 = (u_25.1, va_up u_25.2 16 (upd (u_25.2 16) (7 * i + 4) v7)) → ∀ y_27 : Int32, y_27 = (v6 + nI (f i 5)) → ∀ y_28 : Int32, y_28 = (nI (arN f i) + (nI (f i 5) * nI (f i 6))) → ∀ y_29 : Int32, y_29 = nI (i + 1) → L_X5_lay_116 post K (nI w) (nI h) (nI n) m v5 y_27 v7 w_23 y_28 y_29 u_26) (fun J_206 => if v6 = 0 then (J_206 (nI (f i 6))) else (J_206 v8)) := by
      intro v5 v6 v7 v8 e5 e6 e7 hlt hne heq
      have last : ∀ w_23 : Int32, w_23 = nI (qN w h f i).2.2.1 → vp_in (nI (7 * i + 2)) 112 ∧ ∀ u_24 : St, u_24 = (x.2.1, va_up x.2.2 16 (upd (x.2.2 16) (7 * i + 2) v5)) → vp_in (nI (7 * i + 3)) 112 ∧ ∀ u_25 : St, u_25 = (u_24.1, va_up u_24.2 16 (upd (u_24.2 16) (7 * i + 3) v6)) → vp_in (nI (7 * i + 4)) 112 ∧ ∀ u_26 : St, u_26 = (u_25.1, va_up u_25.2 16 (upd (u_25.2 16) (7 * i + 4) v7)) → ∀ y_27 : Int32, y_27 = (v6 + nI (f i 5)) → ∀ y_28 : Int32, y_28 = (nI (arN f i) + (nI (f i 5) * nI (f i 6))) → ∀ y_29 : Int32, y_29 = nI (i + 1) → L_X5_lay_116 post K (nI w) (nI h) (nI n) m v5 y_27 v7 w_23 y_28 y_29 u_26 := by
        intro w23 e23
        refine ⟨vp_in_nI (by omega) (by decide), ?_⟩
        intro u24 e24
        refine ⟨vp_in_nI (by omega) (by decide), ?_⟩
        intro u25 e25
        refine ⟨vp_in_nI (by omega) (by decide), ?_⟩
        intro u26 e26 y27 e27 y28 e28 y29 e29
        subst e5 e6 e7 e23
        rw [nI_add] at e27
        rw [pk_mul, nI_add] at e28
        subst e27 e28 e29
        have f24 : E16 x.2 u24 := by rw [e24]; exact E16.up _
        have f25 : E16 u24 u25 := by rw [e25]; exact E16.up _
        have f26 : E16 u25 u26 := by rw [e26]; exact E16.up _
        have eA : u26.2 16 = set3 (x.2.2 16) i (nI (qN w h f i).1) (nI (qN w h f i).2.2.2) (nI (qN w h f i).2.1) := by
          rw [e26, e25, e24]
          rfl
        refine ih ((nI (qN w h f i).1, nI ((qN w h f i).2.2.2 + f i 5), nI (qN w h f i).2.1, nI (qN w h f i).2.2.1), u26) ⟨Or.inr ⟨by omega, ?_, rfl⟩, hx.2.1.tr ((f24.tr f25).tr f26), ?_, ?_⟩
        · show 0 < (qN w h f i).2.2.2 + f i 5
          omega
        · show Rw (u26.2 16) f n
          rw [eA]
          exact hx.2.2.1.set3 _ _ _
        · show Ls w h f (u26.2 16) (i + 1)
          rw [eA]
          exact hx.2.2.2.step
      refine if_i (d := (qN w h f i).2.2.2 = 0) (by rw [e6]; exact nI_eq (b := 0) (by omega) (by decide)) (fun q => ?_) (fun q => ?_)
      · exact last _ (by rw [heq q])
      · exact last _ (hne q)
    rw [L_X5_lay_116, show nI i + (1 : Int32) = nI (i + 1) from nI_1 i, show (7 : Int32) * nI i + (6 : Int32) = nI (7 * i + 6) from ix7 i 6, show (7 : Int32) * nI i + (5 : Int32) = nI (7 * i + 5) from ix7 i 5, show (7 : Int32) * nI i + (2 : Int32) = nI (7 * i + 2) from ix7 i 2, show (7 : Int32) * nI i + (3 : Int32) = nI (7 * i + 3) from ix7 i 3, show (7 : Int32) * nI i + (4 : Int32) = nI (7 * i + 4) from ix7 i 4, nI_clamp (show 7 * i + 6 < 2 ^ 31 by omega), nI_clamp (show 7 * i + 5 < 2 ^ 31 by omega), nI_clamp (show 7 * i + 2 < 2 ^ 31 by omega), nI_clamp (show 7 * i + 3 < 2 ^ 31 by omega), nI_clamp (show 7 * i + 4 < 2 ^ 31 by omega), hx.2.2.1 i 5 hi (Or.inr (Or.inr (Or.inl rfl))), hx.2.2.1 i 6 hi (Or.inr (Or.inr (Or.inr rfl)))]
    refine if_f (fun q => absurd ((nI_leI (by omega) (by omega)).mp q) (by omega)) ?_
    refine ⟨vp_in_nI (by omega) (by decide), ?_⟩
    intro y15 e15
    refine ⟨vp_in_nI (by omega) (by decide), ?_⟩
    intro y16 e16
    subst e15 e16
    rcases hx.1 with ⟨q0, ex⟩ | ⟨q0, hac, ex⟩
    · refine if_t (by rw [q0]; decide) ?_
      have eq : qN w h f i = (0, 0, f i 6, 0) := by
        unfold qN plc
        rw [q0] at p5 ft ⊢
        have er : rws w h f 0 = (0, 0, 0, w) := rfl
        rw [er]
        dsimp only
        rw [if_neg (by omega), if_pos (by omega)]
      rw [ex]
      exact fin _ _ _ _ (by rw [eq]; rfl) (by rw [eq]; rfl) (by rw [eq]; rfl) (by rw [eq]; show 0 < 1000; decide) (fun z => absurd (by rw [eq]) z) (fun _ => by rw [eq])
    · refine if_f (fun q => absurd ((nI_leI (b := 0) (by omega) (by decide)).mp q) (by omega)) ?_
      rw [ex]
      refine if_i (d := (rws w h f i).2.2.2 + f i 5 ≤ w) (by rw [nI_add]; exact nI_leI (by omega) (by omega)) (fun q => ?_) (fun q => ?_)
      · have eq : qN w h f i = rws w h f i := if_pos q
        exact fin _ _ _ _ (by rw [eq]) (by rw [eq]) (by rw [eq]) (by rw [eq]; omega) (fun _ => by rw [eq]) (fun z => by rw [eq] at z; omega)
      · intro y17 e17
        rw [nI_add] at e17
        subst e17
        refine if_i (d := (rws w h f i).2.1 + (rws w h f i).2.2.1 + f i 6 ≤ h) (by rw [nI_add]; exact nI_leI (by omega) (by omega)) (fun q2 => ?_) (fun q2 => ?_)
        · have eq : qN w h f i = ((rws w h f i).1, (rws w h f i).2.1 + (rws w h f i).2.2.1, f i 6, 0) := by
            unfold qN plc
            rw [if_neg q, if_pos q2]
          exact fin _ _ _ _ (by rw [eq]) (by rw [eq]; rfl) (by rw [eq]) (by rw [eq]; show 0 < 1000; decide) (fun z => absurd (by rw [eq]) z) (fun _ => by rw [eq])
        · intro y18 e18
          have eq : qN w h f i = ((rws w h f i).1 + 1, 0, f i 6, 0) := by
            unfold qN plc
            rw [if_neg q, if_neg q2]
          exact fin _ _ _ _ (by rw [eq, e18]; exact nI_1 _) (by rw [eq]; rfl) (by rw [eq]; rfl) (by rw [eq]; show 0 < 1000; decide) (fun z => absurd (by rw [eq]) z) (fun _ => by rw [eq])
theorem v_copy (hn : n ≤ 16) {K : St → Prop} (hp : ∀ s, s.1 = u.1 → (∀ k, k ≠ 13 → s.2 k = u.2 k) → (∀ x, x < 7 * n → s.2 13 x = u.2 16 x) → K s) : ∃ m, L_X5_lay_276 post K (nI n) m (0 : Int32) u := by
  have e7 : (7 : Int32) * nI n = nI (7 * n) := pk_mul 7 n
  refine loop_0 (σ := St) (fun m x s => L_X5_lay_276 post K (nI n) m (nI x) s) (fun x s => s.1 = u.1 ∧ (∀ k, k ≠ 13 → s.2 k = u.2 k) ∧ ∀ y, y < x → s.2 13 y = u.2 16 y) (7 * n) u ⟨rfl, fun _ _ => rfl, fun y hy => absurd hy (Nat.not_lt_zero y)⟩ ?_ ?_
  · intro m s hs
    rw [L_X5_lay_276, e7]
    exact if_t (nI_le (Nat.le_refl _) (by omega)) (hp s hs.1 hs.2.1 hs.2.2)
  · intro m x s hx hs ih
    rw [L_X5_lay_276, e7, show nI x + (1 : Int32) = nI (x + 1) from nI_1 x, nI_clamp (show x < 2 ^ 31 by omega)]
    refine if_f (fun q => absurd ((nI_leI (by omega) (by omega)).mp q) (by omega)) ?_
    refine ⟨vp_in_nI (by omega) (by decide), ?_⟩
    intro y35 e35
    refine ⟨vp_in_nI (by omega) (by decide), ?_⟩
    intro u36 e36 y37 e37
    subst e37
    refine ih u36 ⟨?_, fun k hk => ?_, fun y hy => ?_⟩
    · rw [e36]; exact hs.1
    · rw [e36]
      exact (if_neg hk).trans (hs.2.1 k hk)
    · rw [e36]
      show upd (s.2 13) x y35 y = _
      by_cases q : y = x
      · subst q
        rw [pk_us, e35, hs.2.1 16 (by decide)]
      · rw [pk_un q]
        exact hs.2.2 y (by omega)
end ROM
