/-! figures onto boards: the order, and the rows -/
def lss (e e' : Nat → Nat) : Bool := decide (e 6 < e' 6 ∨ (e 6 = e' 6 ∧ e 5 < e' 5))
def psN (f : Nat → Nat → Nat) (e : Nat → Nat) : Nat → Nat
  | 0 => 0
  | n + 1 => if lss (f n) e then psN f e n else n + 1
theorem psN_le (f : Nat → Nat → Nat) (e : Nat → Nat) : ∀ n, psN f e n ≤ n
  | 0 => Nat.le_refl 0
  | n + 1 => by
    have := psN_le f e n
    rw [psN]
    split
    · omega
    · omega
theorem psN_t {f : Nat → Nat → Nat} {e : Nat → Nat} {n : Nat} (h : lss (f n) e = true) : psN f e (n + 1) = psN f e n := by rw [psN, if_pos h]
theorem psN_f {f : Nat → Nat → Nat} {e : Nat → Nat} {n : Nat} (h : lss (f n) e = false) : psN f e (n + 1) = n + 1 := by rw [psN, if_neg (by rw [h]; decide)]
def insF (f : Nat → Nat → Nat) (i : Nat) (e : Nat → Nat) (j : Nat) : Nat → Nat := if j < i then f j else if j = i then e else f (j - 1)
theorem insF_lt {f : Nat → Nat → Nat} {i j : Nat} {e : Nat → Nat} (h : j < i) : insF f i e j = f j := if_pos h
theorem insF_eq {f : Nat → Nat → Nat} {i : Nat} {e : Nat → Nat} : insF f i e i = e := by
  unfold insF
  rw [if_neg (by omega), if_pos rfl]
theorem insF_gt {f : Nat → Nat → Nat} {i j : Nat} {e : Nat → Nat} (h : i < j) : insF f i e j = f (j - 1) := by
  unfold insF
  rw [if_neg (by omega), if_neg (by omega)]
theorem ins_all {Q : (Nat → Nat) → Prop} {f : Nat → Nat → Nat} {i n : Nat} {e : Nat → Nat} (hi : i ≤ n) : (∀ j, j < n + 1 → Q (insF f i e j)) ↔ ((∀ j, j < n → Q (f j)) ∧ Q e) := by
  constructor
  · intro h
    refine ⟨fun j hj => ?_, ?_⟩
    · rcases Nat.lt_or_ge j i with q | q
      · have := h j (by omega)
        rw [insF_lt q] at this
        exact this
      · have := h (j + 1) (by omega)
        rw [insF_gt (by omega), Nat.add_sub_cancel] at this
        exact this
    · have := h i (by omega)
      rw [insF_eq] at this
      exact this
  · rintro ⟨h1, h2⟩ j hj
    rcases Nat.lt_trichotomy j i with q | q | q
    · rw [insF_lt q]; exact h1 j (by omega)
    · subst q; rw [insF_eq]; exact h2
    · rw [insF_gt q]; exact h1 (j - 1) (by omega)
def kk (k : Nat) : Prop := k = 0 ∨ k = 1 ∨ k = 5 ∨ k = 6
def Rw (A : Nat → Int32) (f : Nat → Nat → Nat) (n : Nat) : Prop := ∀ j k, j < n → kk k → A (7 * j + k) = nI (f j k)
def Bd (f : Nat → Nat → Nat) (n : Nat) : Prop := ∀ j, j < n → ∀ k, f j k ≤ 13
def set4 (A : Nat → Int32) (i : Nat) (e : Nat → Nat) : Nat → Int32 := upd (upd (upd (upd A (7 * i) (nI (e 0))) (7 * i + 1) (nI (e 1))) (7 * i + 5) (nI (e 5))) (7 * i + 6) (nI (e 6))
theorem set4_in {A : Nat → Int32} {i k : Nat} {e : Nat → Nat} (hk : kk k) : set4 A i e (7 * i + k) = nI (e k) := by
  unfold set4
  rcases hk with q | q | q | q
  · subst q
    rw [pk_un (by omega), pk_un (by omega), pk_un (by omega)]
    exact pk_us
  · subst q
    rw [pk_un (by omega), pk_un (by omega), pk_us]
  · subst q
    rw [pk_un (by omega), pk_us]
  · subst q
    rw [pk_us]
theorem set4_out {A : Nat → Int32} {i x : Nat} {e : Nat → Nat} (h : x < 7 * i ∨ 7 * i + 7 ≤ x) : set4 A i e x = A x := by
  unfold set4
  rw [pk_un (by omega), pk_un (by omega), pk_un (by omega), pk_un (by omega)]
theorem kk_7 {k : Nat} (h : kk k) : k < 7 := by
  unfold kk at h
  omega
theorem Rw.put {A : Nat → Int32} {f : Nat → Nat → Nat} {n : Nat} (h : Rw A f n) (e : Nat → Nat) : Rw (set4 A n e) (insF f n e) (n + 1) := by
  intro j k hj hk
  have := kk_7 hk
  by_cases q : j = n
  · subst q
    rw [set4_in hk, insF_eq]
  · rw [set4_out (by omega), insF_lt (by omega)]
    exact h j k (by omega) hk
theorem Rw.ins {A : Nat → Int32} {f : Nat → Nat → Nat} {i n : Nat} (h : Rw A f n) (hi : i ≤ n) (e : Nat → Nat) : Rw (set4 (va_cpy A A (i * 7) ((i + 1) * 7) ((n - i) * 7)) i e) (insF f i e) (n + 1) := by
  intro j k hj hk
  have h7 := kk_7 hk
  rcases Nat.lt_trichotomy j i with q | q | q
  · rw [set4_out (by omega), insF_lt q]
    unfold va_cpy
    rw [if_neg (by omega)]
    exact h j k (by omega) hk
  · subst q
    rw [set4_in hk, insF_eq]
  · rw [set4_out (by omega), insF_gt q]
    unfold va_cpy
    rw [if_pos (by omega), show i * 7 + (7 * j + k - (i + 1) * 7) = 7 * (j - 1) + k from by omega]
    exact h (j - 1) k (by omega) hk
-- the rows
def plc (w h : Nat) (s : Nat × Nat × Nat × Nat) (wd ht : Nat) : Nat × Nat × Nat × Nat := if s.2.2.2 + wd ≤ w then s else if s.2.1 + s.2.2.1 + ht ≤ h then (s.1, s.2.1 + s.2.2.1, ht, 0) else (s.1 + 1, 0, ht, 0)
def rws (w h : Nat) (f : Nat → Nat → Nat) : Nat → Nat × Nat × Nat × Nat
  | 0 => (0, 0, 0, w)
  | i + 1 => ((plc w h (rws w h f i) (f i 5) (f i 6)).1, (plc w h (rws w h f i) (f i 5) (f i 6)).2.1, (plc w h (rws w h f i) (f i 5) (f i 6)).2.2.1, (plc w h (rws w h f i) (f i 5) (f i 6)).2.2.2 + f i 5)
def qN (w h : Nat) (f : Nat → Nat → Nat) (i : Nat) : Nat × Nat × Nat × Nat := plc w h (rws w h f i) (f i 5) (f i 6)
theorem rws_succ (w h : Nat) (f : Nat → Nat → Nat) (i : Nat) : rws w h f (i + 1) = ((qN w h f i).1, (qN w h f i).2.1, (qN w h f i).2.2.1, (qN w h f i).2.2.2 + f i 5) := rfl
theorem plc_bd {w h i : Nat} {s : Nat × Nat × Nat × Nat} {wd ht : Nat} (h5 : wd ≤ 13) (h6 : ht ≤ 13) (hs : s.1 ≤ i ∧ s.2.1 ≤ 13 * i ∧ s.2.2.1 ≤ 13 ∧ s.2.2.2 ≤ w + 13 * i) : (plc w h s wd ht).1 ≤ i + 1 ∧ (plc w h s wd ht).2.1 ≤ 13 * (i + 1) ∧ (plc w h s wd ht).2.2.1 ≤ 13 ∧ (plc w h s wd ht).2.2.2 + wd ≤ w + 13 * (i + 1) := by
  unfold plc
  split
  · omega
  · split
    · dsimp only; omega
    · dsimp only; omega
theorem rws_bd {w h : Nat} {f : Nat → Nat → Nat} : ∀ {i : Nat}, Bd f i → (rws w h f i).1 ≤ i ∧ (rws w h f i).2.1 ≤ 13 * i ∧ (rws w h f i).2.2.1 ≤ 13 ∧ (rws w h f i).2.2.2 ≤ w + 13 * i
  | 0, _ => by
    rw [rws]
    exact ⟨Nat.le_refl 0, Nat.le_refl 0, Nat.zero_le 13, Nat.le_refl w⟩
  | i + 1, hB => by
    have ih := rws_bd (w := w) (h := h) (f := f) (i := i) (fun j hj => hB j (by omega))
    exact plc_bd (hB i (by omega) 5) (hB i (by omega) 6) ih
def Ls (w h : Nat) (f : Nat → Nat → Nat) (A : Nat → Int32) (i : Nat) : Prop := ∀ j, j < i → A (7 * j + 2) = nI (qN w h f j).1 ∧ A (7 * j + 3) = nI (qN w h f j).2.2.2 ∧ A (7 * j + 4) = nI (qN w h f j).2.1
def set3 (A : Nat → Int32) (i : Nat) (x y z : Int32) : Nat → Int32 := upd (upd (upd A (7 * i + 2) x) (7 * i + 3) y) (7 * i + 4) z
theorem set3_out {A : Nat → Int32} {i x : Nat} {a b c : Int32} (h : x < 7 * i + 2 ∨ 7 * i + 5 ≤ x) : set3 A i a b c x = A x := by
  unfold set3
  rw [pk_un (by omega), pk_un (by omega), pk_un (by omega)]
theorem Rw.set3 {A : Nat → Int32} {f : Nat → Nat → Nat} {n i : Nat} (h : Rw A f n) (a b c : Int32) : Rw (set3 A i a b c) f n := by
  intro j k hj hk
  have e : 7 * j + k < 7 * i + 2 ∨ 7 * i + 5 ≤ 7 * j + k := by
    unfold kk at hk
    omega
  rw [set3_out e]
  exact h j k hj hk
theorem Ls.step {w h : Nat} {f : Nat → Nat → Nat} {A : Nat → Int32} {i : Nat} (hL : Ls w h f A i) : Ls w h f (set3 A i (nI (qN w h f i).1) (nI (qN w h f i).2.2.2) (nI (qN w h f i).2.1)) (i + 1) := by
  intro j hj
  by_cases q : j = i
  · subst q
    unfold set3
    refine ⟨?_, ?_, ?_⟩
    · rw [pk_un (by omega), pk_un (by omega), pk_us]
    · rw [pk_un (by omega), pk_us]
    · rw [pk_us]
  · rw [set3_out (by omega), set3_out (by omega), set3_out (by omega)]
    exact hL j (by omega)
def arN (f : Nat → Nat → Nat) (i : Nat) : Nat := fb_sm (fun j => f j 5 * f j 6) i
-- what is gathered
def spU (c : Nat → Nat → Nat) (ax pl : Nat) : Nat := spN (flU (rcl c ax pl) 8)
def spV (c : Nat → Nat → Nat) (ax pl : Nat) : Nat := spN (orZ (rcl c ax pl) 8)
theorem spN_8 (b : Nat) : spN b ≤ 8 := by
  have := spA_le b 8
  unfold spN
  omega
def eN (c : Nat → Nat → Nat) (k0 r k : Nat) : Nat := if k = 0 then r / 8 else if k = 1 then r % 8 else if k = 5 then spU c (r / 8) (r % 8) + k0 else spV c (r / 8) (r % 8) + k0
theorem eN_13 (c : Nat → Nat → Nat) {k0 r : Nat} (hk : k0 ≤ 5) (hr : r < 16) (k : Nat) : eN c k0 r k ≤ 13 := by
  have h1 : spU c (r / 8) (r % 8) ≤ 8 := spN_8 _
  have h2 : spV c (r / 8) (r % 8) ≤ 8 := spN_8 _
  unfold eN
  split
  · omega
  · split
    · omega
    · split
      · omega
      · omega
def okR (cx cy : Nat) (c : Nat → Nat → Nat) (r : Nat) : Bool := (chN cx cy (r / 8)).testBit (r % 8) && decide (0 < spU c (r / 8) (r % 8))
def gs (cx cy : Nat) (c : Nat → Nat → Nat) (k0 : Nat) : Nat → (Nat → Nat → Nat) × Nat
  | 0 => (fun _ _ => 0, 0)
  | r + 1 => if okR cx cy c r then (insF (gs cx cy c k0 r).1 (psN (gs cx cy c k0 r).1 (eN c k0 r) (gs cx cy c k0 r).2) (eN c k0 r), (gs cx cy c k0 r).2 + 1) else gs cx cy c k0 r
section GSS
variable {cx cy : Nat} {c : Nat → Nat → Nat} {k0 : Nat}
theorem gs_t {r : Nat} (h : okR cx cy c r = true) : gs cx cy c k0 (r + 1) = (insF (gs cx cy c k0 r).1 (psN (gs cx cy c k0 r).1 (eN c k0 r) (gs cx cy c k0 r).2) (eN c k0 r), (gs cx cy c k0 r).2 + 1) := by rw [gs, if_pos h]
theorem gs_f {r : Nat} (h : okR cx cy c r = false) : gs cx cy c k0 (r + 1) = gs cx cy c k0 r := by rw [gs, if_neg (by rw [h]; decide)]
theorem gs_le : ∀ r, (gs cx cy c k0 r).2 ≤ r
  | 0 => Nat.le_refl 0
  | r + 1 => by
    have := gs_le r
    cases e : okR cx cy c r with
    | true => rw [gs_t e]; dsimp only; omega
    | false => rw [gs_f e]; omega
theorem gs_skip {a : Nat} : ∀ d, (∀ r, a ≤ r → r < a + d → okR cx cy c r = false) → gs cx cy c k0 (a + d) = gs cx cy c k0 a
  | 0, _ => rfl
  | d + 1, h => by
    show gs cx cy c k0 (a + d + 1) = _
    rw [gs_f (h (a + d) (by omega) (by omega)), gs_skip d (fun r h1 h2 => h r h1 (by omega))]
theorem gs_all {Q : (Nat → Nat) → Prop} : ∀ r, (∀ j, j < (gs cx cy c k0 r).2 → Q ((gs cx cy c k0 r).1 j)) ↔ ∀ r', r' < r → okR cx cy c r' = true → Q (eN c k0 r')
  | 0 => ⟨fun _ r' hr' => absurd hr' (Nat.not_lt_zero r'), fun _ j hj => absurd hj (Nat.not_lt_zero j)⟩
  | r + 1 => by
    have ih := gs_all (Q := Q) r
    cases e : okR cx cy c r with
    | true =>
      rw [gs_t e]
      dsimp only
      rw [ins_all (psN_le _ _ _), ih]
      constructor
      · rintro ⟨h1, h2⟩ r' hr' ho
        by_cases q : r' = r
        · subst q; exact h2
        · exact h1 r' (by omega) ho
      · intro h
        exact ⟨fun r' hr' ho => h r' (by omega) ho, h r (by omega) e⟩
    | false =>
      rw [gs_f e, ih]
      constructor
      · intro h r' hr' ho
        by_cases q : r' = r
        · subst q; rw [e] at ho; cases ho
        · exact h r' (by omega) ho
      · intro h r' hr' ho
        exact h r' (by omega) ho
theorem gs_bd (hk : k0 ≤ 5) {r : Nat} (hr : r ≤ 16) : Bd (gs cx cy c k0 r).1 (gs cx cy c k0 r).2 := (gs_all (Q := fun e => ∀ k, e k ≤ 13) r).mpr (fun r' hr' _ => eN_13 c hk (by omega))
theorem gs_pos {r : Nat} : ∀ j, j < (gs cx cy c k0 r).2 → 0 < (gs cx cy c k0 r).1 j 5 := (gs_all (Q := fun e => 0 < e 5) r).mpr (fun r' _ ho => by
  unfold okR at ho
  rw [Bool.and_eq_true] at ho
  have := of_decide_eq_true ho.2
  show 0 < spU c (r' / 8) (r' % 8) + k0
  omega)
end GSS
section FGZ
variable {W D Z cx cy : Nat} {c : Nat → Nat → Nat} {u : St}
theorem fig_zero (hO : OKs W D Z cx cy c) {ax pl : Nat} (ha : ax < 2) : fgA (rcl c ax pl) 8 = 0 ↔ spU c ax pl = 0 := by
  have hf := rcl_8 hO ax pl
  constructor
  · intro h
    have h0 : ∀ v, v < 8 → rcl c ax pl v = 0 := by
      intro v hv
      rw [← fg_col hf hv, h]
      rw [Nat.zero_div]
    have e : flU (rcl c ax pl) 8 = 0 := by
      apply Nat.eq_of_testBit_eq
      intro v
      rw [Nat.zero_testBit]
      cases q : (flU (rcl c ax pl) 8).testBit v with
      | false => rfl
      | true =>
        have := (flU_bit (rcl c ax pl) v 8).mp q
        exact absurd (h0 v this.1) this.2
    unfold spU
    rw [e]
    decide
  · intro h
    have hs := spU_seen hO (pl := pl) ha
    rw [show spN (flU (rcl c ax pl) 8) = 0 from h] at hs
    rcases hs with ⟨hn, _⟩ | ⟨lo, hi, h1, h2, h3, h4⟩
    · apply Nat.eq_of_testBit_eq
      intro k
      rw [Nat.zero_testBit, fgA_bit hf]
      cases q : (rcl c ax pl (k / 8)).testBit (k % 8) with
      | false => rw [Bool.and_false]
      | true => exact absurd ⟨k / 8, k % 8, q, rfl⟩ (hn (k / 8))
    · have := h3 lo h1
      omega
theorem v_chosenFigure (hO : OKs W D Z cx cy c) (hS : SIs W D Z cx cy c u) {ax pl : Nat} (ha : ax < 2) (hp : pl < 8) {post : Int64 → Prop} (h0 : (chN cx cy ax).testBit pl = false → ∀ z, z = (0 : Int64) → post z) (h1 : (chN cx cy ax).testBit pl = true → post (lN (fgA (rcl c ax pl) 8))) : P_X3_chosenFigure u (nI ax) (nI pl) post := by
  unfold P_X3_chosenFigure
  refine v_isChosen hO hS ha (by omega) ?_
  refine if_bI (fun t => ?_) (fun t => h0 t 0 rfl)
  exact v_figureOf hO hS ha hp (h1 t)
theorem cmp_fig (hO : OKs W D Z cx cy c) {ax pl : Nat} (ha : ax < 2) : lg_cmp (lN (fgA (rcl c ax pl) 8)) (0 : Int64) = 0 ↔ spU c ax pl = 0 := by
  rw [cmp_eq, show (0 : Int64) = lN 0 from rfl, lN_inj (fgA_lt (rcl_8 hO ax pl) 8) (by decide)]
  exact fig_zero hO ha
theorem okR_at {ax pl : Nat} (hp : pl < 8) : okR cx cy c (8 * ax + pl) = ((chN cx cy ax).testBit pl && decide (0 < spU c ax pl)) := by
  unfold okR
  rw [show (8 * ax + pl) / 8 = ax from by omega, show (8 * ax + pl) % 8 = pl from by omega]
theorem okR_row (hO : OKs W D Z cx cy c) {ax r : Nat} (h1 : 8 * ax + rbN W D ax ≤ r) (h2 : r < 8 * (ax + 1)) : okR cx cy c r = false := by
  have hb := rb_bd hO ax
  unfold okR
  have : (chN cx cy (r / 8)).testBit (r % 8) = false := by
    rw [show r / 8 = ax from by omega]
    exact Nat.testBit_lt_two_pow (Nat.lt_of_lt_of_le (ch_lt hO ax) (Nat.pow_le_pow_right (by decide) (by omega)))
  rw [this, Bool.false_and]
theorem v_spanM (hO : OKs W D Z cx cy c) (hM : MIs W D Z cx cy c u) {ax pl : Nat} (ha : ax < 2) (hp : pl < 8) {post : Int32 → Prop} (h : post (nI (spU c ax pl))) : P_X5_spanOf u (nI ax) (nI pl) (0 : Int32) post :=
  v_spanOf hO hM ha hp false (fun r _ hr => by
    have e : r = spU c ax pl := hr.one (spU_seen hO ha)
    rw [e]; exact h)
theorem v_spanM1 (hO : OKs W D Z cx cy c) (hM : MIs W D Z cx cy c u) {ax pl : Nat} (ha : ax < 2) (hp : pl < 8) {post : Int32 → Prop} (h : post (nI (spV c ax pl))) : P_X5_spanOf u (nI ax) (nI pl) (1 : Int32) post :=
  v_spanOf hO hM ha hp true (fun r _ hr => by
    have e : r = spV c ax pl := hr.one (spZ_seen hO ha)
    rw [e]; exact h)
end FGZ
