/-! the reference's parts: labels that fall until they stand -/
def mP (u u' : St) : Prop := u'.1 = u.1 ∧ ∀ k, k ≠ 8 → u'.2 k = u.2 k
theorem mP.rf {u : St} : mP u u := ⟨rfl, fun _ _ => rfl⟩
theorem mP.tr {u v w : St} (h : mP u v) (h2 : mP v w) : mP u w := ⟨h2.1.trans h.1, fun k a => (h2.2 k a).trans (h.2 k a)⟩
theorem mP.mS {u v : St} (h : mP u v) : mS u v := ⟨fun k _ _ => congrFun h.1 k, fun k _ _ a _ _ _ => h.2 k a⟩
def Lb (p : Nat → Nat) (u : St) : Prop := ∀ k, k < 64 → u.2 8 k = nI (p k)
def LI (g : Nat → Bool) (p : Nat → Nat) : Prop := ∀ k, k < 64 → (g k = false → p k = 0) ∧ (g k = true → ∃ m, p k = m + 1 ∧ m ≤ k ∧ g m = true ∧ Cn g k m)
theorem LI.le {g : Nat → Bool} {p : Nat → Nat} (h : LI g p) {k : Nat} (hk : k < 64) : p k ≤ 64 := by
  cases e : g k with
  | false => rw [(h k hk).1 e]; omega
  | true => obtain ⟨m, h1, h2, _⟩ := (h k hk).2 e; omega
theorem LI.g {g : Nat → Bool} {p : Nat → Nat} (h : LI g p) {k : Nat} (hk : k < 64) (h0 : p k ≠ 0) : g k = true := by
  cases e : g k with
  | false => exact absurd ((h k hk).1 e) h0
  | true => rfl
theorem LI.put {g : Nat → Bool} {p : Nat → Nat} (h : LI g p) {k m : Nat} (hg : g k = true) (hm : ∃ m0, m = m0 + 1 ∧ m0 ≤ k ∧ g m0 = true ∧ Cn g k m0) : LI g (upN1 p k m) := by
  intro j hj
  unfold upN1
  by_cases e : j = k
  · subst e
    rw [if_pos rfl]
    exact ⟨fun w => (by rw [hg] at w; cases w), fun _ => hm⟩
  · rw [if_neg e]
    exact h j hj
theorem v_meet {g : Nat → Bool} {p : Nat → Nat} {u : St} {a b : Nat} (ha : a < 64) (hb : b < 64) (hab : adjN a b) (hL : Lb p u) (hI : LI g p) {post : Int32 → St → Prop} (h0 : (p a = 0 ∨ p b = 0 ∨ p a = p b) → post 0 u) (h1 : ∀ u' p', mP u u' → Lb p' u' → LI g p' → fb_sm p' 64 < fb_sm p 64 → post 1 u') : P_X5_meet u (nI a) (nI b) post := by
  have ba := hI.le ha
  have bb := hI.le hb
  have hne : b ≠ a := by rcases hab with w | w | w | w <;> omega
  unfold P_X5_meet
  rw [nI_clamp (show a < 2 ^ 31 by omega), nI_clamp (show b < 2 ^ 31 by omega), hL a ha, hL b hb]
  have va : vp_in (nI a) 64 := vp_in_nI ha (by decide)
  have vb : vp_in (nI b) 64 := vp_in_nI hb (by decide)
  refine ⟨va, ?_⟩
  refine if_i (nI_eq (a := p a) (b := 0) (by omega) (by decide)) (fun q => h0 (Or.inl q)) (fun qa => ⟨vb, ?_⟩)
  refine if_i (nI_eq (a := p b) (b := 0) (by omega) (by decide)) (fun q => h0 (Or.inr (Or.inl q))) (fun qb => ⟨va, vb, ?_⟩)
  refine if_i (nI_eq (by omega) (by omega)) (fun q => h0 (Or.inr (Or.inr q))) (fun qn => ⟨va, vb, ?_⟩)
  have ga := hI.g ha qa
  have gb := hI.g hb qb
  obtain ⟨ma, ea, la, gma, ca⟩ := (hI a ha).2 ga
  obtain ⟨mb, eb, lb, gmb, cb⟩ := (hI b hb).2 gb
  have fin : ∀ m, m ≤ p a → m ≤ p b → (m = p a ∨ m = p b) → (vp_in (nI a) 64 ∧ ∀ u_2 : St, u_2 = (u.1, va_up u.2 8 (upd (u.2 8) a (nI m))) → vp_in (nI b) 64 ∧ ∀ u_3 : St, u_3 = (u_2.1, va_up u_2.2 8 (upd (u_2.2 8) b (nI m))) → post (1 : Int32) u_3) := by
    intro m hma hmb hm
    refine ⟨va, ?_⟩
    intro u2 e2
    refine ⟨vb, ?_⟩
    intro u3 e3
    have hi : LI g (upN1 (upN1 p a m) b m) := by
      refine LI.put (LI.put hI ga ?_) gb ?_
      · rcases hm with w | w
        · exact ⟨ma, by omega, la, gma, ca⟩
        · exact ⟨mb, by omega, by omega, gmb, (Cn.st hab gb).tr cb⟩
      · rcases hm with w | w
        · exact ⟨ma, by omega, by omega, gma, (Cn.st hab.sym ga).tr ca⟩
        · exact ⟨mb, by omega, lb, gmb, cb⟩
    refine h1 u3 (upN1 (upN1 p a m) b m) ?_ ?_ hi ?_
    · subst e2 e3
      exact ⟨rfl, fun k hk => by simp [va_up, hk]⟩
    · intro k hk
      subst e2 e3
      unfold upN1
      by_cases q : k = b
      · simp [va_up, upd, q]
      · by_cases q2 : k = a
        · simp [va_up, upd, q2, fun w => hne (Eq.symm w)]
        · simp [va_up, upd, q, q2, hL k hk]
    · have s1 := fb_sm_upd p m (i := a) (n := 64) ha
      have s2 := fb_sm_upd (upN1 p a m) m (i := b) (n := 64) hb
      have s3 : upN1 p a m b = p b := by unfold upN1; rw [if_neg hne]
      rw [s3] at s2
      have s4 : fb_sm (upN1 p a m) 64 = fb_sm (fun k => if k = a then m else p k) 64 := rfl
      have s5 : fb_sm (upN1 (upN1 p a m) b m) 64 = fb_sm (fun k => if k = b then m else upN1 p a m k) 64 := rfl
      omega
  refine if_i (nI_leI (by omega) (by omega)) (fun q => ⟨vb, ?_⟩) (fun q => ⟨va, ?_⟩)
  · exact fin (p b) q (Nat.le_refl _) (Or.inr rfl)
  · exact fin (p a) (Nat.le_refl _) (by omega) (Or.inl rfl)
def St2 (p : Nat → Nat) (a b : Nat) : Prop := p a = 0 ∨ p b = 0 ∨ p a = p b
def PH (g : Nat → Bool) (p0 : Nat → Nat) (u : St) (T : Prop) (v : Int32) (s : St) : Prop := mP u s ∧ ∃ p, Lb p s ∧ LI g p ∧ ((v = 0 ∧ p = p0 ∧ T) ∨ (v = 1 ∧ fb_sm p 64 < fb_sm p0 64))
theorem meet_or {g : Nat → Bool} {p0 : Nat → Nat} {u : St} {T : Prop} {v : Int32} {s : St} (hP : PH g p0 u T v s) {c : Prop} [Decidable c] {a b : Nat} (hc : ¬ c → a < 64 ∧ b < 64 ∧ adjN a b) {J : Int32 → St → Prop} (hJ : ∀ w s', PH g p0 u (T ∧ (¬ c → St2 p0 a b)) w s' → J w s') : jn2 J (fun J_184 => jn1 (fun (u_29 : St) => J_184 (1 : Int32) u_29) (fun J_179 => jn1 (fun (u_28 : St) => if v = 0 then (J_184 (0 : Int32) u_28) else (J_179 u_28)) (fun J_174 => if c then (J_174 s) else (P_X5_meet s (nI a) (nI b) (fun (r_26 : Int32) (u_27 : St) => if r_26 = 0 then (J_174 u_27) else (J_179 u_27)))))) := by
  obtain ⟨hm, p, hL, hI, hv⟩ := hP
  show if c then (if v = 0 then J 0 s else J 1 s) else (P_X5_meet s (nI a) (nI b) (fun (r_26 : Int32) (u_27 : St) => if r_26 = 0 then (if v = 0 then J 0 u_27 else J 1 u_27) else J 1 u_27))
  have stay : (v = 0 → p = p0 → T → (¬ c → St2 p0 a b)) → if v = 0 then J 0 s else J 1 s := by
    intro hst
    rcases hv with ⟨e1, e2, e3⟩ | ⟨e1, e2⟩
    · rw [if_pos e1]
      exact hJ 0 s ⟨hm, p, hL, hI, Or.inl ⟨rfl, e2, e3, hst e1 e2 e3⟩⟩
    · rw [if_neg (by rw [e1]; decide)]
      exact hJ 1 s ⟨hm, p, hL, hI, Or.inr ⟨rfl, e2⟩⟩
  refine if_i Iff.rfl (fun hcc => stay (fun _ _ _ w => absurd hcc w)) (fun hcc => ?_)
  obtain ⟨ha, hb, hab⟩ := hc hcc
  refine v_meet ha hb hab hL hI (fun hs => ?_) (fun u' p' m' hL' hI' hlt => ?_)
  · refine if_t rfl (stay (fun _ e2 _ _ => ?_))
    rw [← e2]; exact hs
  · refine if_f (by decide) (hJ 1 u' ⟨hm.tr m', p', hL', hI', Or.inr ⟨rfl, ?_⟩⟩)
    rcases hv with ⟨_, e2, _⟩ | ⟨_, e2⟩
    · rw [← e2]; exact hlt
    · omega
def Sett (p : Nat → Nat) (i : Nat) : Prop := ∀ k, k < i → (k % 8 < 7 → St2 p k (k + 1)) ∧ (k < 56 → St2 p k (k + 8))
theorem v_pass {g : Nat → Bool} {p0 : Nat → Nat} {u : St} (hL : Lb p0 u) (hI : LI g p0) {post : St → Prop} {K : Int32 → St → Prop} (hK : ∀ v s, PH g p0 u (Sett p0 64) v s → K v s) : ∃ n, L_X5_findParts_144 post K n (0 : Int32) (0 : Int32) u := by
  have key := loop_0 (σ := Int32 × St) (fun n i x => L_X5_findParts_144 post K n x.1 (nI i) x.2) (fun i x => PH g p0 u (Sett p0 i) x.1 x.2) 64 (0, u) ⟨mP.rf, p0, hL, hI, Or.inl ⟨rfl, rfl, fun k hk => absurd hk (Nat.not_lt_zero k)⟩⟩ ?_ ?_
  · exact key
  · intro n x hx
    rw [L_X5_findParts_144]
    exact if_t (by decide) (hK x.1 x.2 hx)
  · intro n i x hi hx ih
    rw [L_X5_findParts_144]
    refine if_f (fun w => absurd ((nI_leI (a := 64) (by decide) (by omega)).mp w) (by omega)) ?_
    rw [show nI i - nI i / (8 : Int32) * (8 : Int32) = nI (i % 8) from pk_rem (d := 8) (by omega) (by decide) (by decide), show nI i + (1 : Int32) = nI (i + 1) from nI_1 i, show nI i + (8 : Int32) = nI (i + 8) from nI_add i 8]
    refine meet_or hx (a := i) (b := i + 1) (fun w => ?_) (fun w1 s1 h1 => ?_)
    · have : ¬ 7 ≤ i % 8 := fun q => w (nI_le (a := 7) q (by omega))
      exact ⟨hi, by omega, Or.inl ⟨rfl, by omega⟩⟩
    · refine meet_or h1 (a := i) (b := i + 8) (fun w => ?_) (fun w2 s2 h2 => ?_)
      · have : ¬ 56 ≤ i := fun q => w (nI_le (a := 56) q (by omega))
        exact ⟨hi, by omega, Or.inr (Or.inr (Or.inl rfl))⟩
      · intro y ey
        subst ey
        refine ih (w2, s2) ?_
        obtain ⟨m2, p, a1, a2, a3⟩ := h2
        refine ⟨m2, p, a1, a2, ?_⟩
        rcases a3 with ⟨b1, b2, ⟨b3, b4⟩, b5⟩ | w
        · refine Or.inl ⟨b1, b2, fun k hk => ?_⟩
          by_cases e : k = i
          · subst e
            refine ⟨fun q => b4 (fun w => ?_), fun q => b5 (fun w => ?_)⟩
            · exact absurd ((nI_leI (a := 7) (by decide) (by omega)).mp w) (by omega)
            · exact absurd ((nI_leI (a := 56) (by decide) (by omega)).mp w) (by omega)
          · exact b3 k (by omega)
        · exact Or.inr w
theorem v_passes {g : Nat → Bool} {u0 : St} {post : St → Prop} {K : St → Prop} (hK : ∀ s p, mP u0 s → Lb p s → LI g p → Sett p 64 → K s) : ∀ (M : Nat) (p0 : Nat → Nat) (u : St), fb_sm p0 64 ≤ M → Lb p0 u → LI g p0 → mP u0 u → L_X5_findParts_133 post K (M + 2) (1 : Int32) u
  | M, p0, u, hM, hL, hI, hu => by
    rw [L_X5_findParts_133]
    refine if_f (by decide) ?_
    refine v_pass hL hI (fun v s hs => ?_)
    obtain ⟨m, p, a1, a2, a3⟩ := hs
    rcases a3 with ⟨b1, b2, b3⟩ | ⟨b1, b2⟩
    · subst b1 b2
      rw [L_X5_findParts_133]
      exact if_t rfl (hK s p (hu.tr m) a1 a2 b3)
    · subst b1
      obtain ⟨M', rfl⟩ : ∃ M', M = M' + 1 := ⟨M - 1, by omega⟩
      exact v_passes hK M' p s (by omega) a1 a2 (hu.tr m)
-- what the labels say when they stand
theorem sett_c {g : Nat → Bool} (hg : ∀ k, g k = true → k < 64) {p : Nat → Nat} (hI : LI g p) (hS : Sett p 64) {a b : Nat} (ha : g a = true) (h : Cn g a b) : p a = p b ∧ g b = true := by
  have nz : ∀ x, g x = true → p x ≠ 0 := by
    intro x hx
    obtain ⟨m, e, _⟩ := (hI x (hg x hx)).2 hx
    omega
  have one : ∀ x y, g x = true → g y = true → adjN x y → p x = p y := by
    intro x y hx hy hxy
    have x64 := hg x hx
    have y64 := hg y hy
    have nx := nz x hx
    have ny := nz y hy
    rcases hxy with ⟨w, w2⟩ | ⟨w, w2⟩ | w | w
    · subst w
      rcases (hS x x64).1 w2 with z | z | z
      · exact absurd z nx
      · exact absurd z ny
      · exact z
    · subst w
      rcases (hS y y64).1 w2 with z | z | z
      · exact absurd z ny
      · exact absurd z nx
      · exact z.symm
    · subst w
      rcases (hS x x64).2 (by omega) with z | z | z
      · exact absurd z nx
      · exact absurd z ny
      · exact z
    · subst w
      rcases (hS y y64).2 (by omega) with z | z | z
      · exact absurd z ny
      · exact absurd z nx
      · exact z.symm
  have := h (fun x => g x = true ∧ p a = p x) ⟨ha, rfl⟩ (fun x y hx hxy hy => ⟨hy, hx.2.trans (one x y hx.1 hy hxy)⟩)
  exact ⟨this.2, this.1⟩
theorem sett_root {g : Nat → Bool} (hg : ∀ k, g k = true → k < 64) {p : Nat → Nat} (hI : LI g p) (hS : Sett p 64) {k : Nat} (hk : k < 64) : p k = k + 1 ↔ Root g k := by
  constructor
  · intro e
    have gk := hI.g hk (by omega)
    refine ⟨gk, fun b hb => ?_⟩
    obtain ⟨e1, gb⟩ := sett_c hg hI hS gk hb
    obtain ⟨m, e2, l2, _⟩ := (hI b (hg b gb)).2 gb
    omega
  · rintro ⟨gk, hr⟩
    obtain ⟨m, e, l, _, cm⟩ := (hI k hk).2 gk
    have := hr m cm
    omega
theorem sett_of {g : Nat → Bool} (hg : ∀ k, g k = true → k < 64) {p : Nat → Nat} (hI : LI g p) (hS : Sett p 64) {k : Nat} (hk : k < 64) (hr : p k = k + 1) {b : Nat} (hb : b < 64) : p b = k + 1 ↔ Cn g k b := by
  have gk := hI.g hk (by omega)
  constructor
  · intro e
    have gb := hI.g hb (by omega)
    obtain ⟨m, e2, _, _, cm⟩ := (hI b hb).2 gb
    have : m = k := by omega
    subst this
    exact Cn.sym gb cm
  · intro h
    have := (sett_c hg hI hS gk h).1
    omega
theorem ifJ {b : Bool} {x y : Int32} {J : Int32 → Prop} (h : J (if b then y else x)) : jn1 J (fun J' => if bI b = 0 then J' x else J' y) := by
  show if bI b = 0 then J x else J y
  cases b with
  | true => exact if_f (by decide) h
  | false => exact if_t rfl h
section MPT
variable {W D Z cx cy : Nat} {c : Nat → Nat → Nat} {u : St}
def gF (cx cy : Nat) (c : Nat → Nat → Nat) (cut : Bool) (ax pl k : Nat) : Bool := (fgA (figC cx cy c cut ax pl) 8).testBit k
theorem gF_64 (hO : OKs W D Z cx cy c) {cut : Bool} {ax pl k : Nat} (h : gF cx cy c cut ax pl k = true) : k < 64 := by
  unfold gF at h
  rw [fgA_bit (figC_8 hO cut ax pl)] at h
  have := of_decide_eq_true ((Bool.and_eq_true _ _).mp h).1
  omega
theorem gF_at (hO : OKs W D Z cx cy c) {cut : Bool} {ax pl v z : Nat} (hv : v < 8) (hz : z < 8) : gF cx cy c cut ax pl (8 * v + z) = (figC cx cy c cut ax pl v).testBit z := by
  unfold gF
  rw [fgA_bit (figC_8 hO cut ax pl), show (8 * v + z) / 8 = v from by omega, show (8 * v + z) % 8 = z from by omega, decide_eq_true hv, Bool.true_and]
theorem v_there (hO : OKs W D Z cx cy c) (hM : MIs W D Z cx cy c u) {ax pl v z : Nat} (ha : ax < 2) (hp : pl < 8) (hv : v < 8) (hz : z < 8) (cut : Bool) {J : Int32 → St → Prop} (h : ∀ s', mR u s' → J (bI (gF cx cy c cut ax pl (8 * v + z))) s') : jn2 J (fun J_65 => jn1 (fun (u_9 : St) => J_65 (0 : Int32) u_9) (fun J_64 => if nI (rbN W D (1 - ax)) ≤ nI v then (J_64 u) else (if (u.1 2) ≤ nI z then (J_64 u) else (P_X5_isIn u (nI ax) (nI pl) (nI v) (nI z) (bI cut) (fun (r_7 : Int32) (u_8 : St) => if r_7 = 0 then (J_64 u_8) else (J_65 (1 : Int32) u_8)))))) := by
  rw [gF_at hO hv hz] at h
  have hr := rb_bd hO (1 - ax)
  show if nI (rbN W D (1 - ax)) ≤ nI v then (J 0 u) else (if (u.1 2) ≤ nI z then (J 0 u) else (P_X5_isIn u (nI ax) (nI pl) (nI v) (nI z) (bI cut) (fun (r_7 : Int32) (u_8 : St) => if r_7 = 0 then (J 0 u_8) else (J (1 : Int32) u_8))))
  rw [hM.2.2.1]
  refine if_i (nI_leI (by omega) (by omega)) (fun q => ?_) (fun q => ?_)
  · have e : figC cx cy c cut ax pl v = 0 := by
      unfold figC
      split
      · exact ctl_0 hO q ha
      · exact rcl_0 hO q ha
    have := h u mR.rf
    rw [e, Nat.zero_testBit] at this
    exact this
  · refine if_i (nI_leI (by have := hO.2.2.1; omega) (by omega)) (fun q2 => ?_) (fun q2 => ?_)
    · have e0 : (rcl c ax pl v).testBit z = false := by
        unfold rcl
        split
        · exact Nat.testBit_lt_two_pow (Nat.lt_of_lt_of_le (hO.2.2.2.2.2.1 pl v) (Nat.pow_le_pow_right (by decide) q2))
        · exact Nat.testBit_lt_two_pow (Nat.lt_of_lt_of_le (hO.2.2.2.2.2.1 v pl) (Nat.pow_le_pow_right (by decide) q2))
      have e : (figC cx cy c cut ax pl v).testBit z = false := by
        unfold figC
        split
        · rw [ctl_bit hO hz, e0, Bool.false_and]
        · exact e0
      have := h u mR.rf
      rw [e] at this
      exact this
    · refine v_isIn hO hM ha hp hv hz cut (fun u' hr => ?_)
      have := h u' hr
      refine if_bI (fun w => ?_) (fun w => ?_)
      · rw [w] at this; exact this
      · rw [w] at this; exact this
def lb0 (g : Nat → Bool) (k : Nat) : Nat := if g k then k + 1 else 0
def FI (g : Nat → Bool) (u : St) (j : Nat) (s : St) : Prop := mS u s ∧ s.1 10 = nI (fa_cnt g j) ∧ ∀ k, k < j → s.2 8 k = nI (lb0 g k)
theorem v_fill (hO : OKs W D Z cx cy c) (hM : MIs W D Z cx cy c u) {ax pl : Nat} (ha : ax < 2) (hp : pl < 8) (cut : Bool) (h10 : u.1 10 = 0) {post : St → Prop} {K : St → Prop} (hK : ∀ s, FI (gF cx cy c cut ax pl) u 64 s → K s) : ∃ n, L_X5_findParts_8 post K (nI ax) (nI pl) (bI cut) n (0 : Int32) u := by
  refine loop_0 (σ := St) (fun n v s => L_X5_findParts_8 post K (nI ax) (nI pl) (bI cut) n (nI v) s) (fun v s => FI (gF cx cy c cut ax pl) u (8 * v) s) 8 u ⟨mS.rf, h10, fun k hk => absurd hk (Nat.not_lt_zero k)⟩ ?_ ?_
  · intro n s hs
    rw [L_X5_findParts_8]
    exact if_t (by decide) (hK s hs)
  · intro n v s hv hs ih
    rw [L_X5_findParts_8]
    refine if_f (fun w => absurd ((nI_leI (a := 8) (by decide) (by omega)).mp w) (by omega)) ?_
    refine loop_0 (σ := St) (fun n' z s' => L_X5_findParts_18 post (fun (u_18 : St) => ∀ y_19 : Int32, y_19 = nI v + (1 : Int32) → L_X5_findParts_8 post K (nI ax) (nI pl) (bI cut) n y_19 u_18) (nI ax) (nI pl) (bI cut) (nI v) n' (nI z) s') (fun z s' => FI (gF cx cy c cut ax pl) u (8 * v + z) s') 8 s hs ?_ ?_
    · intro n' s' hs'
      rw [L_X5_findParts_18]
      refine if_t (by decide) ?_
      intro y ey
      rw [show nI v + (1 : Int32) = nI (v + 1) from nI_1 v] at ey
      subst ey
      exact ih s' (by rw [show 8 * (v + 1) = 8 * v + 8 from by omega]; exact hs')
    · intro n' z s' hz hs' ih'
      have hM' := hs'.1.MI hM
      rw [L_X5_findParts_18]
      refine if_f (fun w => absurd ((nI_leI (a := 8) (by decide) (by omega)).mp w) (by omega)) ?_
      rw [one_sub ha]
      refine v_places hM' (by omega) ?_
      refine v_there hO hM' ha hp hv hz cut (fun s1 hr => ?_)
      refine ifJ ?_
      rw [idx2, show nI (8 * v + z) + (1 : Int32) = nI (8 * v + z + 1) from nI_1 _]
      rw [nI_clamp (by omega)]
      refine ⟨vp_in_nI (by omega) (by decide), ?_⟩
      intro u13 e13
      refine ifJ ?_
      intro y15 e15 u16 e16 y17 e17
      rw [show nI z + (1 : Int32) = nI (z + 1) from nI_1 z] at e17
      subst e17
      refine ih' u16 ⟨(hs'.1.tr hr.mS).tr ?_, ?_, ?_⟩
      · subst e13 e16
        exact ⟨fun k _ a => pk_un a, fun k _ _ a _ _ _ => by simp [va_up, a]⟩
      · have : u13.1 10 = nI (fa_cnt (gF cx cy c cut ax pl) (8 * v + z)) := by
          subst e13
          show s1.1 10 = _
          rw [hr.1]
          exact hs'.2.1
        subst e16
        show upd u13.1 10 y15 10 = _
        rw [pk_us, e15, this]
        show _ = nI (fa_cnt (gF cx cy c cut ax pl) (8 * v + z + 1))
        cases eg : gF cx cy c cut ax pl (8 * v + z) with
        | true => rw [fa_cnt_yes eg]; exact nI_1 _
        | false => rw [fa_cnt_no eg]; exact nI_add _ 0
      · intro k hk
        have e8 : u16.2 8 k = upd (s1.2 8) (8 * v + z) (if gF cx cy c cut ax pl (8 * v + z) = true then nI (8 * v + z + 1) else 0) k := by
          subst e13 e16
          simp [va_up]
        rw [e8]
        by_cases q : k = 8 * v + z
        · subst q
          rw [pk_us]
          unfold lb0
          cases gF cx cy c cut ax pl (8 * v + z) <;> rfl
        · rw [pk_un q, hr.2 8 (by decide) (by decide)]
          exact hs'.2.2 k (by omega)
theorem lb0_LI (g : Nat → Bool) : LI g (lb0 g) := by
  intro k hk
  unfold lb0
  refine ⟨fun w => ?_, fun w => ?_⟩
  · rw [w]; rfl
  · rw [if_pos w]; exact ⟨k, rfl, Nat.le_refl _, w, Cn.rf⟩
theorem v_findParts (hO : OKs W D Z cx cy c) (hM : MIs W D Z cx cy c u) {ax pl : Nat} (ha : ax < 2) (hp : pl < 8) (cut : Bool) {post : St → Prop} (h : ∀ u' p, mS u u' → u'.1 10 = nI (fa_cnt (gF cx cy c cut ax pl) 64) → u'.1 9 = nI (fa_cnt (fun k => prB (Root (gF cx cy c cut ax pl) k)) 64) → Lb p u' → LI (gF cx cy c cut ax pl) p → Sett p 64 → post u') : P_X5_findParts u (nI ax) (nI pl) (bI cut) post := by
  intro u1 e1
  have m1 : mS u u1 := by
    subst e1
    exact ⟨fun k _ a => pk_un a, fun _ _ _ _ _ _ _ => rfl⟩
  refine v_fill hO (m1.MI hM) ha hp cut (by subst e1; show upd u.1 10 0 10 = 0; exact pk_us) (fun s hs => ?_)
  refine ⟨_, v_passes (g := gF cx cy c cut ax pl) (u0 := s) (fun s2 p m2 hL hI hS => ?_) _ _ s (Nat.le_refl _) (show Lb (lb0 (gF cx cy c cut ax pl)) s from hs.2.2) (lb0_LI _) mP.rf⟩
  intro u42 e42
  have hg : ∀ k, gF cx cy c cut ax pl k = true → k < 64 := fun k hk => gF_64 hO hk
  have m42 : mS u u42 := by
    refine (m1.tr hs.1).tr (m2.mS.tr ?_)
    subst e42
    exact ⟨fun k a _ => pk_un a, fun _ _ _ _ _ _ _ => rfl⟩
  have h10 : u42.1 10 = nI (fa_cnt (gF cx cy c cut ax pl) 64) := by
    subst e42
    show upd s2.1 9 0 10 = _
    rw [pk_un (by decide), m2.1]
    exact hs.2.1
  refine loop_0 (σ := St) (fun n i x => L_X5_findParts_236 post (fun u_49 => post u_49) n (nI i) x) (fun i x => mS u x ∧ x.1 10 = nI (fa_cnt (gF cx cy c cut ax pl) 64) ∧ x.1 9 = nI (fa_cnt (fun k => prB (Root (gF cx cy c cut ax pl) k)) i) ∧ x.2 8 = s2.2 8) 64 u42 ⟨m42, h10, by subst e42; show upd s2.1 9 0 9 = 0; exact pk_us, by subst e42; rfl⟩ ?_ ?_
  · intro n x hx
    rw [L_X5_findParts_236]
    refine if_t (by decide) ?_
    exact h x p hx.1 hx.2.1 hx.2.2.1 (fun k hk => by rw [hx.2.2.2]; exact hL k hk) hI hS
  · intro n i x hi hx ih
    rw [L_X5_findParts_236]
    refine if_f (fun w => absurd ((nI_leI (a := 64) (by decide) (by omega)).mp w) (by omega)) ?_
    refine ⟨vp_in_nI hi (by decide), ?_⟩
    have bp := hI.le hi
    have nxt : ∀ w : Int32, w = nI (if prB (Root (gF cx cy c cut ax pl) i) then 1 else 0) → ∀ y_46 : Int32, y_46 = ((x.1 9) + w) → ∀ u_47 : St, u_47 = (upd x.1 9 y_46, x.2) → ∀ y_48 : Int32, y_48 = nI i + (1 : Int32) → L_X5_findParts_236 post (fun u_49 => post u_49) n y_48 u_47 := by
      intro w ew y46 e46 u47 e47 y48 e48
      rw [show nI i + (1 : Int32) = nI (i + 1) from nI_1 i] at e48
      subst e48
      refine ih u47 ⟨hx.1.tr ?_, ?_, ?_, ?_⟩
      · subst e47
        exact ⟨fun k a _ => pk_un a, fun _ _ _ _ _ _ _ => rfl⟩
      · subst e47
        show upd x.1 9 y46 10 = _
        rw [pk_un (by decide)]
        exact hx.2.1
      · subst e47
        show upd x.1 9 y46 9 = _
        rw [pk_us, e46, ew, hx.2.2.1, nI_add]
        cases er : prB (Root (gF cx cy c cut ax pl) i) with
        | true => rw [fa_cnt_yes er]; rfl
        | false => rw [fa_cnt_no er]; rfl
      · subst e47
        exact hx.2.2.2
    rw [nI_clamp (show i < 2 ^ 31 by omega), hx.2.2.2, hL i hi, show nI i + (1 : Int32) = nI (i + 1) from nI_1 i]
    rw [show nI i + (1 : Int32) = nI (i + 1) from nI_1 i] at nxt
    refine if_i (nI_eq (by omega) (by omega)) (fun q => ?_) (fun q => ?_)
    · refine nxt 1 ?_
      rw [prB_t ((sett_root hg hI hS hi).mp q)]; rfl
    · refine nxt 0 ?_
      rw [prB_f (fun w => q ((sett_root hg hI hS hi).mpr w))]; rfl
end MPT
