/-! the worth of a choice, and the greatest gains -/
def zI (z : Int) : Int32 := Int32.ofInt z
theorem zI_add (a b : Int) : zI a + zI b = zI (a + b) := (Int32.ofInt_add a b).symm
theorem zI_nI (n : Nat) : nI n = zI (n : Int) := Int32.ofInt_eq_ofNat.symm
theorem zI_toInt {z : Int} (h1 : -2147483648 ≤ z) (h2 : z < 2147483648) : (zI z).toInt = z := fb_ofI h1 h2
theorem zI_le {a b : Int} (ha1 : -1000000 ≤ a) (ha2 : a ≤ 1000000) (hb1 : -1000000 ≤ b) (hb2 : b ≤ 1000000) : zI a ≤ zI b ↔ a ≤ b := by
  rw [fa_le, zI_toInt (by omega) (by omega), zI_toInt (by omega) (by omega)]
theorem zI_128 (n : Nat) : (128 : Int32) * nI n = zI (128 * (n : Int)) := by
  rw [show 128 * (n : Int) = ((128 * n : Nat) : Int) from by omega, ← zI_nI]
  exact (Int32.ofNat_mul 128 n).symm
theorem si_zero : ∀ n, fb_si (fun _ => (0 : Int)) n = 0
  | 0 => rfl
  | n + 1 => by rw [fb_si_succ, si_zero n]; rfl
theorem si_swap (g : Nat → Nat → Int) (D : Nat) : ∀ W, fb_si (fun x => fb_si (g x) D) W = fb_si (fun y => fb_si (fun x => g x y) W) D
  | 0 => (si_zero D).symm
  | W + 1 => by
    rw [fb_si_succ, si_swap g D W, ← fb_si_add]
    rfl
def gc (c : Nat → Nat → Nat) (p x y : Nat) : Int := if p.testBit x = true then (if 1 < rcN (c x y) then -1 else 0) else 128 * (pcN (c x y) : Int)
def gn (W : Nat) (c : Nat → Nat → Nat) (p y : Nat) : Int := fb_si (fun x => gc c p x y) W
def wo (W D : Nat) (c : Nat → Nat → Nat) (p q : Nat) : Int := 128 * (covN W D c p q : Int) - (catN W D c p q : Int)
def waN (W D : Nat) (c : Nat → Nat → Nat) (p : Nat) : Nat := fb_sm (fun x => if p.testBit x = true then fb_sm (fun y => pcN (c x y)) D else 0) W
def sg (k : Nat → Int) (q n : Nat) : Int := fb_si (fun y => if q.testBit y = true then k y else 0) n
theorem wo_eq (W D : Nat) (c : Nat → Nat → Nat) (p q : Nat) : wo W D c p q = 128 * (waN W D c p : Int) + sg (gn W c p) q D := by
  have e1 : (covN W D c p q : Int) = fb_si (fun x => fb_si (fun y => (cvG c p q x y : Int)) D) W := by
    unfold covN
    rw [← fb_si_nat]
    exact fb_si_cong (fun x _ => (fb_si_nat (cvG c p q x) D).symm)
  have e2 : (catN W D c p q : Int) = fb_si (fun x => fb_si (fun y => (caG c p q x y : Int)) D) W := by
    unfold catN
    rw [← fb_si_nat]
    exact fb_si_cong (fun x _ => (fb_si_nat (caG c p q x) D).symm)
  have e3 : (waN W D c p : Int) = fb_si (fun x => if p.testBit x = true then fb_si (fun y => (pcN (c x y) : Int)) D else 0) W := by
    unfold waN
    rw [← fb_si_nat]
    refine fb_si_cong (fun x _ => ?_)
    by_cases h : p.testBit x = true
    · rw [if_pos h, if_pos h]
      exact (fb_si_nat (fun y => pcN (c x y)) D).symm
    · rw [if_neg h, if_neg h]
      rfl
  have e4 : sg (gn W c p) q D = fb_si (fun x => fb_si (fun y => if q.testBit y = true then gc c p x y else 0) D) W := by
    rw [si_swap (fun x y => if q.testBit y = true then gc c p x y else 0) D W]
    unfold sg
    refine fb_si_cong (fun y _ => ?_)
    by_cases h : q.testBit y = true
    · rw [if_pos h]
      exact fb_si_cong (fun x _ => (if_pos h).symm)
    · rw [if_neg h]
      exact (si_zero W).symm.trans (fb_si_cong (fun x _ => (if_neg h).symm))
  rw [wo, e1, e2, e3, e4, ← fb_si_mul, ← fb_si_mul, ← fb_si_sub, ← fb_si_add]
  refine fb_si_cong (fun x _ => ?_)
  have e5 : (if p.testBit x = true then fb_si (fun y => (pcN (c x y) : Int)) D else 0) = fb_si (fun y => if p.testBit x = true then (pcN (c x y) : Int) else 0) D := by
    by_cases h : p.testBit x = true
    · rw [if_pos h]
      exact fb_si_cong (fun x _ => (if_pos h).symm)
    · rw [if_neg h]
      exact (si_zero D).symm.trans (fb_si_cong (fun x _ => (if_neg h).symm))
  rw [e5, ← fb_si_mul, ← fb_si_mul, ← fb_si_sub, ← fb_si_add]
  refine fb_si_cong (fun y _ => ?_)
  unfold cvG caG gc
  cases p.testBit x <;> cases q.testBit y <;> by_cases hr : 1 < rcN (c x y) <;> simp [hr] <;> omega
theorem si_const (b : Nat → Bool) (θ : Int) : ∀ n, fb_si (fun y => if b y = true then θ else 0) n = (fa_cnt b n : Int) * θ
  | 0 => by
    rw [fa_cnt, show ((0 : Nat) : Int) = 0 from rfl, Int.zero_mul]
    rfl
  | n + 1 => by
    rw [fb_si_succ, si_const b θ n]
    by_cases h : b n = true
    · rw [fa_cnt_yes h, if_pos h, show ((fa_cnt b n + 1 : Nat) : Int) = (fa_cnt b n : Int) + 1 from by omega, Int.add_mul, Int.one_mul]
    · rw [fa_cnt_no (Bool.eq_false_iff.mpr h), if_neg h, Int.add_zero]
theorem top_le {D t q : Nat} {k : Nat → Int} {θ : Int} (h1 : ∀ y, y < D → t.testBit y = true → θ ≤ k y) (h0 : ∀ y, y < D → t.testBit y = false → k y ≤ θ) (hc : fa_cnt (fun y => t.testBit y) D = fa_cnt (fun y => q.testBit y) D) : sg k q D ≤ sg k t D := by
  have key : ∀ n, n ≤ D → fb_si (fun y => if q.testBit y = true then k y else 0) n + fb_si (fun y => if t.testBit y = true then θ else 0) n ≤ fb_si (fun y => if t.testBit y = true then k y else 0) n + fb_si (fun y => if q.testBit y = true then θ else 0) n := by
    intro n
    induction n with
    | zero => intro _; exact Int.le_refl _
    | succ n ih =>
      intro hn
      have ih := ih (by omega)
      have s1 := fb_si_succ (fun y => if q.testBit y = true then k y else 0) n
      have s2 := fb_si_succ (fun y => if t.testBit y = true then θ else 0) n
      have s3 := fb_si_succ (fun y => if t.testBit y = true then k y else 0) n
      have s4 := fb_si_succ (fun y => if q.testBit y = true then θ else 0) n
      by_cases e1 : t.testBit n = true
      · have a := h1 n (by omega) e1
        by_cases e2 : q.testBit n = true
        · rw [if_pos e2] at s1 s4
          rw [if_pos e1] at s2 s3
          omega
        · rw [if_neg e2] at s1 s4
          rw [if_pos e1] at s2 s3
          omega
      · have a := h0 n (by omega) (Bool.eq_false_iff.mpr e1)
        by_cases e2 : q.testBit n = true
        · rw [if_pos e2] at s1 s4
          rw [if_neg e1] at s2 s3
          omega
        · rw [if_neg e2] at s1 s4
          rw [if_neg e1] at s2 s3
          omega
  have := key D (Nat.le_refl D)
  rw [si_const (fun y => t.testBit y), si_const (fun y => q.testBit y), hc] at this
  unfold sg
  omega
theorem sum_bits (q : Nat) : ∀ n, fb_si (fun y => if q.testBit y = true then ((2 ^ y : Nat) : Int) else 0) n = ((q % 2 ^ n : Nat) : Int)
  | 0 => by rw [Nat.pow_zero, Nat.mod_one]; rfl
  | n + 1 => by
    rw [fb_si_succ, sum_bits q n, Nat.mod_pow_succ, Nat.testBit_eq_decide_div_mod_eq]
    rcases Nat.mod_two_eq_zero_or_one (q / 2 ^ n) with e | e
    · rw [e]; simp
    · rw [e]; simp
def kyN (g : Nat → Int) (y : Nat) : Int := 512 * g y - ((2 ^ y : Nat) : Int)
theorem sg_ky (g : Nat → Int) (q n : Nat) : sg (kyN g) q n = 512 * sg g q n - ((q % 2 ^ n : Nat) : Int) := by
  rw [← sum_bits]
  unfold sg
  rw [← fb_si_mul, ← fb_si_sub]
  refine fb_si_cong (fun y _ => ?_)
  by_cases h : q.testBit y = true
  · rw [if_pos h, if_pos h, if_pos h]; rfl
  · rw [if_neg h, if_neg h, if_neg h]; rfl
def Tp (D : Nat) (k : Nat → Int) (t i : Nat) : Prop := t < 2 ^ D ∧ fa_cnt (fun y => t.testBit y) D = i ∧ ∃ θ : Int, (∀ y, y < D → t.testBit y = true → θ ≤ k y) ∧ ∀ y, y < D → t.testBit y = false → k y ≤ θ
theorem Tp.best {D : Nat} (hD : D ≤ 8) {g : Nat → Int} {t b : Nat} (h : Tp D (kyN g) t b) {q : Nat} (hq : q < 2 ^ D) (hc : fa_cnt (fun y => q.testBit y) D = b) : sg g q D < sg g t D ∨ (sg g q D = sg g t D ∧ t ≤ q) := by
  obtain ⟨ht, hn, θ, h1, h0⟩ := h
  have := top_le (k := kyN g) (q := q) h1 h0 (by rw [hn, hc])
  rw [sg_ky, sg_ky, Nat.mod_eq_of_lt hq, Nat.mod_eq_of_lt ht] at this
  have h8 : 2 ^ D ≤ 256 := OKs.pw hD
  omega
theorem cnt_all {p : Nat → Bool} : ∀ n, (∀ k, k < n → p k = true) → fa_cnt p n = n
  | 0, _ => rfl
  | n + 1, h => by rw [fa_cnt_yes (h n (by omega)), cnt_all n (fun k hk => h k (by omega))]
theorem ky_le {g : Nat → Int} {m y : Nat} (hm : m < y) (h : g y ≤ g m) : kyN g y ≤ kyN g m := by
  have h2 : 2 ^ m ≤ 2 ^ y := Nat.pow_le_pow_right (by decide) (by omega)
  unfold kyN
  generalize 2 ^ m = a at *
  generalize 2 ^ y = b at *
  omega
theorem ky_lt {g : Nat → Int} {m y : Nat} (hy : y < 8) (h : g m < g y) : kyN g m ≤ kyN g y := by
  have h2 : 2 ^ y ≤ 256 := OKs.pw (by omega)
  unfold kyN
  generalize 2 ^ m = a at *
  generalize 2 ^ y = b at *
  omega
theorem Tp.step {D : Nat} {k : Nat → Int} {t i m : Nat} (h : Tp D k t i) (hm : m < D) (hf : t.testBit m = false) (hb : ∀ y, y < D → t.testBit y = false → k y ≤ k m) : Tp D k (t ||| 2 ^ m) (i + 1) := by
  obtain ⟨ht, hn, θ, h1, h0⟩ := h
  refine ⟨Nat.or_lt_two_pow ht (Nat.pow_lt_pow_right (by decide) hm), ?_, k m, fun y hy e => ?_, fun y hy e => ?_⟩
  · rw [cnt_one (p := fun y => t.testBit y) (q := fun y => (t ||| 2 ^ m).testBit y) (j := m) hf (by rw [fb_bit_set, decide_eq_true rfl, Bool.or_true]) (fun y hy => by rw [fb_bit_set, decide_eq_false hy, Bool.or_false]), hn, if_pos hm]
  · rw [fb_bit_set, Bool.or_eq_true, decide_eq_true_eq] at e
    rcases e with e | e
    · have := h1 y hy e
      have := h0 m hm hf
      omega
    · rw [e]; exact Int.le_refl _
  · rw [fb_bit_set, Bool.or_eq_false_iff] at e
    exact hb y hy e.1
theorem Tp.zero {D : Nat} {k : Nat → Int} {θ : Int} (h : ∀ y, y < D → k y ≤ θ) : Tp D k 0 0 := by
  refine ⟨Nat.two_pow_pos D, ?_, θ, fun y hy e => ?_, fun y hy _ => h y hy⟩
  · have : ∀ n, fa_cnt (fun y => Nat.testBit 0 y) n = 0 := by
      intro n
      induction n with
      | zero => rfl
      | succ n ih => rw [fa_cnt_no (Nat.zero_testBit n), ih]
    exact this D
  · rw [Nat.zero_testBit] at e; cases e
-- the best of a set of pairs
def Bst (f : Nat → Nat → Int) (C : Nat → Nat → Prop) (bp bq : Nat) : Prop := C bp bq ∧ ∀ p q, C p q → f p q < f bp bq ∨ (f p q = f bp bq ∧ (bp < p ∨ (bp = p ∧ bq ≤ q)))
theorem Bst.of {f : Nat → Nat → Int} {C C' : Nat → Nat → Prop} {bp bq : Nat} (h : Bst f C bp bq) (e : ∀ p q, C' p q ↔ C p q) : Bst f C' bp bq := ⟨(e bp bq).mpr h.1, fun p q w => h.2 p q ((e p q).mp w)⟩
theorem Bst.one {f : Nat → Nat → Int} {C : Nat → Nat → Prop} {a b a' b' : Nat} (h : Bst f C a b) (h' : Bst f C a' b') : a = a' ∧ b = b' := by
  have h1 := h.2 a' b' h'.1
  have h2 := h'.2 a b h.1
  omega
theorem sm_rng {W D K : Nat} (hW : W ≤ 8) (hD : D ≤ 8) {g : Nat → Nat → Nat} (h : ∀ x y, g x y ≤ K) : fb_sm (fun x => fb_sm (g x) D) W ≤ 64 * K := by
  have h1 : ∀ x, fb_sm (g x) D ≤ 8 * K := fun x => Nat.le_trans (fb_sm_bound (fun k _ => h x k)) (Nat.mul_le_mul_right K hD)
  have h2 : fb_sm (fun x => fb_sm (g x) D) W ≤ W * (8 * K) := fb_sm_bound (fun k _ => h1 k)
  have h3 : W * (8 * K) ≤ 8 * (8 * K) := Nat.mul_le_mul_right _ hW
  omega
theorem cov_le {W D : Nat} (hW : W ≤ 8) (hD : D ≤ 8) (c : Nat → Nat → Nat) (p q : Nat) : covN W D c p q ≤ 512 := by
  have := sm_rng (K := 8) hW hD (g := cvG c p q) (fun x y => by
    unfold cvG
    split
    · exact pc_le _
    · omega)
  exact this
theorem cat_le {W D : Nat} (hW : W ≤ 8) (hD : D ≤ 8) (c : Nat → Nat → Nat) (p q : Nat) : catN W D c p q ≤ 64 := by
  have := sm_rng (K := 1) hW hD (g := caG c p q) (fun x y => by
    unfold caG
    split
    · omega
    · omega)
  exact this
theorem gn_rng {W : Nat} (hW : W ≤ 8) (c : Nat → Nat → Nat) (p y : Nat) : -8192 ≤ gn W c p y ∧ gn W c p y ≤ 8192 := by
  have := fb_si_bound (f := fun x => gc c p x y) (c := 1024) (by decide) (n := W) (fun k _ => by
    have := pc_le (c k y)
    unfold gc
    split
    · split
      · omega
      · omega
    · omega)
  unfold gn
  omega
set_option maxRecDepth 100000 in
theorem pc_dec : ∀ a : Fin 9, pcN (2 ^ a.val - 1) = a.val := by decide +kernel
theorem pc_cnt {n q : Nat} (hn : n ≤ 8) (hq : q < 2 ^ n) : fa_cnt (fun y => q.testBit y) n = pcN q := by
  unfold pcN
  have := cnt_hi (p := fun y => q.testBit y) (a := n) (8 - n) (fun k hk _ => Nat.testBit_lt_two_pow (Nat.lt_of_lt_of_le hq (Nat.pow_le_pow_right (by decide) hk)))
  rw [show n + (8 - n) = 8 from by omega] at this
  exact this.symm
