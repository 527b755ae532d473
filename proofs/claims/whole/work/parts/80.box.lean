/-! box: the column behind a box, and the count -/
/-- bit z of the layers z0 .. z0 + k - 1 inside the space -/
def lyB (z0 : Int) (k Z z : Nat) : Bool := decide (z0 ≤ z ∧ (z : Int) < z0 + k ∧ z < Z)
/-- the column with those layers put in or taken out, k of them done -/
def bxU (z0 : Int) (Z : Nat) (v : Bool) (b : Nat) : Nat → Nat
  | 0 => b
  | k + 1 => if 0 ≤ z0 + k ∧ z0 + k < Z then (if v then bxU z0 Z v b k ||| 2 ^ (z0 + k).toNat else bxU z0 Z v b k &&& (255 ^^^ 2 ^ (z0 + k).toNat)) else bxU z0 Z v b k
def bxD (z0 : Int) (Z : Nat) (v : Bool) (b : Nat) : Nat → Nat
  | 0 => 0
  | k + 1 => bxD z0 Z v b k + (if (0 ≤ z0 + k ∧ z0 + k < Z) ∧ b.testBit (z0 + k).toNat ≠ v then 1 else 0)
theorem tb255 {p z : Nat} (hz : z < 8) : (255 ^^^ 2 ^ p).testBit z = !(decide (z = p)) := by
  rw [Nat.testBit_xor]
  have e : (255 : Nat).testBit z = true := by
    have : ∀ z : Fin 8, (255 : Nat).testBit z.val = true := by decide +kernel
    exact this ⟨z, hz⟩
  rw [e, Nat.testBit_two_pow]
  by_cases h : p = z
  · subst h; simp
  · simp [h, Ne.symm h, show ¬ z = p from fun q => h q.symm]
theorem bxU_bit {z0 : Int} {Z : Nat} (hZ : Z ≤ 8) {v : Bool} {b : Nat} {z : Nat} (hz : z < 8) : ∀ k, (bxU z0 Z v b k).testBit z = if lyB z0 k Z z then v else b.testBit z
  | 0 => by
    have : lyB z0 0 Z z = false := decide_eq_false (by omega)
    rw [this]; rfl
  | k + 1 => by
    have ih := bxU_bit (z0 := z0) (v := v) (b := b) hZ hz k
    unfold bxU
    by_cases h : 0 ≤ z0 + k ∧ z0 + k < Z
    · rw [if_pos h]
      by_cases ez : (z : Int) = z0 + k
      · have e1 : (z0 + k).toNat = z := by omega
        have e2 : lyB z0 (k + 1) Z z = true := decide_eq_true (by omega)
        rw [e2, e1, if_pos rfl]
        cases v
        · rw [if_neg (by decide), Nat.testBit_and, tb255 hz]; simp
        · rw [if_pos rfl, Nat.testBit_or, Nat.testBit_two_pow_self]; simp
      · have e1 : (z0 + k).toNat ≠ z := by omega
        have e2 : lyB z0 (k + 1) Z z = lyB z0 k Z z := decide_eq_decide.mpr (by omega)
        rw [e2]
        cases v
        · rw [if_neg (by decide), Nat.testBit_and, tb255 hz, ih]; simp [Ne.symm e1]
        · rw [if_pos rfl, Nat.testBit_or, ih, Nat.testBit_two_pow_of_ne e1, Bool.or_false]
    · rw [if_neg h, ih]
      have e2 : lyB z0 (k + 1) Z z = lyB z0 k Z z := decide_eq_decide.mpr (by omega)
      rw [e2]
theorem bxU_lt {z0 : Int} {Z : Nat} (hZ : Z ≤ 8) {v : Bool} {b : Nat} (hb : b < 2 ^ Z) : ∀ k, bxU z0 Z v b k < 2 ^ Z
  | 0 => hb
  | k + 1 => by
    have ih := bxU_lt (z0 := z0) (v := v) hZ hb k
    unfold bxU
    by_cases h : 0 ≤ z0 + k ∧ z0 + k < Z
    · rw [if_pos h]
      cases v
      · exact Nat.lt_of_le_of_lt Nat.and_le_left ih
      · exact Nat.or_lt_two_pow ih (Nat.pow_lt_pow_right (by decide) (by omega))
    · rw [if_neg h]; exact ih
/-- one more place in a count -/
theorem cnt_one {p q : Nat → Bool} {j : Nat} (hj : p j = false) (hq : q j = true) (he : ∀ k, k ≠ j → q k = p k) : ∀ n, fa_cnt q n = fa_cnt p n + (if j < n then 1 else 0)
  | 0 => rfl
  | n + 1 => by
    rw [fa_cnt, fa_cnt, cnt_one hj hq he n]
    by_cases e : n = j
    · subst e
      rw [hj, hq, if_neg (Nat.lt_irrefl n), if_pos (Nat.lt_succ_self n)]
      simp
    · rw [he n e]
      by_cases h : j < n
      · rw [if_pos h, if_pos (show j < n + 1 from by omega)]; omega
      · rw [if_neg h, if_neg (show ¬ j < n + 1 from by omega)]; omega
theorem bxD_cnt {z0 : Int} {Z : Nat} (hZ : Z ≤ 8) {v : Bool} {b : Nat} : ∀ k, bxD z0 Z v b k = fa_cnt (fun z => lyB z0 k Z z && (b.testBit z != v)) 8
  | 0 => by
    have : fa_cnt (fun z => lyB z0 0 Z z && (b.testBit z != v)) 8 = fa_cnt (fun z => lyB z0 0 Z z && (b.testBit z != v)) (0 + 8) := by rw [Nat.zero_add]
    rw [this, cnt_hi 8 (fun k _ _ => by rw [show lyB z0 0 Z k = false from decide_eq_false (by omega)]; rfl)]
    rfl
  | k + 1 => by
    unfold bxD
    rw [bxD_cnt hZ k]
    by_cases h : (0 ≤ z0 + k ∧ z0 + k < Z) ∧ b.testBit (z0 + k).toNat ≠ v
    · rw [if_pos h]
      have hh : ((z0 + k).toNat : Int) = z0 + k := by omega
      rw [cnt_one (p := fun z => lyB z0 k Z z && (b.testBit z != v)) (q := fun z => lyB z0 (k + 1) Z z && (b.testBit z != v)) (j := (z0 + k).toNat) ?_ ?_ ?_ 8, if_pos (by omega)]
      · rw [show lyB z0 k Z (z0 + k).toNat = false from decide_eq_false (by omega)]; rfl
      · rw [show lyB z0 (k + 1) Z (z0 + k).toNat = true from decide_eq_true (by omega)]
        simpa using h.2
      · intro j hj
        rw [show lyB z0 (k + 1) Z j = lyB z0 k Z j from decide_eq_decide.mpr (by omega)]
    · rw [if_neg h, Nat.add_zero]
      apply fa_cnt_cong
      intro z hz
      by_cases e : (z : Int) = z0 + k
      · have e1 : (z0 + k).toNat = z := by omega
        rw [e1] at h
        by_cases h2 : 0 ≤ z0 + k ∧ z0 + k < Z
        · have h3 : b.testBit z = v := by
            cases e3 : b.testBit z <;> cases v <;> first | rfl | exact absurd ⟨h2, by rw [e3]; decide⟩ h
          rw [h3]; simp
        · rw [show lyB z0 k Z z = false from decide_eq_false (by omega), show lyB z0 (k + 1) Z z = false from decide_eq_false (by omega)]
      · rw [show lyB z0 (k + 1) Z z = lyB z0 k Z z from decide_eq_decide.mpr (by omega)]
/-- the columns behind the box -/
def bxIn (x0 : Int) (w x : Nat) : Bool := decide (x0 ≤ x ∧ (x : Int) < x0 + w)
/-- bits from f to e, of a byte -/
theorem bb_bit {f e z : Nat} (hz : z < 8) (he : e ≤ 8) (hf : f ≤ 8) : (bbN f e).testBit z = decide (f ≤ z ∧ z < e) := by
  have : ∀ f : Fin 9, ∀ e : Fin 9, ∀ z : Fin 8, (bbN f.val e.val).testBit z.val = decide (f.val ≤ z.val ∧ z.val < e.val) := by decide +kernel
  exact this ⟨f, by omega⟩ ⟨e, by omega⟩ ⟨z, hz⟩
theorem bb_lt {f e : Nat} (he : e ≤ 8) : bbN f e < 256 := by
  have h1 : 2 ^ e ≤ 256 := OKs.pw he
  have h2 : 1 ≤ 2 ^ f := Nat.two_pow_pos f
  unfold bbN
  omega
theorem byte_ext {a b : Nat} (ha : a < 256) (hb : b < 256) (h : ∀ z, z < 8 → a.testBit z = b.testBit z) : a = b := by
  apply Nat.eq_of_testBit_eq
  intro z
  rcases Nat.lt_or_ge z 8 with q | q
  · exact h z q
  · rw [tb_hi ha q, tb_hi hb q]
/-- the column behind the whole box -/
def bxF (L : Nat) (v : Bool) (b : Nat) : Nat := if v then b ||| L else b &&& (255 ^^^ L)
theorem tb255L {L z : Nat} (hz : z < 8) : (255 ^^^ L).testBit z = !L.testBit z := by
  rw [Nat.testBit_xor]
  have e : (255 : Nat).testBit z = true := by
    have : ∀ z : Fin 8, (255 : Nat).testBit z.val = true := by decide +kernel
    exact this ⟨z, hz⟩
  rw [e, Bool.true_xor]
theorem bxF_bit {L b z : Nat} {v : Bool} (hz : z < 8) : (bxF L v b).testBit z = if L.testBit z then v else b.testBit z := by
  unfold bxF
  cases v
  · rw [if_neg (by decide), Nat.testBit_and, tb255L hz]
    cases L.testBit z <;> simp
  · rw [if_pos rfl, Nat.testBit_or]
    cases L.testBit z <;> simp
theorem bxF_lt {L b : Nat} {v : Bool} {Z : Nat} (hL : L < 2 ^ Z) (hb : b < 2 ^ Z) : bxF L v b < 2 ^ Z := by
  unfold bxF
  cases v
  · exact Nat.lt_of_le_of_lt Nat.and_le_left hb
  · exact Nat.or_lt_two_pow hb hL
theorem m1 : (-1 : Int32) = nI 4294967295 := by decide
theorem not8 {b L : Nat} (hb : b < 256) : b &&& (L ^^^ 4294967295) = b &&& (255 ^^^ L) := by
  apply Nat.eq_of_testBit_eq
  intro z
  rw [Nat.testBit_and, Nat.testBit_and]
  rcases Nat.lt_or_ge z 8 with q | q
  · rw [tb255L q, Nat.testBit_xor]
    have e : (4294967295 : Nat).testBit z = true := by
      have : ∀ z : Fin 8, (4294967295 : Nat).testBit z.val = true := by decide +kernel
      exact this ⟨z, q⟩
    rw [e, Bool.xor_true]
  · rw [tb_hi hb q, Bool.false_and, Bool.false_and]
def cPut (c : Nat → Nat → Nat) (i j v : Nat) : Nat → Nat → Nat := fun x y => if x = i ∧ y = j then v else c x y
theorem OKs.put {W D Z cx cy : Nat} {c : Nat → Nat → Nat} (hO : OKs W D Z cx cy c) {i j v : Nat} (hi : i < W) (hj : j < D) (hv : v < 2 ^ Z) : OKs W D Z cx cy (cPut c i j v) := by
  refine ⟨hO.1, hO.2.1, hO.2.2.1, hO.2.2.2.1, hO.2.2.2.2.1, fun x y => ?_, fun x y h => ?_⟩
  · unfold cPut
    split
    · exact hv
    · exact hO.2.2.2.2.2.1 x y
  · unfold cPut
    rw [if_neg (fun q => h (by rw [q.1, q.2]; exact ⟨hi, hj⟩))]
    exact hO.2.2.2.2.2.2 x y h
theorem v_changeColumn {W D Z cx cy : Nat} {c : Nat → Nat → Nat} {u : St} (hO : OKs W D Z cx cy c) (hS : SIs W D Z cx cy c u) {i j L : Nat} (hi : i < W) (hj : j < D) (hL : L < 2 ^ Z) {v : Bool} {post : Int32 → St → Prop} (h : ∀ u', SIs W D Z cx cy (cPut c i j (bxF L v (c i j))) u' → post (nI (pcN (c i j ^^^ bxF L v (c i j)))) u') : P_X3_changeColumn u (nI i) (nI j) (nI L) (bI v) post := by
  have hW := hO.1
  have hD := hO.2.1
  have hZ := hO.2.2.1
  have hc := hO.c8 i j
  unfold P_X3_changeColumn
  refine v_hasColumn hO hS ?_
  rw [inN_nI (by omega), inN_nI (by omega), decide_eq_true hi, decide_eq_true hj]
  refine if_f (by decide) ?_
  refine v_columnAt hO hS (by omega) (by omega) ?_
  have last : vp_in (((8 : Int32) * nI i) + nI j) 64 ∧ ∀ u_4 : St, u_4 = (u.1, va_up u.2 0 (upd (u.2 0) (((8 : Int32) * nI i) + nI j).toNatClampNeg (nI (bxF L v (c i j))))) → P_J6_bitCount_0f7a4 (nI (c i j) ^^^ nI (bxF L v (c i j))) (fun r_5 : Int32 => post r_5 u_4) := by
    rw [idx2, nI_clamp (by omega)]
    refine ⟨vp_in_nI (by omega) (by decide), ?_⟩
    intro u4 e4
    rw [fb_xorI]
    have hb := Nat.lt_of_lt_of_le (bxF_lt (v := v) hL (hO.2.2.2.2.2.1 i j)) (OKs.pw hZ.2)
    refine v_bitCount (Nat.xor_lt_two_pow (n := 8) hc hb) ?_
    refine h u4 ?_
    subst e4
    refine ⟨hS.1, hS.2.1, hS.2.2.1, hS.2.2.2.1, hS.2.2.2.2.1, fun x y hx hy => ?_⟩
    show va_up u.2 0 (upd (u.2 0) (8 * i + j) (nI (bxF L v (c i j)))) 0 (8 * x + y) = _
    rw [show va_up u.2 0 (upd (u.2 0) (8 * i + j) (nI (bxF L v (c i j)))) 0 = upd (u.2 0) (8 * i + j) (nI (bxF L v (c i j))) from rfl]
    unfold cPut
    by_cases e : x = i ∧ y = j
    · rw [if_pos e, e.1, e.2, pk_us]
    · rw [if_neg e, pk_un (by omega)]
      exact hS.2.2.2.2.2 x y hx hy
  refine if_bI (fun t => ?_) (fun t => ?_)
  · subst t
    rw [fa_or]
    exact last
  · subst t
    rw [m1, fb_xorI, fa_and, not8 hc]
    exact last
