/-! the count of the bits of a word, byte by byte -/
def bsu (f : Nat → Nat) : Nat → Nat
  | 0 => 0
  | k + 1 => f 0 + 256 * bsu (fun j => f (j + 1)) k
  termination_by structural k => k
theorem and_split {x a : Nat} (y b : Nat) (hx : x < 256) (ha : a < 256) : (x + 256 * y) &&& (a + 256 * b) = (x &&& a) + 256 * (y &&& b) := by
  have hxa : x &&& a < 2 ^ 8 := Nat.lt_of_le_of_lt Nat.and_le_left hx
  rw [Nat.add_comm x, Nat.add_comm a, Nat.add_comm (x &&& a)]
  apply Nat.eq_of_testBit_eq
  intro i
  rw [Nat.testBit_and, show (256 : Nat) = 2 ^ 8 from rfl, Nat.testBit_two_pow_mul_add _ hx, Nat.testBit_two_pow_mul_add _ ha, Nat.testBit_two_pow_mul_add _ hxa]
  split
  · rw [Nat.testBit_and]
  · rw [Nat.testBit_and]
theorem bsu_and {w : Nat} (hw : w < 256) : ∀ (k : Nat) (f : Nat → Nat), (∀ j, f j < 256) → bsu f k &&& bsu (fun _ => w) k = bsu (fun j => f j &&& w) k
  | 0, f, hf => by simp [bsu]
  | k + 1, f, hf => by
    rw [bsu, bsu, bsu, and_split _ _ (hf 0) hw, bsu_and hw k (fun j => f (j + 1)) (fun j => hf (j + 1))]
set_option maxRecDepth 100000 in
theorem sh_dec1 : ∀ a : Fin 256, ∀ e : Fin 2, (a.val / 2 + 128 * e.val) &&& 85 = (a.val / 2) &&& 85 := by decide +kernel
set_option maxRecDepth 100000 in
theorem sh_dec2 : ∀ a : Fin 256, ∀ e : Fin 4, (a.val / 4 + 64 * e.val) &&& 51 = (a.val / 4) &&& 51 := by decide +kernel
theorem bsu_sh1 : ∀ (k : Nat) (f : Nat → Nat), (∀ j, f j < 256) → bsu f k / 2 &&& bsu (fun _ => 85) k = bsu (fun j => f j / 2 &&& 85) k
  | 0, f, hf => by simp [bsu]
  | k + 1, f, hf => by
    have h0 := hf 0
    rw [bsu, bsu, bsu, show (f 0 + 256 * bsu (fun j => f (j + 1)) k) / 2 = (f 0 / 2 + 128 * (bsu (fun j => f (j + 1)) k % 2)) + 256 * (bsu (fun j => f (j + 1)) k / 2) from by omega]
    rw [and_split _ _ (by omega) (by decide), bsu_sh1 k (fun j => f (j + 1)) (fun j => hf (j + 1))]
    have := sh_dec1 ⟨f 0, h0⟩ ⟨bsu (fun j => f (j + 1)) k % 2, Nat.mod_lt _ (by decide)⟩
    dsimp only at this
    rw [this]
theorem bsu_sh2 : ∀ (k : Nat) (f : Nat → Nat), (∀ j, f j < 256) → bsu f k / 4 &&& bsu (fun _ => 51) k = bsu (fun j => f j / 4 &&& 51) k
  | 0, f, hf => by simp [bsu]
  | k + 1, f, hf => by
    have h0 := hf 0
    rw [bsu, bsu, bsu, show (f 0 + 256 * bsu (fun j => f (j + 1)) k) / 4 = (f 0 / 4 + 64 * (bsu (fun j => f (j + 1)) k % 4)) + 256 * (bsu (fun j => f (j + 1)) k / 4) from by omega]
    rw [and_split _ _ (by omega) (by decide), bsu_sh2 k (fun j => f (j + 1)) (fun j => hf (j + 1))]
    have := sh_dec2 ⟨f 0, h0⟩ ⟨bsu (fun j => f (j + 1)) k % 4, Nat.mod_lt _ (by decide)⟩
    dsimp only at this
    rw [this]
theorem bsu_m16 : ∀ (k : Nat) (f : Nat → Nat), (∀ j, f j % 16 ≤ 4) → bsu f k % 16 ≤ 4
  | 0, f, hf => by rw [bsu]; decide
  | k + 1, f, hf => by
    have := hf 0
    rw [bsu]
    omega
theorem bsu_sh3 : ∀ (k : Nat) (f : Nat → Nat), (∀ j, f j ≤ 68) → (∀ j, f j % 16 ≤ 4) → (bsu f k + bsu f k / 16) &&& bsu (fun _ => 15) k = bsu (fun j => (f j + f j / 16) % 16) k
  | 0, f, hf, hm => by simp [bsu]
  | k + 1, f, hf, hm => by
    have h0 := hf 0
    have hr := bsu_m16 k (fun j => f (j + 1)) (fun j => hm (j + 1))
    rw [bsu, bsu, bsu, show (f 0 + 256 * bsu (fun j => f (j + 1)) k) + (f 0 + 256 * bsu (fun j => f (j + 1)) k) / 16 = (f 0 + f 0 / 16 + 16 * (bsu (fun j => f (j + 1)) k % 16)) + 256 * (bsu (fun j => f (j + 1)) k + bsu (fun j => f (j + 1)) k / 16) from by omega]
    rw [and_split _ _ (by omega) (by decide), bsu_sh3 k (fun j => f (j + 1)) (fun j => hf (j + 1)) (fun j => hm (j + 1))]
    rw [show (15 : Nat) = 2 ^ 4 - 1 from rfl, Nat.and_two_pow_sub_one_eq_mod]
    congr 1
    omega
theorem bsu_add : ∀ (k : Nat) (f g : Nat → Nat), bsu (fun j => f j + g j) k = bsu f k + bsu g k
  | 0, f, g => rfl
  | k + 1, f, g => by
    rw [bsu, bsu, bsu, bsu_add k (fun j => f (j + 1)) (fun j => g (j + 1))]
    omega
theorem bsu_cong : ∀ (k : Nat) (f g : Nat → Nat), (∀ j, f j = g j) → bsu f k = bsu g k
  | k, f, g, h => by rw [show f = g from funext h]
theorem bsu_lt : ∀ (k : Nat) (f : Nat → Nat), (∀ j, f j < 256) → bsu f k < 256 ^ k
  | 0, f, hf => by rw [bsu]; decide
  | k + 1, f, hf => by
    have := bsu_lt k (fun j => f (j + 1)) (fun j => hf (j + 1))
    have h0 := hf 0
    rw [bsu, Nat.pow_succ]
    omega
def bc1 (b : Nat) : Nat := b - (b / 2 &&& 85)
def bc2 (b : Nat) : Nat := (bc1 b &&& 51) + (bc1 b / 4 &&& 51)
set_option maxRecDepth 100000 in
theorem bc_dec : ∀ b : Fin 256, (b.val / 2 &&& 85) ≤ b.val ∧ bc1 b.val < 256 ∧ bc2 b.val ≤ 68 ∧ bc2 b.val % 16 ≤ 4 ∧ (bc2 b.val + bc2 b.val / 16) % 16 = pcN b.val := by decide +kernel
theorem bsu_last : ∀ (k : Nat) (f : Nat → Nat), bsu f (k + 1) = bsu f k + 256 ^ k * f k
  | 0, f => by simp [bsu]
  | k + 1, f => by
    have e1 : bsu f (k + 1 + 1) = f 0 + 256 * bsu (fun j => f (j + 1)) (k + 1) := by rw [bsu]
    have e2 : bsu f (k + 1) = f 0 + 256 * bsu (fun j => f (j + 1)) k := by rw [bsu]
    rw [e1, e2, bsu_last k (fun j => f (j + 1)), Nat.pow_succ, Nat.mul_add, Nat.add_assoc, Nat.mul_comm (256 ^ k) 256, Nat.mul_assoc]
theorem fgA_bsu {f : Nat → Nat} (hf : ∀ v, f v < 256) : ∀ n, fgA f n = bsu f n
  | 0 => by rw [fgA, bsu]
  | n + 1 => by
    have or_add : fgA f (n + 1) = fgA f n + f n * 2 ^ (8 * n) := by
      rw [fgA, Nat.or_comm, Nat.mul_comm (f n), ← Nat.two_pow_add_eq_or_of_lt (fgA_lt hf n), Nat.add_comm]
    rw [or_add, fgA_bsu hf n, bsu_last, show (256 : Nat) = 2 ^ 8 from rfl, ← Nat.pow_mul, Nat.mul_comm (f n)]
theorem bsu_div {f : Nat → Nat} (h0 : f 0 < 256) (h8 : ∀ j, 8 ≤ j → f j = 0) : bsu f 8 / 256 = bsu (fun j => f (j + 1)) 8 := by
  have e1 : bsu f 8 = f 0 + 256 * bsu (fun j => f (j + 1)) 7 := by rw [bsu]
  have e2 : bsu (fun j => f (j + 1)) 8 = bsu (fun j => f (j + 1)) 7 + 256 ^ 7 * f 8 := bsu_last 7 (fun j => f (j + 1))
  rw [e1, e2, h8 8 (Nat.le_refl 8), Nat.mul_zero, Nat.add_zero (bsu (fun j => f (j + 1)) 7), Nat.add_mul_div_left _ _ (by decide), Nat.div_eq_of_lt h0, Nat.zero_add]
theorem bsu_div2 {f : Nat → Nat} (h0 : ∀ j, f j < 256) (h8 : ∀ j, 8 ≤ j → f j = 0) : bsu f 8 / 65536 = bsu (fun j => f (j + 2)) 8 := by
  rw [show 65536 = 256 * 256 from rfl, ← Nat.div_div_eq_div_mul, bsu_div (h0 0) h8, bsu_div (h0 1) (fun j hj => h8 (j + 1) (by omega))]
theorem bsu_div4 {f : Nat → Nat} (h0 : ∀ j, f j < 256) (h8 : ∀ j, 8 ≤ j → f j = 0) : bsu f 8 / 4294967296 = bsu (fun j => f (j + 4)) 8 := by
  rw [show 4294967296 = 65536 * 65536 from rfl, ← Nat.div_div_eq_div_mul, bsu_div2 h0 h8, bsu_div2 (fun j => h0 (j + 2)) (fun j hj => h8 (j + 2) (by omega))]
theorem bsu_congK : ∀ (k : Nat) (f g : Nat → Nat), (∀ j, j < k → f j = g j) → bsu f k = bsu g k
  | 0, f, g, h => by rw [bsu, bsu]
  | k + 1, f, g, h => by
    rw [bsu, bsu, h 0 (by omega), bsu_congK k (fun j => f (j + 1)) (fun j => g (j + 1)) (fun j hj => h (j + 1) (by omega))]
def M85 : Nat := 6148914691236517205
def M51 : Nat := 3689348814741910323
def M15 : Nat := 1085102592571150095
theorem M85_e : bsu (fun _ => 85) 8 = M85 := by decide +kernel
theorem M51_e : bsu (fun _ => 51) 8 = M51 := by decide +kernel
theorem M15_e : bsu (fun _ => 15) 8 = M15 := by decide +kernel
theorem M85_l : (6148914691236517205 : Int64) = lN M85 := by decide +kernel
theorem M51_l : (3689348814741910323 : Int64) = lN M51 := by decide +kernel
theorem M15_l : (1085102592571150095 : Int64) = lN M15 := by decide +kernel
theorem p88 : (256 : Nat) ^ 8 = 2 ^ 64 := by decide +kernel
theorem sh64 {n : Nat} (k : Nat) (hn : n < 2 ^ 64) (hk : k < 64) : ((lN n).toUInt64 >>> ((nI k).toInt64.toUInt64 &&& Int64.toUInt64 63)).toInt64 = lN (n / 2 ^ k) := wb_shr hn hk
section BC
variable {f : Nat → Nat}
theorem bc_s1 (hf : ∀ v, f v < 256) : lN (bsu f 8) - (((lN (bsu f 8)).toUInt64 >>> ((1 : Int32).toInt64.toUInt64 &&& Int64.toUInt64 63)).toInt64 &&& (6148914691236517205 : Int64)) = lN (bsu (fun v => bc1 (f v)) 8) := by
  have l0 := bsu_lt 8 f hf
  rw [p88] at l0
  have n1 : bsu (fun v => bc1 (f v)) 8 + bsu (fun v => f v / 2 &&& 85) 8 = bsu f 8 := by
    rw [← bsu_add]
    refine bsu_cong _ _ _ (fun j => ?_)
    have := (bc_dec ⟨f j, hf j⟩).1
    dsimp only at this
    unfold bc1
    omega
  rw [show ((1 : Int32)) = nI 1 from rfl, sh64 1 l0 (by decide), M85_l, fb_andL, show (2 : Nat) ^ 1 = 2 from rfl, ← M85_e, bsu_sh1 8 f hf, ← n1, lN_sub (Nat.le_add_left _ _), Nat.add_sub_cancel]
theorem bc_s2 (hf : ∀ v, f v < 256) : (lN (bsu f 8) &&& (3689348814741910323 : Int64)) + (((lN (bsu f 8)).toUInt64 >>> ((2 : Int32).toInt64.toUInt64 &&& Int64.toUInt64 63)).toInt64 &&& (3689348814741910323 : Int64)) = lN (bsu (fun v => (f v &&& 51) + (f v / 4 &&& 51)) 8) := by
  have l0 := bsu_lt 8 f hf
  rw [p88] at l0
  rw [show ((2 : Int32)) = nI 2 from rfl, sh64 2 l0 (by decide), M51_l, fb_andL, fb_andL, show (2 : Nat) ^ 2 = 4 from rfl, ← M51_e, bsu_sh2 8 f hf, bsu_and (by decide) 8 f hf, lN_add, ← bsu_add]
theorem bc_s3 (hf : ∀ j, f j ≤ 68) (hm : ∀ j, f j % 16 ≤ 4) : (lN (bsu f 8) + ((lN (bsu f 8)).toUInt64 >>> ((4 : Int32).toInt64.toUInt64 &&& Int64.toUInt64 63)).toInt64) &&& (1085102592571150095 : Int64) = lN (bsu (fun j => (f j + f j / 16) % 16) 8) := by
  have l0 := bsu_lt 8 f (fun j => by have := hf j; omega)
  rw [p88] at l0
  rw [show ((4 : Int32)) = nI 4 from rfl, sh64 4 l0 (by decide), M15_l, lN_add, fb_andL, show (2 : Nat) ^ 4 = 16 from rfl, ← M15_e, bsu_sh3 8 f hf hm]
theorem bc_s4 (hf : ∀ j, f j < 256) (h8 : ∀ j, 8 ≤ j → f j = 0) : lN (bsu f 8) + ((lN (bsu f 8)).toUInt64 >>> ((8 : Int32).toInt64.toUInt64 &&& Int64.toUInt64 63)).toInt64 = lN (bsu (fun j => f j + f (j + 1)) 8) := by
  have l0 := bsu_lt 8 f hf
  rw [p88] at l0
  rw [show ((8 : Int32)) = nI 8 from rfl, sh64 8 l0 (by decide), lN_add, show (2 : Nat) ^ 8 = 256 from rfl, bsu_div (hf 0) h8, ← bsu_add]
theorem bc_s5 (hf : ∀ j, f j < 256) (h8 : ∀ j, 8 ≤ j → f j = 0) : lN (bsu f 8) + ((lN (bsu f 8)).toUInt64 >>> ((16 : Int32).toInt64.toUInt64 &&& Int64.toUInt64 63)).toInt64 = lN (bsu (fun j => f j + f (j + 2)) 8) := by
  have l0 := bsu_lt 8 f hf
  rw [p88] at l0
  rw [show ((16 : Int32)) = nI 16 from rfl, sh64 16 l0 (by decide), lN_add, show (2 : Nat) ^ 16 = 65536 from rfl, bsu_div2 hf h8, ← bsu_add]
theorem bc_s6 (hf : ∀ j, f j < 256) (h8 : ∀ j, 8 ≤ j → f j = 0) : lN (bsu f 8) + ((lN (bsu f 8)).toUInt64 >>> ((32 : Int32).toInt64.toUInt64 &&& Int64.toUInt64 63)).toInt64 = lN (bsu (fun j => f j + f (j + 4)) 8) := by
  have l0 := bsu_lt 8 f hf
  rw [p88] at l0
  rw [show ((32 : Int32)) = nI 32 from rfl, sh64 32 l0 (by decide), lN_add, show (2 : Nat) ^ 32 = 4294967296 from rfl, bsu_div4 hf h8, ← bsu_add]
end BC
def pz (f : Nat → Nat) (j : Nat) : Nat := if j < 8 then pcN (f j) else 0
theorem pz_le (f : Nat → Nat) (j : Nat) : pz f j ≤ 8 := by
  unfold pz
  split
  · exact pc_le _
  · omega
theorem pz_8 (f : Nat → Nat) (j : Nat) (h : 8 ≤ j) : pz f j = 0 := if_neg (by omega)
theorem pz_sum (f : Nat → Nat) : fb_sm (fun v => pcN (f v)) 8 = pz f 0 + pz f 1 + pz f 2 + pz f 3 + pz f 4 + pz f 5 + pz f 6 + pz f 7 := by
  have e : ∀ j, j < 8 → pcN (f j) = pz f j := fun j hj => (if_pos hj).symm
  rw [fb_sm_succ, fb_sm_succ, fb_sm_succ, fb_sm_succ, fb_sm_succ, fb_sm_succ, fb_sm_succ, fb_sm_succ, e 0 (by decide), e 1 (by decide), e 2 (by decide), e 3 (by decide), e 4 (by decide), e 5 (by decide), e 6 (by decide), e 7 (by decide), fb_sm, Nat.zero_add]
theorem v_bitCount64 {f : Nat → Nat} (hf : ∀ v, f v < 256) {post : Int32 → Prop} (h : post (nI (fb_sm (fun v => pcN (f v)) 8))) : P_J13_bitCount_95d88 (lN (fgA f 8)) post := by
  rw [fgA_bsu hf]
  intro y1 e1
  rw [bc_s1 hf] at e1
  subst e1
  intro y2 e2
  rw [bc_s2 (f := fun v => bc1 (f v)) (fun j => (bc_dec ⟨f j, hf j⟩).2.1)] at e2
  subst e2
  intro y3 e3
  rw [bc_s3 (f := fun v => (bc1 (f v) &&& 51) + (bc1 (f v) / 4 &&& 51)) (fun j => (bc_dec ⟨f j, hf j⟩).2.2.1) (fun j => (bc_dec ⟨f j, hf j⟩).2.2.2.1)] at e3
  rw [bsu_congK 8 _ (pz f) (fun j hj => by
    unfold pz
    rw [if_pos hj]
    exact (bc_dec ⟨f j, hf j⟩).2.2.2.2)] at e3
  subst e3
  have h4 : ∀ j, pz f j + pz f (j + 1) ≤ 16 := fun j => by have := pz_le f j; have := pz_le f (j + 1); omega
  have h5 : ∀ j, pz f j + pz f (j + 1) + (pz f (j + 2) + pz f (j + 2 + 1)) ≤ 32 := fun j => by have := h4 j; have := h4 (j + 2); omega
  intro y4 e4
  rw [bc_s4 (f := pz f) (fun j => by have := pz_le f j; omega) (pz_8 f)] at e4
  subst e4
  intro y5 e5
  rw [bc_s5 (f := fun j => pz f j + pz f (j + 1)) (fun j => by have := h4 j; omega) (fun j hj => by rw [pz_8 f j hj, pz_8 f (j + 1) (by omega)])] at e5
  subst e5
  intro y6 e6
  rw [bc_s6 (f := fun j => pz f j + pz f (j + 1) + (pz f (j + 2) + pz f (j + 2 + 1))) (fun j => by have := h5 j; omega) (fun j hj => by rw [pz_8 f j hj, pz_8 f (j + 1) (by omega), pz_8 f (j + 2) (by omega), pz_8 f (j + 2 + 1) (by omega)])] at e6
  subst e6
  rw [lN_i, show (127 : Int32) = nI (2 ^ 7 - 1) from rfl, fa_mask]
  have hb0 := h5 0
  have hb4 := h5 (0 + 4)
  have f7 : ∀ a b : Nat, a < 128 → (a + 256 * b) % 2 ^ 7 = a := fun a b ha => by
    rw [show (2 : Nat) ^ 7 = 128 from rfl]; omega
  rw [bsu, f7 _ _ (by omega)]
  rw [pz_sum] at h
  have e : pz f 0 + pz f 1 + pz f 2 + pz f 3 + pz f 4 + pz f 5 + pz f 6 + pz f 7 = pz f 0 + pz f (0 + 1) + (pz f (0 + 2) + pz f (0 + 2 + 1)) + (pz f (0 + 4) + pz f (0 + 4 + 1) + (pz f (0 + 4 + 2) + pz f (0 + 4 + 2 + 1))) := by
    show _ = pz f 0 + pz f 1 + (pz f 2 + pz f 3) + (pz f 4 + pz f 5 + (pz f 6 + pz f 7))
    omega
  rw [e] at h
  exact h
theorem fg_cnt {f : Nat → Nat} (hf : ∀ v, f v < 256) : ∀ j, j ≤ 8 → fa_cnt (fun k => (fgA f 8).testBit k) (8 * j) = fb_sm (fun v => pcN (f v)) j
  | 0, _ => rfl
  | j + 1, hj => by
    rw [fb_sm_succ, ← fg_cnt hf j (by omega)]
    have key : ∀ z, z ≤ 8 → fa_cnt (fun k => (fgA f 8).testBit k) (8 * j + z) = fa_cnt (fun k => (fgA f 8).testBit k) (8 * j) + fa_cnt (fun z => (f j).testBit z) z := by
      intro z
      induction z with
      | zero => intro _; rfl
      | succ z ih =>
        intro hz
        show fa_cnt (fun k => (fgA f 8).testBit k) (8 * j + z + 1) = _
        rw [fa_cnt, ih (by omega), fa_cnt]
        have : (fgA f 8).testBit (8 * j + z) = (f j).testBit z := by
          rw [fgA_bit hf, show (8 * j + z) / 8 = j from by omega, show (8 * j + z) % 8 = z from by omega, decide_eq_true (by omega), Bool.true_and]
        rw [this, Nat.add_assoc]
    have := key 8 (Nat.le_refl 8)
    rw [show 8 * (j + 1) = 8 * j + 8 from by omega, this]
    rfl
