/-! the count of the bits of a word, byte by byte -/
def bsu (f : Nat → Nat) : Nat → Nat
  | 0 => 0
  | k + 1 => f 0 + 256 * bsu (fun j => f (j + 1)) k
  termination_by structural k => k
theorem and_split {x a : Nat} (y b : Nat) (hx : x < 256) (ha : a < 256) : (x + 256 * y) &&& (a + 256 * b) = (x &&& a) + 256 * (y &&& b) := by
  have hxa : x &&& a < 2 ^ 8 := Nat.lt_of_le_of_lt Nat.and_le_left hx
  rw [Nat.add_comm x, Nat.add_comm a, Nat.add_comm (x &&& a)]
  apply Nat.eq_of_testBit_eq
  intro i
  rw [Nat.testBit_and, show (256 : Nat) = 2 ^ 8 from rfl, Nat.testBit_two_pow_mul_add _ hx, Nat.testBit_two_pow_mul_add _ ha, Nat.testBit_two_pow_mul_add _ hxa]
  split
  · rw [Nat.testBit_and]
  · rw [Nat.testBit_and]
theorem bsu_and {w : Nat} (hw : w < 256) : ∀ (k : Nat) (f : Nat → Nat), (∀ j, f j < 256) → bsu f k &&& bsu (fun _ => w) k = bsu (fun j => f j &&& w) k
  | 0, f, hf => by simp [bsu]
  | k + 1, f, hf => by
    rw [bsu, bsu, bsu, and_split _ _ (hf 0) hw, bsu_and hw k (fun j => f (j + 1)) (fun j => hf (j + 1))]
set_option maxRecDepth 100000 in
theorem sh_dec1 : ∀ a : Fin 256, ∀ e : Fin 2, (a.val / 2 + 128 * e.val) &&& 85 = (a.val / 2) &&& 85 := by decide +kernel
set_option maxRecDepth 100000 in
theorem sh_dec2 : ∀ a : Fin 256, ∀ e : Fin 4, (a.val / 4 + 64 * e.val) &&& 51 = (a.val / 4) &&& 51 := by decide +kernel
theorem bsu_sh1 : ∀ (k : Nat) (f : Nat → Nat), (∀ j, f j < 256) → bsu f k / 2 &&& bsu (fun _ => 85) k = bsu (fun j => f j / 2 &&& 85) k
  | 0, f, hf => by simp [bsu]
  | k + 1, f, hf => by
    have h0 := hf 0
    rw [bsu, bsu, bsu, show (f 0 + 256 * bsu (fun j => f (j + 1)) k) / 2 = (f 0 / 2 + 128 * (bsu (fun j => f (j + 1)) k % 2)) + 256 * (bsu (fun j => f (j + 1)) k / 2) from by omega]
    rw [and_split _ _ (by omega) (by decide), bsu_sh1 k (fun j => f (j + 1)) (fun j => hf (j + 1))]
    have := sh_dec1 ⟨f 0, h0⟩ ⟨bsu (fun j => f (j + 1)) k % 2, Nat.mod_lt _ (by decide)⟩
    dsimp only at this
    rw [this]
theorem bsu_sh2 : ∀ (k : Nat) (f : Nat → Nat), (∀ j, f j < 256) → bsu f k / 4 &&& bsu (fun _ => 51) k = bsu (fun j => f j / 4 &&& 51) k
  | 0, f, hf => by simp [bsu]
  | k + 1, f, hf => by
    have h0 := hf 0
    rw [bsu, bsu, bsu, show (f 0 + 256 * bsu (fun j => f (j + 1)) k) / 4 = (f 0 / 4 + 64 * (bsu (fun j => f (j + 1)) k % 4)) + 256 * (bsu (fun j => f (j + 1)) k / 4) from by omega]
    rw [and_split _ _ (by omega) (by decide), bsu_sh2 k (fun j => f (j + 1)) (fun j => hf (j + 1))]
    have := sh_dec2 ⟨f 0, h0⟩ ⟨bsu (fun j => f (j + 1)) k % 4, Nat.mod_lt _ (by decide)⟩
    dsimp only at this
    rw [this]
theorem bsu_m16 : ∀ (k : Nat) (f : Nat → Nat), (∀ j, f j % 16 ≤ 4) → bsu f k % 16 ≤ 4
  | 0, f, hf => by rw [bsu]; decide
  | k + 1, f, hf => by
    have := hf 0
    rw [bsu]
    omega
theorem bsu_sh3 : ∀ (k : Nat) (f : Nat → Nat), (∀ j, f j ≤ 68) → (∀ j, f j % 16 ≤ 4) → (bsu f k + bsu f k / 16) &&& bsu (fun _ => 15) k = bsu (fun j => (f j + f j / 16) % 16) k
  | 0, f, hf, hm => by simp [bsu]
  | k + 1, f, hf, hm => by
    have h0 := hf 0
    have hr := bsu_m16 k (fun j => f (j + 1)) (fun j => hm (j + 1))
    rw [bsu, bsu, bsu, show (f 0 + 256 * bsu (fun j => f (j + 1)) k) + (f 0 + 256 * bsu (fun j => f (j + 1)) k) / 16 = (f 0 + f 0 / 16 + 16 * (bsu (fun j => f (j + 1)) k % 16)) + 256 * (bsu (fun j => f (j + 1)) k + bsu (fun j => f (j + 1)) k / 16) from by omega]
    rw [and_split _ _ (by omega) (by decide), bsu_sh3 k (fun j => f (j + 1)) (fun j => hf (j + 1)) (fun j => hm (j + 1))]
    rw [show (15 : Nat) = 2 ^ 4 - 1 from rfl, Nat.and_two_pow_sub_one_eq_mod]
    congr 1
    omega
theorem bsu_add : ∀ (k : Nat) (f g : Nat → Nat), bsu (fun j => f j + g j) k = bsu f k + bsu g k
  | 0, f, g => rfl
  | k + 1, f, g => by
    rw [bsu, bsu, bsu, bsu_add k (fun j => f (j + 1)) (fun j => g (j + 1))]
    omega
theorem bsu_cong : ∀ (k : Nat) (f g : Nat → Nat), (∀ j, f j = g j) → bsu f k = bsu g k
  | k, f, g, h => by rw [show f = g from funext h]
theorem bsu_lt : ∀ (k : Nat) (f : Nat → Nat), (∀ j, f j < 256) → bsu f k < 256 ^ k
  | 0, f, hf => by rw [bsu]; decide
  | k + 1, f, hf => by
    have := bsu_lt k (fun j => f (j + 1)) (fun j => hf (j + 1))
    have h0 := hf 0
    rw [bsu, Nat.pow_succ]
    omega
def bc1 (b : Nat) : Nat := b - (b / 2 &&& 85)
def bc2 (b : Nat) : Nat := (bc1 b &&& 51) + (bc1 b / 4 &&& 51)
set_option maxRecDepth 100000 in
theorem bc_dec : ∀ b : Fin 256, (b.val / 2 &&& 85) ≤ b.val ∧ bc1 b.val < 256 ∧ bc2 b.val ≤ 68 ∧ bc2 b.val % 16 ≤ 4 ∧ (bc2 b.val + bc2 b.val / 16) % 16 = pcN b.val := by decide +kernel
theorem fgA_bsu {f : Nat → Nat} (hf : ∀ v, f v < 256) : fgA f 8 = bsu f 8 := by
  have or_add : ∀ n, fgA f (n + 1) = fgA f n + f n * 2 ^ (8 * n) := by
    intro n
    rw [fgA, Nat.or_comm, Nat.mul_comm (f n), ← Nat.two_pow_add_eq_or_of_lt (fgA_lt hf n), Nat.add_comm]
  have hb : bsu f 8 = f 0 + 256 * (f 1 + 256 * (f 2 + 256 * (f 3 + 256 * (f 4 + 256 * (f 5 + 256 * (f 6 + 256 * (f 7 + 256 * 0))))))) := rfl
  rw [or_add 7, or_add 6, or_add 5, or_add 4, or_add 3, or_add 2, or_add 1, or_add 0, hb, show fgA f 0 = 0 from rfl]
  omega
theorem v_bitCount64 {f : Nat → Nat} (hf : ∀ v, f v < 256) {post : Int32 → Prop} (h : post (nI (fb_sm (fun v => pcN (f v)) 8))) : P_J13_bitCount_95d88 (lN (fgA f 8)) post := by
  have d := fun v => bc_dec ⟨f v, hf v⟩
  dsimp only at d
  have hM1 : (6148914691236517205 : Int64) = lN (bsu (fun _ => 85) 8) := by decide
  have hM2 : (3689348814741910323 : Int64) = lN (bsu (fun _ => 51) 8) := by decide
  have hM3 : (1085102592571150095 : Int64) = lN (bsu (fun _ => 15) 8) := by decide
  have p8 : (256 : Nat) ^ 8 = 2 ^ 64 := by decide
  have n1 : bsu (fun v => bc1 (f v)) 8 + bsu (fun v => f v / 2 &&& 85) 8 = bsu f 8 := by
    rw [← bsu_add]
    refine bsu_cong _ _ _ (fun j => ?_)
    have := (d j).1
    unfold bc1
    omega
  have l1 := bsu_lt 8 (fun v => bc1 (f v)) (fun j => (d j).2.1)
  have l2 := bsu_lt 8 (fun v => bc2 (f v)) (fun j => by have := (d j).2.2.1; omega)
  have l0 := bsu_lt 8 f hf
  have hp8 : ∀ v, pcN (f v) ≤ 8 := fun v => pc_le (f v)
  have l3 := bsu_lt 8 (fun v => pcN (f v)) (fun j => by have := hp8 j; omega)
  rw [p8] at l0 l1 l2 l3
  have sh : ∀ {n : Nat} (k : Nat), n < 2 ^ 64 → k < 64 → ((lN n).toUInt64 >>> ((nI k).toInt64.toUInt64 &&& Int64.toUInt64 63)).toInt64 = lN (n / 2 ^ k) := fun k hn hk => wb_shr hn hk
  rw [fgA_bsu hf]
  intro y1 e1
  have e1 : y1 = lN (bsu (fun v => bc1 (f v)) 8) := by
    rw [e1, hM1, show ((1 : Int32)) = nI 1 from rfl, sh 1 l0 (by decide), fb_andL, show (2 : Nat) ^ 1 = 2 from rfl, bsu_sh1 8 f hf, lN_sub (by omega)]
    exact congrArg lN (by omega)
  subst e1
  intro y2 e2
  have e2 : y2 = lN (bsu (fun v => bc2 (f v)) 8) := by
    rw [e2, hM2, show ((2 : Int32)) = nI 2 from rfl, sh 2 l1 (by decide), fb_andL, fb_andL, show (2 : Nat) ^ 2 = 4 from rfl, bsu_sh2 8 _ (fun j => (d j).2.1), bsu_and (by decide) 8 _ (fun j => (d j).2.1), lN_add, ← bsu_add]
    rfl
  subst e2
  intro y3 e3
  have e3 : y3 = lN (bsu (fun v => pcN (f v)) 8) := by
    rw [e3, hM3, show ((4 : Int32)) = nI 4 from rfl, sh 4 l2 (by decide), lN_add, fb_andL, show (2 : Nat) ^ 4 = 16 from rfl, bsu_sh3 8 _ (fun j => (d j).2.2.1) (fun j => (d j).2.2.2.1)]
    exact congrArg lN (bsu_cong _ _ _ (fun j => (d j).2.2.2.2))
  subst e3
  have hs : bsu (fun v => pcN (f v)) 8 = pcN (f 0) + 256 * (pcN (f 1) + 256 * (pcN (f 2) + 256 * (pcN (f 3) + 256 * (pcN (f 4) + 256 * (pcN (f 5) + 256 * (pcN (f 6) + 256 * (pcN (f 7) + 256 * 0))))))) := rfl
  have hsm : fb_sm (fun v => pcN (f v)) 8 = 0 + pcN (f 0) + pcN (f 1) + pcN (f 2) + pcN (f 3) + pcN (f 4) + pcN (f 5) + pcN (f 6) + pcN (f 7) := rfl
  have q0 := hp8 0
  have q1 := hp8 1
  have q2 := hp8 2
  have q3 := hp8 3
  have q4 := hp8 4
  have q5 := hp8 5
  have q6 := hp8 6
  have q7 := hp8 7
  rw [hs]
  rw [hsm] at h
  generalize pcN (f 0) = p0 at *
  generalize pcN (f 1) = p1 at *
  generalize pcN (f 2) = p2 at *
  generalize pcN (f 3) = p3 at *
  generalize pcN (f 4) = p4 at *
  generalize pcN (f 5) = p5 at *
  generalize pcN (f 6) = p6 at *
  generalize pcN (f 7) = p7 at *
  have f4 : (p0 + 256 * (p1 + 256 * (p2 + 256 * (p3 + 256 * (p4 + 256 * (p5 + 256 * (p6 + 256 * (p7 + 256 * 0)))))))) + (p0 + 256 * (p1 + 256 * (p2 + 256 * (p3 + 256 * (p4 + 256 * (p5 + 256 * (p6 + 256 * (p7 + 256 * 0)))))))) / 256 = (p0 + p1) + 256 * ((p1 + p2) + 256 * ((p2 + p3) + 256 * ((p3 + p4) + 256 * ((p4 + p5) + 256 * ((p5 + p6) + 256 * ((p6 + p7) + 256 * p7)))))) := by omega
  intro y4 e4
  rw [show ((8 : Int32)) = nI 8 from rfl, sh 8 (by omega) (by decide), lN_add, show (2 : Nat) ^ 8 = 256 from rfl, f4] at e4
  subst e4
  have f5 : ((p0 + p1) + 256 * ((p1 + p2) + 256 * ((p2 + p3) + 256 * ((p3 + p4) + 256 * ((p4 + p5) + 256 * ((p5 + p6) + 256 * ((p6 + p7) + 256 * p7))))))) / 65536 = (p2 + p3) + 256 * ((p3 + p4) + 256 * ((p4 + p5) + 256 * ((p5 + p6) + 256 * ((p6 + p7) + 256 * p7)))) := by omega
  intro y5 e5
  rw [show ((16 : Int32)) = nI 16 from rfl, sh 16 (by omega) (by decide), lN_add, show (2 : Nat) ^ 16 = 65536 from rfl, f5] at e5
  have f5b : ((p0 + p1) + 256 * ((p1 + p2) + 256 * ((p2 + p3) + 256 * ((p3 + p4) + 256 * ((p4 + p5) + 256 * ((p5 + p6) + 256 * ((p6 + p7) + 256 * p7))))))) + ((p2 + p3) + 256 * ((p3 + p4) + 256 * ((p4 + p5) + 256 * ((p5 + p6) + 256 * ((p6 + p7) + 256 * p7))))) = (p0 + p1 + p2 + p3) + 256 * ((p1 + p2 + p3 + p4) + 256 * ((p2 + p3 + p4 + p5) + 256 * ((p3 + p4 + p5 + p6) + 256 * ((p4 + p5 + p6 + p7) + 256 * ((p5 + p6 + p7) + 256 * ((p6 + p7) + 256 * p7)))))) := by omega
  rw [f5b] at e5
  subst e5
  have f6 : ((p0 + p1 + p2 + p3) + 256 * ((p1 + p2 + p3 + p4) + 256 * ((p2 + p3 + p4 + p5) + 256 * ((p3 + p4 + p5 + p6) + 256 * ((p4 + p5 + p6 + p7) + 256 * ((p5 + p6 + p7) + 256 * ((p6 + p7) + 256 * p7))))))) / 4294967296 = (p4 + p5 + p6 + p7) + 256 * ((p5 + p6 + p7) + 256 * ((p6 + p7) + 256 * p7)) := by omega
  intro y6 e6
  rw [show ((32 : Int32)) = nI 32 from rfl, sh 32 (by omega) (by decide), lN_add, show (2 : Nat) ^ 32 = 4294967296 from rfl, f6] at e6
  subst e6
  rw [lN_i, show (127 : Int32) = nI (2 ^ 7 - 1) from rfl, fa_mask]
  have f7 : ((p0 + p1 + p2 + p3) + 256 * ((p1 + p2 + p3 + p4) + 256 * ((p2 + p3 + p4 + p5) + 256 * ((p3 + p4 + p5 + p6) + 256 * ((p4 + p5 + p6 + p7) + 256 * ((p5 + p6 + p7) + 256 * ((p6 + p7) + 256 * p7)))))) + ((p4 + p5 + p6 + p7) + 256 * ((p5 + p6 + p7) + 256 * ((p6 + p7) + 256 * p7)))) % 2 ^ 7 = 0 + p0 + p1 + p2 + p3 + p4 + p5 + p6 + p7 := by omega
  rw [f7]
  exact h
theorem fg_cnt {f : Nat → Nat} (hf : ∀ v, f v < 256) : ∀ j, j ≤ 8 → fa_cnt (fun k => (fgA f 8).testBit k) (8 * j) = fb_sm (fun v => pcN (f v)) j
  | 0, _ => rfl
  | j + 1, hj => by
    rw [fb_sm_succ, ← fg_cnt hf j (by omega)]
    have key : ∀ z, z ≤ 8 → fa_cnt (fun k => (fgA f 8).testBit k) (8 * j + z) = fa_cnt (fun k => (fgA f 8).testBit k) (8 * j) + fa_cnt (fun z => (f j).testBit z) z := by
      intro z
      induction z with
      | zero => intro _; rfl
      | succ z ih =>
        intro hz
        show fa_cnt (fun k => (fgA f 8).testBit k) (8 * j + z + 1) = _
        rw [fa_cnt, ih (by omega), fa_cnt]
        have : (fgA f 8).testBit (8 * j + z) = (f j).testBit z := by
          rw [fgA_bit hf, show (8 * j + z) / 8 = j from by omega, show (8 * j + z) % 8 = z from by omega, decide_eq_true (by omega), Bool.true_and]
        rw [this, Nat.add_assoc]
    have := key 8 (Nat.le_refl 8)
    rw [show 8 * (j + 1) = 8 * j + 8 from by omega, this]
    rfl
