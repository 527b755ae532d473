/-! what the walks share: worlds, joins, calls -/
abbrev St : Type := (Nat → Int32) × (Nat → Nat → Int32)
theorem br1 {c A B : Prop} [Decidable c] (h : if c then A else B) (hc : c) : A := by rw [if_pos hc] at h; exact h
theorem br2 {c A B : Prop} [Decidable c] (h : if c then A else B) (hc : ¬ c) : B := by rw [if_neg hc] at h; exact h
def jn0 (rest : Prop) (body : Prop → Prop) : Prop := body rest
theorem jnE0 {rest : Prop} {body : Prop → Prop} (h : jn0 rest body) : ∃ J : Prop, (J → rest) ∧ body J := ⟨rest, id, h⟩
def jn1 {a1 : Type} (rest : a1 → Prop) (body : (a1 → Prop) → Prop) : Prop := body rest
theorem jnE1 {a1 : Type} {rest : a1 → Prop} {body : (a1 → Prop) → Prop} (h : jn1 rest body) : ∃ J : a1 → Prop, (∀ x1, J x1 → rest x1) ∧ body J := ⟨rest, fun x1 h => h, h⟩
def jn2 {a1 a2 : Type} (rest : a1 → a2 → Prop) (body : (a1 → a2 → Prop) → Prop) : Prop := body rest
theorem jnE2 {a1 a2 : Type} {rest : a1 → a2 → Prop} {body : (a1 → a2 → Prop) → Prop} (h : jn2 rest body) : ∃ J : a1 → a2 → Prop, (∀ x1 x2, J x1 x2 → rest x1 x2) ∧ body J := ⟨rest, fun x1 x2 h => h, h⟩
def jn3 {a1 a2 a3 : Type} (rest : a1 → a2 → a3 → Prop) (body : (a1 → a2 → a3 → Prop) → Prop) : Prop := body rest
theorem jnE3 {a1 a2 a3 : Type} {rest : a1 → a2 → a3 → Prop} {body : (a1 → a2 → a3 → Prop) → Prop} (h : jn3 rest body) : ∃ J : a1 → a2 → a3 → Prop, (∀ x1 x2 x3, J x1 x2 x3 → rest x1 x2 x3) ∧ body J := ⟨rest, fun x1 x2 x3 h => h, h⟩
def jn4 {a1 a2 a3 a4 : Type} (rest : a1 → a2 → a3 → a4 → Prop) (body : (a1 → a2 → a3 → a4 → Prop) → Prop) : Prop := body rest
theorem jnE4 {a1 a2 a3 a4 : Type} {rest : a1 → a2 → a3 → a4 → Prop} {body : (a1 → a2 → a3 → a4 → Prop) → Prop} (h : jn4 rest body) : ∃ J : a1 → a2 → a3 → a4 → Prop, (∀ x1 x2 x3 x4, J x1 x2 x3 x4 → rest x1 x2 x3 x4) ∧ body J := ⟨rest, fun x1 x2 x3 x4 h => h, h⟩
def jn5 {a1 a2 a3 a4 a5 : Type} (rest : a1 → a2 → a3 → a4 → a5 → Prop) (body : (a1 → a2 → a3 → a4 → a5 → Prop) → Prop) : Prop := body rest
theorem jnE5 {a1 a2 a3 a4 a5 : Type} {rest : a1 → a2 → a3 → a4 → a5 → Prop} {body : (a1 → a2 → a3 → a4 → a5 → Prop) → Prop} (h : jn5 rest body) : ∃ J : a1 → a2 → a3 → a4 → a5 → Prop, (∀ x1 x2 x3 x4 x5, J x1 x2 x3 x4 x5 → rest x1 x2 x3 x4 x5) ∧ body J := ⟨rest, fun x1 x2 x3 x4 x5 h => h, h⟩
def jn6 {a1 a2 a3 a4 a5 a6 : Type} (rest : a1 → a2 → a3 → a4 → a5 → a6 → Prop) (body : (a1 → a2 → a3 → a4 → a5 → a6 → Prop) → Prop) : Prop := body rest
theorem jnE6 {a1 a2 a3 a4 a5 a6 : Type} {rest : a1 → a2 → a3 → a4 → a5 → a6 → Prop} {body : (a1 → a2 → a3 → a4 → a5 → a6 → Prop) → Prop} (h : jn6 rest body) : ∃ J : a1 → a2 → a3 → a4 → a5 → a6 → Prop, (∀ x1 x2 x3 x4 x5 x6, J x1 x2 x3 x4 x5 x6 → rest x1 x2 x3 x4 x5 x6) ∧ body J := ⟨rest, fun x1 x2 x3 x4 x5 x6 h => h, h⟩
def jn7 {a1 a2 a3 a4 a5 a6 a7 : Type} (rest : a1 → a2 → a3 → a4 → a5 → a6 → a7 → Prop) (body : (a1 → a2 → a3 → a4 → a5 → a6 → a7 → Prop) → Prop) : Prop := body rest
theorem jnE7 {a1 a2 a3 a4 a5 a6 a7 : Type} {rest : a1 → a2 → a3 → a4 → a5 → a6 → a7 → Prop} {body : (a1 → a2 → a3 → a4 → a5 → a6 → a7 → Prop) → Prop} (h : jn7 rest body) : ∃ J : a1 → a2 → a3 → a4 → a5 → a6 → a7 → Prop, (∀ x1 x2 x3 x4 x5 x6 x7, J x1 x2 x3 x4 x5 x6 x7 → rest x1 x2 x3 x4 x5 x6 x7) ∧ body J := ⟨rest, fun x1 x2 x3 x4 x5 x6 x7 h => h, h⟩
def jn8 {a1 a2 a3 a4 a5 a6 a7 a8 : Type} (rest : a1 → a2 → a3 → a4 → a5 → a6 → a7 → a8 → Prop) (body : (a1 → a2 → a3 → a4 → a5 → a6 → a7 → a8 → Prop) → Prop) : Prop := body rest
theorem jnE8 {a1 a2 a3 a4 a5 a6 a7 a8 : Type} {rest : a1 → a2 → a3 → a4 → a5 → a6 → a7 → a8 → Prop} {body : (a1 → a2 → a3 → a4 → a5 → a6 → a7 → a8 → Prop) → Prop} (h : jn8 rest body) : ∃ J : a1 → a2 → a3 → a4 → a5 → a6 → a7 → a8 → Prop, (∀ x1 x2 x3 x4 x5 x6 x7 x8, J x1 x2 x3 x4 x5 x6 x7 x8 → rest x1 x2 x3 x4 x5 x6 x7 x8) ∧ body J := ⟨rest, fun x1 x2 x3 x4 x5 x6 x7 x8 h => h, h⟩
def jn9 {a1 a2 a3 a4 a5 a6 a7 a8 a9 : Type} (rest : a1 → a2 → a3 → a4 → a5 → a6 → a7 → a8 → a9 → Prop) (body : (a1 → a2 → a3 → a4 → a5 → a6 → a7 → a8 → a9 → Prop) → Prop) : Prop := body rest
theorem jnE9 {a1 a2 a3 a4 a5 a6 a7 a8 a9 : Type} {rest : a1 → a2 → a3 → a4 → a5 → a6 → a7 → a8 → a9 → Prop} {body : (a1 → a2 → a3 → a4 → a5 → a6 → a7 → a8 → a9 → Prop) → Prop} (h : jn9 rest body) : ∃ J : a1 → a2 → a3 → a4 → a5 → a6 → a7 → a8 → a9 → Prop, (∀ x1 x2 x3 x4 x5 x6 x7 x8 x9, J x1 x2 x3 x4 x5 x6 x7 x8 x9 → rest x1 x2 x3 x4 x5 x6 x7 x8 x9) ∧ body J := ⟨rest, fun x1 x2 x3 x4 x5 x6 x7 x8 x9 h => h, h⟩
def RPre (D : va_G) (cl : List vw_C) (ws : va_W) (tys : List (ClassId × FieldType)) (av : List Value) : Array Value → State → Prop := va_Pc av (fun U => va_P D cl ws U.heap ∧ va_K D cl tys U)
def MPre (D : va_G) (cl : List vw_C) (ws : va_W) (tys : List (ClassId × FieldType)) (sz : Nat) (av : List Value) : Array Value → State → Prop := va_Pc av (fun U => U.heap.size = sz ∧ va_P D cl ws U.heap ∧ va_K D cl tys U ∧ va_D (fun _ => True) ws)
theorem fbR {D : va_G} {cl : List vw_C} {ws : va_W} {tys : List (ClassId × FieldType)} {av : List Value} : FrameBlind (RPre D cl ws tys av) := fun a U g mk q => ⟨q.1, q.2.1, va_K.moved (u := U) (U := U.calling g mk a) (Vm.Alike.refl U.vm) q.2.2⟩
theorem fbM {D : va_G} {cl : List vw_C} {ws : va_W} {tys : List (ClassId × FieldType)} {sz : Nat} {av : List Value} : FrameBlind (MPre D cl ws tys sz av) := fun a U g mk q => ⟨q.1, q.2.1, q.2.2.1, va_K.moved (u := U) (U := U.calling g mk a) (Vm.Alike.refl U.vm) q.2.2.2.1, q.2.2.2.2⟩
theorem hPr {D : va_G} {cl : List vw_C} {ws : va_W} {t : State} {H : Heap} (ht : t.heap = H) (hP : va_P D cl ws H) : va_P D cl ws t.heap := by rw [ht]; exact hP
theorem fr_all {A : Nat → Prop} {ws : va_W} {H0 H : Heap} {locs : List Loc} (hD : va_D A ws) (hS : va_S A H0 H locs) (hA : ∀ q, H0.size ≤ q → A q) : ∀ q, va_A ws H.size q → A q := by
  intro q h
  rcases h with ⟨k, e, h⟩ | h
  · exact hD.2 k (q, e) h
  · exact hA q (Nat.le_trans hS.1 h)
theorem va_Dsame {A : Nat → Prop} {ws ws' : va_W} (hD : va_D A ws) (h : ws.map Prod.fst = ws'.map Prod.fst) : va_D A ws' := by
  have key : ∀ (k : Nat) (q : Nat × va_E), ws'[k]? = some q → ∃ q0, ws[k]? = some q0 ∧ q0.1 = q.1 := by
    intro k q hk
    have h1 : (ws'.map Prod.fst)[k]? = some q.1 := by rw [List.getElem?_map, hk]; rfl
    rw [← h, List.getElem?_map] at h1
    cases hi : ws[k]? with
    | none => rw [hi] at h1; cases h1
    | some q0 => rw [hi] at h1; exact ⟨q0, rfl, Option.some.inj h1⟩
  refine ⟨fun i j x y hi hj hxy => ?_, fun k q hk => ?_⟩
  · obtain ⟨x0, h1, h2⟩ := key i x hi
    obtain ⟨y0, h3, h4⟩ := key j y hj
    exact hD.1 i j x0 y0 h1 h3 (h2.trans (hxy.trans h4.symm))
  · obtain ⟨q0, h1, h2⟩ := key k q hk
    rw [← h2]
    exact hD.2 k q0 h1
def wS (h0 h1 h2 : Nat) (cI : ClassId) (u : St) : va_W := [(h0, .inr (1, [.ref h1, .ref h2, .int (u.1 2), .int (u.1 3), .int (u.1 4), .int (u.1 5), .int (u.1 6)])), (h1, .inl (cI, 64, .inl (u.2 0))), (h2, .inl (cI, 8, .inl (u.2 1)))]
def wB (g0 g1 : Nat) (cI : ClassId) (u : St) : va_W := [(g0, .inr (0, [.ref g1, .int (u.1 1), .int (u.1 2), .int (u.1 3), .int (u.1 4)])), (g1, .inl (cI, 112, .inl (u.2 0)))]
def wM (m0 m1 m2 m3 m4 m5 m6 m7 m8 m9 : Nat) (cI cZ : ClassId) (u : St) : va_W := [(m0, .inr (3, [.int (u.1 0), .int (u.1 1), .int (u.1 2), .ref m1, .ref m2, .int (u.1 5), .ref m3, .ref m4, .ref m5, .int (u.1 9), .int (u.1 10), .ref m6, .ref m7, .ref m8, .int (u.1 14), .int (u.1 15), .ref m9])), (m1, .inl (cZ, 512, .inl (u.2 3))), (m2, .inl (cI, 2, .inl (u.2 4))), (m3, .inl (cI, 4, .inl (u.2 6))), (m4, .inl (cI, 4, .inl (u.2 7))), (m5, .inl (cI, 64, .inl (u.2 8))), (m6, .inl (cI, 64, .inl (u.2 11))), (m7, .inl (cI, 64, .inl (u.2 12))), (m8, .inl (cI, 112, .inl (u.2 13))), (m9, .inl (cI, 112, .inl (u.2 16)))]
def wX (b0 h0 h1 h2 g0 g1 : Nat) (cI : ClassId) (u : St × St) : va_W := (b0, .inr (2, [.ref h0, .ref g0])) :: (wS h0 h1 h2 cI u.1 ++ wB g0 g1 cI u.2)
theorem X_joinS {A : Nat → Prop} {D : va_G} {b0 h0 h1 h2 g0 g1 : Nat} {cI : ClassId} {u : St × St} {z : St} {H H1 : Heap} (hP : va_P D vwCl (wX b0 h0 h1 h2 g0 g1 cI u) H) (hD : va_D A (wX b0 h0 h1 h2 g0 g1 cI u)) (hk : ∀ q : Nat, q < H.size → ¬ va_A (wS h0 h1 h2 cI u.1) H.size q → H1[q]? = H[q]?) (hF : ∀ q, va_A (wS h0 h1 h2 cI u.1) H.size q → A q) (hP1 : va_P D vwCl (wS h0 h1 h2 cI z) H1) : va_P D vwCl (wX b0 h0 h1 h2 g0 g1 cI (z, u.2)) H1 := by
  have hDc := (hD.sub (ws' := wS h0 h1 h2 cI u.1) [1, 2, 3] (by decide) rfl).self (sz := H.size)
  have hD1 : va_D (va_A (wS h0 h1 h2 cI u.1) H.size) (wS h0 h1 h2 cI z) := va_Dsame hDc rfl
  obtain ⟨hP2, -⟩ := va_join (wr := (b0, .inr (2, [.ref h0, .ref g0])) :: wB g0 g1 cI u.2) (w1 := wS h0 h1 h2 cI z) hP hD [1, 2, 3] [0, 4, 5] rfl rfl (by decide) (by decide) hk hF hP1 hD1
  exact hP2.sub [0, 3, 4, 5, 1, 2] rfl
theorem X_joinB {A : Nat → Prop} {D : va_G} {b0 h0 h1 h2 g0 g1 : Nat} {cI : ClassId} {u : St × St} {z : St} {H H1 : Heap} (hP : va_P D vwCl (wX b0 h0 h1 h2 g0 g1 cI u) H) (hD : va_D A (wX b0 h0 h1 h2 g0 g1 cI u)) (hk : ∀ q : Nat, q < H.size → ¬ va_A (wB g0 g1 cI u.2) H.size q → H1[q]? = H[q]?) (hF : ∀ q, va_A (wB g0 g1 cI u.2) H.size q → A q) (hP1 : va_P D vwCl (wB g0 g1 cI z) H1) : va_P D vwCl (wX b0 h0 h1 h2 g0 g1 cI (u.1, z)) H1 := by
  have hDc := (hD.sub (ws' := wB g0 g1 cI u.2) [4, 5] (by decide) rfl).self (sz := H.size)
  have hD1 : va_D (va_A (wB g0 g1 cI u.2) H.size) (wB g0 g1 cI z) := va_Dsame hDc rfl
  obtain ⟨hP2, -⟩ := va_join (wr := (b0, .inr (2, [.ref h0, .ref g0])) :: wS h0 h1 h2 cI u.1) (w1 := wB g0 g1 cI z) hP hD [4, 5] [0, 1, 2, 3] rfl rfl (by decide) (by decide) hk hF hP1 hD1
  exact hP2
def wL (b0 h0 h1 h2 g0 g1 m0 m1 m2 m3 m4 m5 m6 m7 m8 m9 : Nat) (cI cJ cZ : ClassId) (u : (St × St) × St) : va_W := wX b0 h0 h1 h2 g0 g1 cI u.1 ++ wM m0 m1 m2 m3 m4 m5 m6 m7 m8 m9 cJ cZ u.2
theorem L_joinX {A : Nat → Prop} {D : va_G} {b0 h0 h1 h2 g0 g1 m0 m1 m2 m3 m4 m5 m6 m7 m8 m9 : Nat} {cI cJ cZ : ClassId} {u : (St × St) × St} {z : St × St} {H H1 : Heap} (hP : va_P D vwCl (wL b0 h0 h1 h2 g0 g1 m0 m1 m2 m3 m4 m5 m6 m7 m8 m9 cI cJ cZ u) H) (hD : va_D A (wL b0 h0 h1 h2 g0 g1 m0 m1 m2 m3 m4 m5 m6 m7 m8 m9 cI cJ cZ u)) (hk : ∀ q : Nat, q < H.size → ¬ va_A (wX b0 h0 h1 h2 g0 g1 cI u.1) H.size q → H1[q]? = H[q]?) (hF : ∀ q, va_A (wX b0 h0 h1 h2 g0 g1 cI u.1) H.size q → A q) (hP1 : va_P D vwCl (wX b0 h0 h1 h2 g0 g1 cI z) H1) : va_P D vwCl (wL b0 h0 h1 h2 g0 g1 m0 m1 m2 m3 m4 m5 m6 m7 m8 m9 cI cJ cZ (z, u.2)) H1 := by
  have hDc := (hD.sub (ws' := wX b0 h0 h1 h2 g0 g1 cI u.1) [0, 1, 2, 3, 4, 5] (by decide) rfl).self (sz := H.size)
  have hD1 : va_D (va_A (wX b0 h0 h1 h2 g0 g1 cI u.1) H.size) (wX b0 h0 h1 h2 g0 g1 cI z) := va_Dsame hDc rfl
  obtain ⟨hP2, -⟩ := va_join (wr := wM m0 m1 m2 m3 m4 m5 m6 m7 m8 m9 cJ cZ u.2) (w1 := wX b0 h0 h1 h2 g0 g1 cI z) hP hD [0, 1, 2, 3, 4, 5] [6, 7, 8, 9, 10, 11, 12, 13, 14, 15] rfl rfl (by decide) (by decide) hk hF hP1 hD1
  exact hP2.sub [10, 11, 12, 13, 14, 15, 0, 1, 2, 3, 4, 5, 6, 7, 8, 9] rfl
theorem L_joinM {A : Nat → Prop} {D : va_G} {b0 h0 h1 h2 g0 g1 m0 m1 m2 m3 m4 m5 m6 m7 m8 m9 : Nat} {cI cJ cZ : ClassId} {u : (St × St) × St} {z : St} {H H1 : Heap} (hP : va_P D vwCl (wL b0 h0 h1 h2 g0 g1 m0 m1 m2 m3 m4 m5 m6 m7 m8 m9 cI cJ cZ u) H) (hD : va_D A (wL b0 h0 h1 h2 g0 g1 m0 m1 m2 m3 m4 m5 m6 m7 m8 m9 cI cJ cZ u)) (hk : ∀ q : Nat, q < H.size → ¬ va_A (wM m0 m1 m2 m3 m4 m5 m6 m7 m8 m9 cJ cZ u.2) H.size q → H1[q]? = H[q]?) (hF : ∀ q, va_A (wM m0 m1 m2 m3 m4 m5 m6 m7 m8 m9 cJ cZ u.2) H.size q → A q) (hP1 : va_P D vwCl (wM m0 m1 m2 m3 m4 m5 m6 m7 m8 m9 cJ cZ z) H1) : va_P D vwCl (wL b0 h0 h1 h2 g0 g1 m0 m1 m2 m3 m4 m5 m6 m7 m8 m9 cI cJ cZ (u.1, z)) H1 := by
  have hDc := (hD.sub (ws' := wM m0 m1 m2 m3 m4 m5 m6 m7 m8 m9 cJ cZ u.2) [6, 7, 8, 9, 10, 11, 12, 13, 14, 15] (by decide) rfl).self (sz := H.size)
  have hD1 : va_D (va_A (wM m0 m1 m2 m3 m4 m5 m6 m7 m8 m9 cJ cZ u.2) H.size) (wM m0 m1 m2 m3 m4 m5 m6 m7 m8 m9 cJ cZ z) := va_Dsame hDc rfl
  obtain ⟨hP2, -⟩ := va_join (wr := wX b0 h0 h1 h2 g0 g1 cI u.1) (w1 := wM m0 m1 m2 m3 m4 m5 m6 m7 m8 m9 cJ cZ z) hP hD [6, 7, 8, 9, 10, 11, 12, 13, 14, 15] [0, 1, 2, 3, 4, 5] rfl rfl (by decide) (by decide) hk hF hP1 hD1
  exact hP2
