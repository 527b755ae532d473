theorem same_arr {D : va_G} {cl : List vw_C} {tys : List (ClassId × FieldType)} {U : State} (hK : va_K D cl tys U) {i j : Nat} {a b : ClassId} (hi : tys[i]? = some (a, .int)) (hj : tys[j]? = some (b, .int)) : a = b := by
  have h1 : U.vm.findClass ("[" ++ (FieldType.int).toString) = some a := (hK.2 i _ hi).2
  have h2 : U.vm.findClass ("[" ++ (FieldType.int).toString) = some b := (hK.2 j _ hj).2
  rw [h1] at h2
  exact Option.some.inj h2
theorem nw_int (n : Nat) : ∀ cA : ClassId, vp_cell cA (n, .inl (fun _ => 0)) = arrV cA n (fun _ => defaultValue .int) := fun _ => rfl
theorem nw_boolean (n : Nat) : ∀ cA : ClassId, vp_cell cA (n, .inl (fun _ => 0)) = arrV cA n (fun _ => defaultValue .boolean) := fun _ => rfl
def z0B : St := (fun _ => 0, fun _ _ => 0)
def z0S : St := (fun k => if k = 2 then 4 else if k = 3 then 4 else if k = 4 then 4 else 0, fun _ _ => 0)
def z0M : St := (fun k => if k = 0 then 4 else if k = 1 then 4 else if k = 2 then 4 else 0, fun _ _ => 0)
set_option maxHeartbeats 4000000 in
set_option maxRecDepth 100000 in
theorem c_X0_init (l : Launch) (dC : Nat → ClassId) (dI : Nat → Nat → Nat) (g0 : Nat) (sz : Nat) : Met l yX0_init wsX0_init ({ frames := 1, cells := 1, slots := 112, locals := 20 } : Room) (MPre (dC, dI) vwCl [(g0, .inr (0, [.null, .int 0, .int 0, .int 0, .int 0]))] [] sz [.ref g0]) (va_Qv (fun _ : Nat × ClassId => True) (fun (z : Nat × ClassId) (t : State) => va_P (dC, dI) vwCl (wB g0 z.1 z.2 z0B) t.heap ∧ va_K (dC, dI) vwCl [(z.2, .int)] t ∧ va_D (va_A [(g0, .inr (0, [.null, .int 0, .int 0, .int 0, .int 0]))] sz) (wB g0 z.1 z.2 z0B)) (va_A [(g0, .inr (0, [.null, .int 0, .int 0, .int 0, .int 0]))] sz)) 1 112 (va_A [(g0, .inr (0, [.null, .int 0, .int 0, .int 0, .int 0]))] sz) := by
  refine Met.ofW (cc := cX0_init) (maxL := 1) (ret := none) (by decide) rfl ?_
  intro p e s m args below meth c s₁ B hml hv
  obtain ⟨rfl, hsz, hP, hK, hD0⟩ := hv
  have hx := B.exec
  have hb := B.bytes
  have hr := B.returns
  have hts := atoms_spec (ws := wsX0_init) B.pre
  have hown : s.vm.findClass RX0 = some m.cls := findClass_of_methodNamed B.named
  have hlocks := B.notSynchronized
  have hin : meth.name = "<init>" := (name_of_methodNamed B.named B.method).1
  subst hsz
  have hD := hD0.self (sz := s.heap.size)
  generalize hAe : va_A [(g0, .inr (0, [.null, .int 0, .int 0, .int 0, .int 0]))] s.heap.size = A at hD ⊢
  have hA : ∀ q : Nat, s.heap.size ≤ q → A q := fun q h => by rw [← hAe]; exact Or.inr h
  have hS : va_S A s.heap s.heap [] := va_S.rf
  have hl := lv_entry ([.ref g0]) (n := 1) (Nat.le_of_ble_eq_true rfl)
  rw [lg_entry_eq]
  generalize (lg_sl ([.ref g0]) ++ List.replicate (1 - (lg_sl ([.ref g0])).length) Slot.unset).toArray = ls at hl ⊢
  have hl : lv_has ls 1 [(0, .ref g0)] := hl
  have i_X0 : ∀ w ∈ u_ws RX0 TX0 5, w ∈ wsX0_init := by decide +kernel
  refine lv_aload_n hx hb dX0_init_0 rfl (lv_at hl 0 rfl) ?_
  refine W.objInit hx hb hown (hts (.methodLink RX0 3 objectInit) (by decide +kernel)) (hts (.instanceMethod objectInit) (by decide +kernel)) (hts (.code objectInit ⟨#[0xb1]⟩ 1 none) (by decide +kernel)) rfl (by rw [hml]; exact hl.1) rfl dX0_init_1 (Nat.le_of_ble_eq_true rfl) (Nat.le_of_ble_eq_true rfl) ?_
  refine W.eq (g2 := F0 m 4 ls []) rfl ?_
  refine lv_aload_n hx hb dX0_init_4 rfl (lv_at hl 0 rfl) ?_
  refine lv_bipush (v := 112) hx hb dX0_init_5 (by decide) ?_
  refine va_newa (atype := .int) (ty := .int) (N' := 112) (a0 := (112, .inl (fun _ => 0))) (n := 112) hx hb (hts (.arrayClass .int) (by decide +kernel)) rfl hK hP hD hS hA (nw_int 112) (by decide +kernel) (by decide +kernel) (by decide +kernel) (Nat.le_of_ble_eq_true rfl) (Nat.le_of_ble_eq_true rfl) dX0_init_7 (fun q1 k1 H hK hP hD hS => ?_)
  have hP : va_P (dC, dI) vwCl [(g0, .inr (0, [.null, .int 0, .int 0, .int 0, .int 0])), (q1, .inl (k1, 112, .inl (fun _ => 0)))] H := hP
  have hD : va_D A [(g0, .inr (0, [.null, .int 0, .int 0, .int 0, .int 0])), (q1, .inl (k1, 112, .inl (fun _ => 0)))] := hD
  refine W.widen (k := 1) (n := 112) (Nat.le_of_ble_eq_true rfl) (Nat.le_of_ble_eq_true rfl) ?_
  refine va_putF (D := (dC, dI)) (ci := 0) (v := .ref q1) (ty := .array .int) (C := RX0) (T := TX0) (N := 5) hx hb hts i_X0 tyX0 tyX0_ok nmX0 hown hK hP hD hS 0 rfl rfl 0 (by decide) (hts (.fieldLink RX0 11 "SliceBody$Boards" "facts" "[I") (by decide +kernel)) (fun _ h9 => h9) rfl hin rfl (by decide +kernel) rfl rfl (Nat.le_of_ble_eq_true rfl) dX0_init_9 (fun H locs hP hD hS => ?_)
  have hP : va_P (dC, dI) vwCl [(g0, .inr (0, [.ref q1, .int 0, .int 0, .int 0, .int 0])), (q1, .inl (k1, 112, .inl (fun _ => 0)))] H := hP
  have hD : va_D A [(g0, .inr (0, [.ref q1, .int 0, .int 0, .int 0, .int 0])), (q1, .inl (k1, 112, .inl (fun _ => 0)))] := hD
  have hK := hK.sub (tys' := [(k1, .int)]) [0] rfl
  exact W.vret hx hb hr (fun t ht hW => ⟨⟨(q1, k1), rfl, trivial, hPr ht hP, va_K.moved hW.alike hK, hD⟩, hS.F ht⟩) hS.2.2 dX0_init_12
set_option maxHeartbeats 4000000 in
set_option maxRecDepth 100000 in
theorem c_X3_init (l : Launch) (dC : Nat → ClassId) (dI : Nat → Nat → Nat) (h0 : Nat) (sz : Nat) : Met l yX3_init wsX3_init ({ frames := 1, cells := 2, slots := 72, locals := 20 } : Room) (MPre (dC, dI) vwCl [(h0, .inr (1, [.null, .null, .int 0, .int 0, .int 0, .int 0, .int 0]))] [] sz [.ref h0]) (va_Qv (fun _ : Nat × Nat × ClassId => True) (fun (z : Nat × Nat × ClassId) (t : State) => va_P (dC, dI) vwCl (wS h0 z.1 z.2.1 z.2.2 z0S) t.heap ∧ va_K (dC, dI) vwCl [(z.2.2, .int)] t ∧ va_D (va_A [(h0, .inr (1, [.null, .null, .int 0, .int 0, .int 0, .int 0, .int 0]))] sz) (wS h0 z.1 z.2.1 z.2.2 z0S)) (va_A [(h0, .inr (1, [.null, .null, .int 0, .int 0, .int 0, .int 0, .int 0]))] sz)) 2 72 (va_A [(h0, .inr (1, [.null, .null, .int 0, .int 0, .int 0, .int 0, .int 0]))] sz) := by
  refine Met.ofW (cc := cX3_init) (maxL := 1) (ret := none) (by decide) rfl ?_
  intro p e s m args below meth c s₁ B hml hv
  obtain ⟨rfl, hsz, hP, hK, hD0⟩ := hv
  have hx := B.exec
  have hb := B.bytes
  have hr := B.returns
  have hts := atoms_spec (ws := wsX3_init) B.pre
  have hown : s.vm.findClass RX3 = some m.cls := findClass_of_methodNamed B.named
  have hlocks := B.notSynchronized
  have hin : meth.name = "<init>" := (name_of_methodNamed B.named B.method).1
  subst hsz
  have hD := hD0.self (sz := s.heap.size)
  generalize hAe : va_A [(h0, .inr (1, [.null, .null, .int 0, .int 0, .int 0, .int 0, .int 0]))] s.heap.size = A at hD ⊢
  have hA : ∀ q : Nat, s.heap.size ≤ q → A q := fun q h => by rw [← hAe]; exact Or.inr h
  have hS : va_S A s.heap s.heap [] := va_S.rf
  have hl := lv_entry ([.ref h0]) (n := 1) (Nat.le_of_ble_eq_true rfl)
  rw [lg_entry_eq]
  generalize (lg_sl ([.ref h0]) ++ List.replicate (1 - (lg_sl ([.ref h0])).length) Slot.unset).toArray = ls at hl ⊢
  have hl : lv_has ls 1 [(0, .ref h0)] := hl
  have i_X3 : ∀ w ∈ u_ws RX3 TX3 7, w ∈ wsX3_init := by decide +kernel
  refine lv_aload_n hx hb dX3_init_0 rfl (lv_at hl 0 rfl) ?_
  refine W.objInit hx hb hown (hts (.methodLink RX3 3 objectInit) (by decide +kernel)) (hts (.instanceMethod objectInit) (by decide +kernel)) (hts (.code objectInit ⟨#[0xb1]⟩ 1 none) (by decide +kernel)) rfl (by rw [hml]; exact hl.1) rfl dX3_init_1 (Nat.le_of_ble_eq_true rfl) (Nat.le_of_ble_eq_true rfl) ?_
  refine W.eq (g2 := F0 m 4 ls []) rfl ?_
  refine lv_aload_n hx hb dX3_init_4 rfl (lv_at hl 0 rfl) ?_
  refine lv_bipush (v := 64) hx hb dX3_init_5 (by decide) ?_
  refine va_newa (atype := .int) (ty := .int) (N' := 64) (a0 := (64, .inl (fun _ => 0))) (n := 64) hx hb (hts (.arrayClass .int) (by decide +kernel)) rfl hK hP hD hS hA (nw_int 64) (by decide +kernel) (by decide +kernel) (by decide +kernel) (Nat.le_of_ble_eq_true rfl) (Nat.le_of_ble_eq_true rfl) dX3_init_7 (fun q1 k1 H hK hP hD hS => ?_)
  have hP : va_P (dC, dI) vwCl [(h0, .inr (1, [.null, .null, .int 0, .int 0, .int 0, .int 0, .int 0])), (q1, .inl (k1, 64, .inl (fun _ => 0)))] H := hP
  have hD : va_D A [(h0, .inr (1, [.null, .null, .int 0, .int 0, .int 0, .int 0, .int 0])), (q1, .inl (k1, 64, .inl (fun _ => 0)))] := hD
  refine W.widen (k := 1) (n := 64) (Nat.le_of_ble_eq_true rfl) (Nat.le_of_ble_eq_true rfl) ?_
  refine va_putF (D := (dC, dI)) (ci := 1) (v := .ref q1) (ty := .array .int) (C := RX3) (T := TX3) (N := 7) hx hb hts i_X3 tyX3 tyX3_ok nmX3 hown hK hP hD hS 0 rfl rfl 0 (by decide) (hts (.fieldLink RX3 11 "SliceBody$Solid" "columns" "[I") (by decide +kernel)) (fun _ h9 => h9) rfl hin rfl (by decide +kernel) rfl rfl (Nat.le_of_ble_eq_true rfl) dX3_init_9 (fun H locs hP hD hS => ?_)
  have hP : va_P (dC, dI) vwCl [(h0, .inr (1, [.ref q1, .null, .int 0, .int 0, .int 0, .int 0, .int 0])), (q1, .inl (k1, 64, .inl (fun _ => 0)))] H := hP
  have hD : va_D A [(h0, .inr (1, [.ref q1, .null, .int 0, .int 0, .int 0, .int 0, .int 0])), (q1, .inl (k1, 64, .inl (fun _ => 0)))] := hD
  refine lv_aload_n hx hb dX3_init_12 rfl (lv_at hl 0 rfl) ?_
  refine lv_bipush (v := 8) hx hb dX3_init_13 (by decide) ?_
  refine va_newa (atype := .int) (ty := .int) (N' := 8) (a0 := (8, .inl (fun _ => 0))) (n := 8) hx hb (hts (.arrayClass .int) (by decide +kernel)) rfl hK hP hD hS hA (nw_int 8) (by decide +kernel) (by decide +kernel) (by decide +kernel) (Nat.le_of_ble_eq_true rfl) (Nat.le_of_ble_eq_true rfl) dX3_init_15 (fun q2 k2 H hK hP hD hS => ?_)
  have hP : va_P (dC, dI) vwCl [(h0, .inr (1, [.ref q1, .null, .int 0, .int 0, .int 0, .int 0, .int 0])), (q1, .inl (k1, 64, .inl (fun _ => 0))), (q2, .inl (k2, 8, .inl (fun _ => 0)))] H := hP
  have hD : va_D A [(h0, .inr (1, [.ref q1, .null, .int 0, .int 0, .int 0, .int 0, .int 0])), (q1, .inl (k1, 64, .inl (fun _ => 0))), (q2, .inl (k2, 8, .inl (fun _ => 0)))] := hD
  refine W.widen (k := 2) (n := 72) (Nat.le_of_ble_eq_true rfl) (Nat.le_of_ble_eq_true rfl) ?_
  refine va_putF (D := (dC, dI)) (ci := 1) (v := .ref q2) (ty := .array .int) (C := RX3) (T := TX3) (N := 7) hx hb hts i_X3 tyX3 tyX3_ok nmX3 hown hK hP hD hS 0 rfl rfl 1 (by decide) (hts (.fieldLink RX3 15 "SliceBody$Solid" "gains" "[I") (by decide +kernel)) (fun _ h9 => h9) rfl hin rfl (by decide +kernel) rfl rfl (Nat.le_of_ble_eq_true rfl) dX3_init_17 (fun H locs hP hD hS => ?_)
  have hP : va_P (dC, dI) vwCl [(h0, .inr (1, [.ref q1, .ref q2, .int 0, .int 0, .int 0, .int 0, .int 0])), (q1, .inl (k1, 64, .inl (fun _ => 0))), (q2, .inl (k2, 8, .inl (fun _ => 0)))] H := hP
  have hD : va_D A [(h0, .inr (1, [.ref q1, .ref q2, .int 0, .int 0, .int 0, .int 0, .int 0])), (q1, .inl (k1, 64, .inl (fun _ => 0))), (q2, .inl (k2, 8, .inl (fun _ => 0)))] := hD
  refine lv_aload_n hx hb dX3_init_20 rfl (lv_at hl 0 rfl) ?_
  refine lv_iconst (v := 4) hx hb dX3_init_21 (by decide) ?_
  refine va_put (D := (dC, dI)) (ci := 1) (v := .int 4) (ty := .int) (C := RX3) (T := TX3) (N := 7) hx hb hts i_X3 tyX3 tyX3_ok nmX3 hown hK hP hD hS 0 rfl rfl 2 (by decide) (hts (.fieldLink RX3 18 "SliceBody$Solid" "wide" "I") (by decide +kernel)) (fun _ h9 => h9) rfl (by decide +kernel) rfl rfl (Nat.le_of_ble_eq_true rfl) dX3_init_22 (fun H locs hP hD hS => ?_)
  have hP : va_P (dC, dI) vwCl [(h0, .inr (1, [.ref q1, .ref q2, .int 4, .int 0, .int 0, .int 0, .int 0])), (q1, .inl (k1, 64, .inl (fun _ => 0))), (q2, .inl (k2, 8, .inl (fun _ => 0)))] H := hP
  have hD : va_D A [(h0, .inr (1, [.ref q1, .ref q2, .int 4, .int 0, .int 0, .int 0, .int 0])), (q1, .inl (k1, 64, .inl (fun _ => 0))), (q2, .inl (k2, 8, .inl (fun _ => 0)))] := hD
  refine lv_aload_n hx hb dX3_init_25 rfl (lv_at hl 0 rfl) ?_
  refine lv_iconst (v := 4) hx hb dX3_init_26 (by decide) ?_
  refine va_put (D := (dC, dI)) (ci := 1) (v := .int 4) (ty := .int) (C := RX3) (T := TX3) (N := 7) hx hb hts i_X3 tyX3 tyX3_ok nmX3 hown hK hP hD hS 0 rfl rfl 3 (by decide) (hts (.fieldLink RX3 22 "SliceBody$Solid" "deep" "I") (by decide +kernel)) (fun _ h9 => h9) rfl (by decide +kernel) rfl rfl (Nat.le_of_ble_eq_true rfl) dX3_init_27 (fun H locs hP hD hS => ?_)
  have hP : va_P (dC, dI) vwCl [(h0, .inr (1, [.ref q1, .ref q2, .int 4, .int 4, .int 0, .int 0, .int 0])), (q1, .inl (k1, 64, .inl (fun _ => 0))), (q2, .inl (k2, 8, .inl (fun _ => 0)))] H := hP
  have hD : va_D A [(h0, .inr (1, [.ref q1, .ref q2, .int 4, .int 4, .int 0, .int 0, .int 0])), (q1, .inl (k1, 64, .inl (fun _ => 0))), (q2, .inl (k2, 8, .inl (fun _ => 0)))] := hD
  refine lv_aload_n hx hb dX3_init_30 rfl (lv_at hl 0 rfl) ?_
  refine lv_iconst (v := 4) hx hb dX3_init_31 (by decide) ?_
  refine va_put (D := (dC, dI)) (ci := 1) (v := .int 4) (ty := .int) (C := RX3) (T := TX3) (N := 7) hx hb hts i_X3 tyX3 tyX3_ok nmX3 hown hK hP hD hS 0 rfl rfl 4 (by decide) (hts (.fieldLink RX3 25 "SliceBody$Solid" "high" "I") (by decide +kernel)) (fun _ h9 => h9) rfl (by decide +kernel) rfl rfl (Nat.le_of_ble_eq_true rfl) dX3_init_32 (fun H locs hP hD hS => ?_)
  have hP : va_P (dC, dI) vwCl [(h0, .inr (1, [.ref q1, .ref q2, .int 4, .int 4, .int 4, .int 0, .int 0])), (q1, .inl (k1, 64, .inl (fun _ => 0))), (q2, .inl (k2, 8, .inl (fun _ => 0)))] H := hP
  have hD : va_D A [(h0, .inr (1, [.ref q1, .ref q2, .int 4, .int 4, .int 4, .int 0, .int 0])), (q1, .inl (k1, 64, .inl (fun _ => 0))), (q2, .inl (k2, 8, .inl (fun _ => 0)))] := hD
  have e_k2 : k2 = k1 := same_arr hK (i := 1) (j := 0) rfl rfl
  rw [e_k2] at hP hD
  have hK := hK.sub (tys' := [(k1, .int)]) [0] rfl
  exact W.vret hx hb hr (fun t ht hW => ⟨⟨(q1, q2, k1), rfl, trivial, hPr ht hP, va_K.moved hW.alike hK, hD⟩, hS.F ht⟩) hS.2.2 dX3_init_35
set_option maxHeartbeats 4000000 in
set_option maxRecDepth 100000 in
theorem c_X5_init (l : Launch) (dC : Nat → ClassId) (dI : Nat → Nat → Nat) (m0 : Nat) (sz : Nat) : Met l yX5_init wsX5_init ({ frames := 1, cells := 9, slots := 938, locals := 20 } : Room) (MPre (dC, dI) vwCl [(m0, .inr (3, [.int 0, .int 0, .int 0, .null, .null, .int 0, .null, .null, .null, .int 0, .int 0, .null, .null, .null, .int 0, .int 0, .null]))] [] sz [.ref m0]) (va_Qv (fun _ : Nat × Nat × Nat × Nat × Nat × Nat × Nat × Nat × Nat × ClassId × ClassId => True) (fun (z : Nat × Nat × Nat × Nat × Nat × Nat × Nat × Nat × Nat × ClassId × ClassId) (t : State) => va_P (dC, dI) vwCl (wM m0 z.1 z.2.1 z.2.2.1 z.2.2.2.1 z.2.2.2.2.1 z.2.2.2.2.2.1 z.2.2.2.2.2.2.1 z.2.2.2.2.2.2.2.1 z.2.2.2.2.2.2.2.2.1 z.2.2.2.2.2.2.2.2.2.1 z.2.2.2.2.2.2.2.2.2.2 z0M) t.heap ∧ va_K (dC, dI) vwCl [(z.2.2.2.2.2.2.2.2.2.1, .int), (z.2.2.2.2.2.2.2.2.2.2, .boolean)] t ∧ va_D (va_A [(m0, .inr (3, [.int 0, .int 0, .int 0, .null, .null, .int 0, .null, .null, .null, .int 0, .int 0, .null, .null, .null, .int 0, .int 0, .null]))] sz) (wM m0 z.1 z.2.1 z.2.2.1 z.2.2.2.1 z.2.2.2.2.1 z.2.2.2.2.2.1 z.2.2.2.2.2.2.1 z.2.2.2.2.2.2.2.1 z.2.2.2.2.2.2.2.2.1 z.2.2.2.2.2.2.2.2.2.1 z.2.2.2.2.2.2.2.2.2.2 z0M)) (va_A [(m0, .inr (3, [.int 0, .int 0, .int 0, .null, .null, .int 0, .null, .null, .null, .int 0, .int 0, .null, .null, .null, .int 0, .int 0, .null]))] sz)) 9 938 (va_A [(m0, .inr (3, [.int 0, .int 0, .int 0, .null, .null, .int 0, .null, .null, .null, .int 0, .int 0, .null, .null, .null, .int 0, .int 0, .null]))] sz) := by
  refine Met.ofW (cc := cX5_init) (maxL := 1) (ret := none) (by decide) rfl ?_
  intro p e s m args below meth c s₁ B hml hv
  obtain ⟨rfl, hsz, hP, hK, hD0⟩ := hv
  have hx := B.exec
  have hb := B.bytes
  have hr := B.returns
  have hts := atoms_spec (ws := wsX5_init) B.pre
  have hown : s.vm.findClass RX5 = some m.cls := findClass_of_methodNamed B.named
  have hlocks := B.notSynchronized
  have hin : meth.name = "<init>" := (name_of_methodNamed B.named B.method).1
  subst hsz
  have hD := hD0.self (sz := s.heap.size)
  generalize hAe : va_A [(m0, .inr (3, [.int 0, .int 0, .int 0, .null, .null, .int 0, .null, .null, .null, .int 0, .int 0, .null, .null, .null, .int 0, .int 0, .null]))] s.heap.size = A at hD ⊢
  have hA : ∀ q : Nat, s.heap.size ≤ q → A q := fun q h => by rw [← hAe]; exact Or.inr h
  have hS : va_S A s.heap s.heap [] := va_S.rf
  have hl := lv_entry ([.ref m0]) (n := 1) (Nat.le_of_ble_eq_true rfl)
  rw [lg_entry_eq]
  generalize (lg_sl ([.ref m0]) ++ List.replicate (1 - (lg_sl ([.ref m0])).length) Slot.unset).toArray = ls at hl ⊢
  have hl : lv_has ls 1 [(0, .ref m0)] := hl
  have i_X5 : ∀ w ∈ u_ws RX5 TX5 17, w ∈ wsX5_init := by decide +kernel
  refine lv_aload_n hx hb dX5_init_0 rfl (lv_at hl 0 rfl) ?_
  refine W.objInit hx hb hown (hts (.methodLink RX5 1 objectInit) (by decide +kernel)) (hts (.instanceMethod objectInit) (by decide +kernel)) (hts (.code objectInit ⟨#[0xb1]⟩ 1 none) (by decide +kernel)) rfl (by rw [hml]; exact hl.1) rfl dX5_init_1 (Nat.le_of_ble_eq_true rfl) (Nat.le_of_ble_eq_true rfl) ?_
  refine W.eq (g2 := F0 m 4 ls []) rfl ?_
  refine lv_aload_n hx hb dX5_init_4 rfl (lv_at hl 0 rfl) ?_
  refine lv_iconst (v := 4) hx hb dX5_init_5 (by decide) ?_
  refine va_put (D := (dC, dI)) (ci := 3) (v := .int 4) (ty := .int) (C := RX5) (T := TX5) (N := 17) hx hb hts i_X5 tyX5 tyX5_ok nmX5 hown hK hP hD hS 0 rfl rfl 0 (by decide) (hts (.fieldLink RX5 7 "SliceBodyModel" "wideX" "I") (by decide +kernel)) (fun _ h9 => h9) rfl (by decide +kernel) rfl rfl (Nat.le_of_ble_eq_true rfl) dX5_init_6 (fun H locs hP hD hS => ?_)
  have hP : va_P (dC, dI) vwCl [(m0, .inr (3, [.int 4, .int 0, .int 0, .null, .null, .int 0, .null, .null, .null, .int 0, .int 0, .null, .null, .null, .int 0, .int 0, .null]))] H := hP
  have hD : va_D A [(m0, .inr (3, [.int 4, .int 0, .int 0, .null, .null, .int 0, .null, .null, .null, .int 0, .int 0, .null, .null, .null, .int 0, .int 0, .null]))] := hD
  refine lv_aload_n hx hb dX5_init_9 rfl (lv_at hl 0 rfl) ?_
  refine lv_iconst (v := 4) hx hb dX5_init_10 (by decide) ?_
  refine va_put (D := (dC, dI)) (ci := 3) (v := .int 4) (ty := .int) (C := RX5) (T := TX5) (N := 17) hx hb hts i_X5 tyX5 tyX5_ok nmX5 hown hK hP hD hS 0 rfl rfl 1 (by decide) (hts (.fieldLink RX5 13 "SliceBodyModel" "wideY" "I") (by decide +kernel)) (fun _ h9 => h9) rfl (by decide +kernel) rfl rfl (Nat.le_of_ble_eq_true rfl) dX5_init_11 (fun H locs hP hD hS => ?_)
  have hP : va_P (dC, dI) vwCl [(m0, .inr (3, [.int 4, .int 4, .int 0, .null, .null, .int 0, .null, .null, .null, .int 0, .int 0, .null, .null, .null, .int 0, .int 0, .null]))] H := hP
  have hD : va_D A [(m0, .inr (3, [.int 4, .int 4, .int 0, .null, .null, .int 0, .null, .null, .null, .int 0, .int 0, .null, .null, .null, .int 0, .int 0, .null]))] := hD
  refine lv_aload_n hx hb dX5_init_14 rfl (lv_at hl 0 rfl) ?_
  refine lv_iconst (v := 4) hx hb dX5_init_15 (by decide) ?_
  refine va_put (D := (dC, dI)) (ci := 3) (v := .int 4) (ty := .int) (C := RX5) (T := TX5) (N := 17) hx hb hts i_X5 tyX5 tyX5_ok nmX5 hown hK hP hD hS 0 rfl rfl 2 (by decide) (hts (.fieldLink RX5 16 "SliceBodyModel" "wideZ" "I") (by decide +kernel)) (fun _ h9 => h9) rfl (by decide +kernel) rfl rfl (Nat.le_of_ble_eq_true rfl) dX5_init_16 (fun H locs hP hD hS => ?_)
  have hP : va_P (dC, dI) vwCl [(m0, .inr (3, [.int 4, .int 4, .int 4, .null, .null, .int 0, .null, .null, .null, .int 0, .int 0, .null, .null, .null, .int 0, .int 0, .null]))] H := hP
  have hD : va_D A [(m0, .inr (3, [.int 4, .int 4, .int 4, .null, .null, .int 0, .null, .null, .null, .int 0, .int 0, .null, .null, .null, .int 0, .int 0, .null]))] := hD
  refine lv_aload_n hx hb dX5_init_19 rfl (lv_at hl 0 rfl) ?_
  refine lv_sipush (v := 512) hx hb dX5_init_20 (by decide) ?_
  refine va_newa (atype := .boolean) (ty := .boolean) (N' := 512) (a0 := (512, .inl (fun _ => 0))) (n := 512) hx hb (hts (.arrayClass .boolean) (by decide +kernel)) rfl hK hP hD hS hA (nw_boolean 512) (by decide +kernel) (by decide +kernel) (by decide +kernel) (Nat.le_of_ble_eq_true rfl) (Nat.le_of_ble_eq_true rfl) dX5_init_23 (fun q1 k1 H hK hP hD hS => ?_)
  have hP : va_P (dC, dI) vwCl [(m0, .inr (3, [.int 4, .int 4, .int 4, .null, .null, .int 0, .null, .null, .null, .int 0, .int 0, .null, .null, .null, .int 0, .int 0, .null])), (q1, .inl (k1, 512, .inl (fun _ => 0)))] H := hP
  have hD : va_D A [(m0, .inr (3, [.int 4, .int 4, .int 4, .null, .null, .int 0, .null, .null, .null, .int 0, .int 0, .null, .null, .null, .int 0, .int 0, .null])), (q1, .inl (k1, 512, .inl (fun _ => 0)))] := hD
  refine W.widen (k := 1) (n := 512) (Nat.le_of_ble_eq_true rfl) (Nat.le_of_ble_eq_true rfl) ?_
  refine va_putF (D := (dC, dI)) (ci := 3) (v := .ref q1) (ty := .array .boolean) (C := RX5) (T := TX5) (N := 17) hx hb hts i_X5 tyX5 tyX5_ok nmX5 hown hK hP hD hS 0 rfl rfl 3 (by decide) (hts (.fieldLink RX5 19 "SliceBodyModel" "cubes" "[Z") (by decide +kernel)) (fun _ h9 => h9) rfl hin rfl (by decide +kernel) rfl rfl (Nat.le_of_ble_eq_true rfl) dX5_init_25 (fun H locs hP hD hS => ?_)
  have hP : va_P (dC, dI) vwCl [(m0, .inr (3, [.int 4, .int 4, .int 4, .ref q1, .null, .int 0, .null, .null, .null, .int 0, .int 0, .null, .null, .null, .int 0, .int 0, .null])), (q1, .inl (k1, 512, .inl (fun _ => 0)))] H := hP
  have hD : va_D A [(m0, .inr (3, [.int 4, .int 4, .int 4, .ref q1, .null, .int 0, .null, .null, .null, .int 0, .int 0, .null, .null, .null, .int 0, .int 0, .null])), (q1, .inl (k1, 512, .inl (fun _ => 0)))] := hD
  refine lv_aload_n hx hb dX5_init_28 rfl (lv_at hl 0 rfl) ?_
  refine lv_iconst (v := 2) hx hb dX5_init_29 (by decide) ?_
  refine va_newa (atype := .int) (ty := .int) (N' := 2) (a0 := (2, .inl (fun _ => 0))) (n := 2) hx hb (hts (.arrayClass .int) (by decide +kernel)) rfl hK hP hD hS hA (nw_int 2) (by decide +kernel) (by decide +kernel) (by decide +kernel) (Nat.le_of_ble_eq_true rfl) (Nat.le_of_ble_eq_true rfl) dX5_init_30 (fun q2 k2 H hK hP hD hS => ?_)
  have hP : va_P (dC, dI) vwCl [(m0, .inr (3, [.int 4, .int 4, .int 4, .ref q1, .null, .int 0, .null, .null, .null, .int 0, .int 0, .null, .null, .null, .int 0, .int 0, .null])), (q1, .inl (k1, 512, .inl (fun _ => 0))), (q2, .inl (k2, 2, .inl (fun _ => 0)))] H := hP
  have hD : va_D A [(m0, .inr (3, [.int 4, .int 4, .int 4, .ref q1, .null, .int 0, .null, .null, .null, .int 0, .int 0, .null, .null, .null, .int 0, .int 0, .null])), (q1, .inl (k1, 512, .inl (fun _ => 0))), (q2, .inl (k2, 2, .inl (fun _ => 0)))] := hD
  refine W.widen (k := 2) (n := 514) (Nat.le_of_ble_eq_true rfl) (Nat.le_of_ble_eq_true rfl) ?_
  refine va_putF (D := (dC, dI)) (ci := 3) (v := .ref q2) (ty := .array .int) (C := RX5) (T := TX5) (N := 17) hx hb hts i_X5 tyX5 tyX5_ok nmX5 hown hK hP hD hS 0 rfl rfl 4 (by decide) (hts (.fieldLink RX5 23 "SliceBodyModel" "chosen" "[I") (by decide +kernel)) (fun _ h9 => h9) rfl hin rfl (by decide +kernel) rfl rfl (Nat.le_of_ble_eq_true rfl) dX5_init_32 (fun H locs hP hD hS => ?_)
  have hP : va_P (dC, dI) vwCl [(m0, .inr (3, [.int 4, .int 4, .int 4, .ref q1, .ref q2, .int 0, .null, .null, .null, .int 0, .int 0, .null, .null, .null, .int 0, .int 0, .null])), (q1, .inl (k1, 512, .inl (fun _ => 0))), (q2, .inl (k2, 2, .inl (fun _ => 0)))] H := hP
  have hD : va_D A [(m0, .inr (3, [.int 4, .int 4, .int 4, .ref q1, .ref q2, .int 0, .null, .null, .null, .int 0, .int 0, .null, .null, .null, .int 0, .int 0, .null])), (q1, .inl (k1, 512, .inl (fun _ => 0))), (q2, .inl (k2, 2, .inl (fun _ => 0)))] := hD
  refine lv_aload_n hx hb dX5_init_35 rfl (lv_at hl 0 rfl) ?_
  refine lv_iconst (v := 4) hx hb dX5_init_36 (by decide) ?_
  refine va_newa (atype := .int) (ty := .int) (N' := 4) (a0 := (4, .inl (fun _ => 0))) (n := 4) hx hb (hts (.arrayClass .int) (by decide +kernel)) rfl hK hP hD hS hA (nw_int 4) (by decide +kernel) (by decide +kernel) (by decide +kernel) (Nat.le_of_ble_eq_true rfl) (Nat.le_of_ble_eq_true rfl) dX5_init_37 (fun q3 k3 H hK hP hD hS => ?_)
  have hP : va_P (dC, dI) vwCl [(m0, .inr (3, [.int 4, .int 4, .int 4, .ref q1, .ref q2, .int 0, .null, .null, .null, .int 0, .int 0, .null, .null, .null, .int 0, .int 0, .null])), (q1, .inl (k1, 512, .inl (fun _ => 0))), (q2, .inl (k2, 2, .inl (fun _ => 0))), (q3, .inl (k3, 4, .inl (fun _ => 0)))] H := hP
  have hD : va_D A [(m0, .inr (3, [.int 4, .int 4, .int 4, .ref q1, .ref q2, .int 0, .null, .null, .null, .int 0, .int 0, .null, .null, .null, .int 0, .int 0, .null])), (q1, .inl (k1, 512, .inl (fun _ => 0))), (q2, .inl (k2, 2, .inl (fun _ => 0))), (q3, .inl (k3, 4, .inl (fun _ => 0)))] := hD
  refine W.widen (k := 3) (n := 518) (Nat.le_of_ble_eq_true rfl) (Nat.le_of_ble_eq_true rfl) ?_
  refine va_putF (D := (dC, dI)) (ci := 3) (v := .ref q3) (ty := .array .int) (C := RX5) (T := TX5) (N := 17) hx hb hts i_X5 tyX5 tyX5_ok nmX5 hown hK hP hD hS 0 rfl rfl 6 (by decide) (hts (.fieldLink RX5 27 "SliceBodyModel" "begins" "[I") (by decide +kernel)) (fun _ h9 => h9) rfl hin rfl (by decide +kernel) rfl rfl (Nat.le_of_ble_eq_true rfl) dX5_init_39 (fun H locs hP hD hS => ?_)
  have hP : va_P (dC, dI) vwCl [(m0, .inr (3, [.int 4, .int 4, .int 4, .ref q1, .ref q2, .int 0, .ref q3, .null, .null, .int 0, .int 0, .null, .null, .null, .int 0, .int 0, .null])), (q1, .inl (k1, 512, .inl (fun _ => 0))), (q2, .inl (k2, 2, .inl (fun _ => 0))), (q3, .inl (k3, 4, .inl (fun _ => 0)))] H := hP
  have hD : va_D A [(m0, .inr (3, [.int 4, .int 4, .int 4, .ref q1, .ref q2, .int 0, .ref q3, .null, .null, .int 0, .int 0, .null, .null, .null, .int 0, .int 0, .null])), (q1, .inl (k1, 512, .inl (fun _ => 0))), (q2, .inl (k2, 2, .inl (fun _ => 0))), (q3, .inl (k3, 4, .inl (fun _ => 0)))] := hD
  refine lv_aload_n hx hb dX5_init_42 rfl (lv_at hl 0 rfl) ?_
  refine lv_iconst (v := 4) hx hb dX5_init_43 (by decide) ?_
  refine va_newa (atype := .int) (ty := .int) (N' := 4) (a0 := (4, .inl (fun _ => 0))) (n := 4) hx hb (hts (.arrayClass .int) (by decide +kernel)) rfl hK hP hD hS hA (nw_int 4) (by decide +kernel) (by decide +kernel) (by decide +kernel) (Nat.le_of_ble_eq_true rfl) (Nat.le_of_ble_eq_true rfl) dX5_init_44 (fun q4 k4 H hK hP hD hS => ?_)
  have hP : va_P (dC, dI) vwCl [(m0, .inr (3, [.int 4, .int 4, .int 4, .ref q1, .ref q2, .int 0, .ref q3, .null, .null, .int 0, .int 0, .null, .null, .null, .int 0, .int 0, .null])), (q1, .inl (k1, 512, .inl (fun _ => 0))), (q2, .inl (k2, 2, .inl (fun _ => 0))), (q3, .inl (k3, 4, .inl (fun _ => 0))), (q4, .inl (k4, 4, .inl (fun _ => 0)))] H := hP
  have hD : va_D A [(m0, .inr (3, [.int 4, .int 4, .int 4, .ref q1, .ref q2, .int 0, .ref q3, .null, .null, .int 0, .int 0, .null, .null, .null, .int 0, .int 0, .null])), (q1, .inl (k1, 512, .inl (fun _ => 0))), (q2, .inl (k2, 2, .inl (fun _ => 0))), (q3, .inl (k3, 4, .inl (fun _ => 0))), (q4, .inl (k4, 4, .inl (fun _ => 0)))] := hD
  refine W.widen (k := 4) (n := 522) (Nat.le_of_ble_eq_true rfl) (Nat.le_of_ble_eq_true rfl) ?_
  refine va_putF (D := (dC, dI)) (ci := 3) (v := .ref q4) (ty := .array .int) (C := RX5) (T := TX5) (N := 17) hx hb hts i_X5 tyX5 tyX5_ok nmX5 hown hK hP hD hS 0 rfl rfl 7 (by decide) (hts (.fieldLink RX5 30 "SliceBodyModel" "long0" "[I") (by decide +kernel)) (fun _ h9 => h9) rfl hin rfl (by decide +kernel) rfl rfl (Nat.le_of_ble_eq_true rfl) dX5_init_46 (fun H locs hP hD hS => ?_)
  have hP : va_P (dC, dI) vwCl [(m0, .inr (3, [.int 4, .int 4, .int 4, .ref q1, .ref q2, .int 0, .ref q3, .ref q4, .null, .int 0, .int 0, .null, .null, .null, .int 0, .int 0, .null])), (q1, .inl (k1, 512, .inl (fun _ => 0))), (q2, .inl (k2, 2, .inl (fun _ => 0))), (q3, .inl (k3, 4, .inl (fun _ => 0))), (q4, .inl (k4, 4, .inl (fun _ => 0)))] H := hP
  have hD : va_D A [(m0, .inr (3, [.int 4, .int 4, .int 4, .ref q1, .ref q2, .int 0, .ref q3, .ref q4, .null, .int 0, .int 0, .null, .null, .null, .int 0, .int 0, .null])), (q1, .inl (k1, 512, .inl (fun _ => 0))), (q2, .inl (k2, 2, .inl (fun _ => 0))), (q3, .inl (k3, 4, .inl (fun _ => 0))), (q4, .inl (k4, 4, .inl (fun _ => 0)))] := hD
  refine lv_aload_n hx hb dX5_init_49 rfl (lv_at hl 0 rfl) ?_
  refine lv_bipush (v := 64) hx hb dX5_init_50 (by decide) ?_
  refine va_newa (atype := .int) (ty := .int) (N' := 64) (a0 := (64, .inl (fun _ => 0))) (n := 64) hx hb (hts (.arrayClass .int) (by decide +kernel)) rfl hK hP hD hS hA (nw_int 64) (by decide +kernel) (by decide +kernel) (by decide +kernel) (Nat.le_of_ble_eq_true rfl) (Nat.le_of_ble_eq_true rfl) dX5_init_52 (fun q5 k5 H hK hP hD hS => ?_)
  have hP : va_P (dC, dI) vwCl [(m0, .inr (3, [.int 4, .int 4, .int 4, .ref q1, .ref q2, .int 0, .ref q3, .ref q4, .null, .int 0, .int 0, .null, .null, .null, .int 0, .int 0, .null])), (q1, .inl (k1, 512, .inl (fun _ => 0))), (q2, .inl (k2, 2, .inl (fun _ => 0))), (q3, .inl (k3, 4, .inl (fun _ => 0))), (q4, .inl (k4, 4, .inl (fun _ => 0))), (q5, .inl (k5, 64, .inl (fun _ => 0)))] H := hP
  have hD : va_D A [(m0, .inr (3, [.int 4, .int 4, .int 4, .ref q1, .ref q2, .int 0, .ref q3, .ref q4, .null, .int 0, .int 0, .null, .null, .null, .int 0, .int 0, .null])), (q1, .inl (k1, 512, .inl (fun _ => 0))), (q2, .inl (k2, 2, .inl (fun _ => 0))), (q3, .inl (k3, 4, .inl (fun _ => 0))), (q4, .inl (k4, 4, .inl (fun _ => 0))), (q5, .inl (k5, 64, .inl (fun _ => 0)))] := hD
  refine W.widen (k := 5) (n := 586) (Nat.le_of_ble_eq_true rfl) (Nat.le_of_ble_eq_true rfl) ?_
  refine va_putF (D := (dC, dI)) (ci := 3) (v := .ref q5) (ty := .array .int) (C := RX5) (T := TX5) (N := 17) hx hb hts i_X5 tyX5 tyX5_ok nmX5 hown hK hP hD hS 0 rfl rfl 8 (by decide) (hts (.fieldLink RX5 33 "SliceBodyModel" "part" "[I") (by decide +kernel)) (fun _ h9 => h9) rfl hin rfl (by decide +kernel) rfl rfl (Nat.le_of_ble_eq_true rfl) dX5_init_54 (fun H locs hP hD hS => ?_)
  have hP : va_P (dC, dI) vwCl [(m0, .inr (3, [.int 4, .int 4, .int 4, .ref q1, .ref q2, .int 0, .ref q3, .ref q4, .ref q5, .int 0, .int 0, .null, .null, .null, .int 0, .int 0, .null])), (q1, .inl (k1, 512, .inl (fun _ => 0))), (q2, .inl (k2, 2, .inl (fun _ => 0))), (q3, .inl (k3, 4, .inl (fun _ => 0))), (q4, .inl (k4, 4, .inl (fun _ => 0))), (q5, .inl (k5, 64, .inl (fun _ => 0)))] H := hP
  have hD : va_D A [(m0, .inr (3, [.int 4, .int 4, .int 4, .ref q1, .ref q2, .int 0, .ref q3, .ref q4, .ref q5, .int 0, .int 0, .null, .null, .null, .int 0, .int 0, .null])), (q1, .inl (k1, 512, .inl (fun _ => 0))), (q2, .inl (k2, 2, .inl (fun _ => 0))), (q3, .inl (k3, 4, .inl (fun _ => 0))), (q4, .inl (k4, 4, .inl (fun _ => 0))), (q5, .inl (k5, 64, .inl (fun _ => 0)))] := hD
  refine lv_aload_n hx hb dX5_init_57 rfl (lv_at hl 0 rfl) ?_
  refine lv_bipush (v := 64) hx hb dX5_init_58 (by decide) ?_
  refine va_newa (atype := .int) (ty := .int) (N' := 64) (a0 := (64, .inl (fun _ => 0))) (n := 64) hx hb (hts (.arrayClass .int) (by decide +kernel)) rfl hK hP hD hS hA (nw_int 64) (by decide +kernel) (by decide +kernel) (by decide +kernel) (Nat.le_of_ble_eq_true rfl) (Nat.le_of_ble_eq_true rfl) dX5_init_60 (fun q6 k6 H hK hP hD hS => ?_)
  have hP : va_P (dC, dI) vwCl [(m0, .inr (3, [.int 4, .int 4, .int 4, .ref q1, .ref q2, .int 0, .ref q3, .ref q4, .ref q5, .int 0, .int 0, .null, .null, .null, .int 0, .int 0, .null])), (q1, .inl (k1, 512, .inl (fun _ => 0))), (q2, .inl (k2, 2, .inl (fun _ => 0))), (q3, .inl (k3, 4, .inl (fun _ => 0))), (q4, .inl (k4, 4, .inl (fun _ => 0))), (q5, .inl (k5, 64, .inl (fun _ => 0))), (q6, .inl (k6, 64, .inl (fun _ => 0)))] H := hP
  have hD : va_D A [(m0, .inr (3, [.int 4, .int 4, .int 4, .ref q1, .ref q2, .int 0, .ref q3, .ref q4, .ref q5, .int 0, .int 0, .null, .null, .null, .int 0, .int 0, .null])), (q1, .inl (k1, 512, .inl (fun _ => 0))), (q2, .inl (k2, 2, .inl (fun _ => 0))), (q3, .inl (k3, 4, .inl (fun _ => 0))), (q4, .inl (k4, 4, .inl (fun _ => 0))), (q5, .inl (k5, 64, .inl (fun _ => 0))), (q6, .inl (k6, 64, .inl (fun _ => 0)))] := hD
  refine W.widen (k := 6) (n := 650) (Nat.le_of_ble_eq_true rfl) (Nat.le_of_ble_eq_true rfl) ?_
  refine va_putF (D := (dC, dI)) (ci := 3) (v := .ref q6) (ty := .array .int) (C := RX5) (T := TX5) (N := 17) hx hb hts i_X5 tyX5 tyX5_ok nmX5 hown hK hP hD hS 0 rfl rfl 11 (by decide) (hts (.fieldLink RX5 36 "SliceBodyModel" "column" "[I") (by decide +kernel)) (fun _ h9 => h9) rfl hin rfl (by decide +kernel) rfl rfl (Nat.le_of_ble_eq_true rfl) dX5_init_62 (fun H locs hP hD hS => ?_)
  have hP : va_P (dC, dI) vwCl [(m0, .inr (3, [.int 4, .int 4, .int 4, .ref q1, .ref q2, .int 0, .ref q3, .ref q4, .ref q5, .int 0, .int 0, .ref q6, .null, .null, .int 0, .int 0, .null])), (q1, .inl (k1, 512, .inl (fun _ => 0))), (q2, .inl (k2, 2, .inl (fun _ => 0))), (q3, .inl (k3, 4, .inl (fun _ => 0))), (q4, .inl (k4, 4, .inl (fun _ => 0))), (q5, .inl (k5, 64, .inl (fun _ => 0))), (q6, .inl (k6, 64, .inl (fun _ => 0)))] H := hP
  have hD : va_D A [(m0, .inr (3, [.int 4, .int 4, .int 4, .ref q1, .ref q2, .int 0, .ref q3, .ref q4, .ref q5, .int 0, .int 0, .ref q6, .null, .null, .int 0, .int 0, .null])), (q1, .inl (k1, 512, .inl (fun _ => 0))), (q2, .inl (k2, 2, .inl (fun _ => 0))), (q3, .inl (k3, 4, .inl (fun _ => 0))), (q4, .inl (k4, 4, .inl (fun _ => 0))), (q5, .inl (k5, 64, .inl (fun _ => 0))), (q6, .inl (k6, 64, .inl (fun _ => 0)))] := hD
  refine lv_aload_n hx hb dX5_init_65 rfl (lv_at hl 0 rfl) ?_
  refine lv_bipush (v := 64) hx hb dX5_init_66 (by decide) ?_
  refine va_newa (atype := .int) (ty := .int) (N' := 64) (a0 := (64, .inl (fun _ => 0))) (n := 64) hx hb (hts (.arrayClass .int) (by decide +kernel)) rfl hK hP hD hS hA (nw_int 64) (by decide +kernel) (by decide +kernel) (by decide +kernel) (Nat.le_of_ble_eq_true rfl) (Nat.le_of_ble_eq_true rfl) dX5_init_68 (fun q7 k7 H hK hP hD hS => ?_)
  have hP : va_P (dC, dI) vwCl [(m0, .inr (3, [.int 4, .int 4, .int 4, .ref q1, .ref q2, .int 0, .ref q3, .ref q4, .ref q5, .int 0, .int 0, .ref q6, .null, .null, .int 0, .int 0, .null])), (q1, .inl (k1, 512, .inl (fun _ => 0))), (q2, .inl (k2, 2, .inl (fun _ => 0))), (q3, .inl (k3, 4, .inl (fun _ => 0))), (q4, .inl (k4, 4, .inl (fun _ => 0))), (q5, .inl (k5, 64, .inl (fun _ => 0))), (q6, .inl (k6, 64, .inl (fun _ => 0))), (q7, .inl (k7, 64, .inl (fun _ => 0)))] H := hP
  have hD : va_D A [(m0, .inr (3, [.int 4, .int 4, .int 4, .ref q1, .ref q2, .int 0, .ref q3, .ref q4, .ref q5, .int 0, .int 0, .ref q6, .null, .null, .int 0, .int 0, .null])), (q1, .inl (k1, 512, .inl (fun _ => 0))), (q2, .inl (k2, 2, .inl (fun _ => 0))), (q3, .inl (k3, 4, .inl (fun _ => 0))), (q4, .inl (k4, 4, .inl (fun _ => 0))), (q5, .inl (k5, 64, .inl (fun _ => 0))), (q6, .inl (k6, 64, .inl (fun _ => 0))), (q7, .inl (k7, 64, .inl (fun _ => 0)))] := hD
  refine W.widen (k := 7) (n := 714) (Nat.le_of_ble_eq_true rfl) (Nat.le_of_ble_eq_true rfl) ?_
  refine va_putF (D := (dC, dI)) (ci := 3) (v := .ref q7) (ty := .array .int) (C := RX5) (T := TX5) (N := 17) hx hb hts i_X5 tyX5 tyX5_ok nmX5 hown hK hP hD hS 0 rfl rfl 12 (by decide) (hts (.fieldLink RX5 39 "SliceBodyModel" "runsIn" "[I") (by decide +kernel)) (fun _ h9 => h9) rfl hin rfl (by decide +kernel) rfl rfl (Nat.le_of_ble_eq_true rfl) dX5_init_70 (fun H locs hP hD hS => ?_)
  have hP : va_P (dC, dI) vwCl [(m0, .inr (3, [.int 4, .int 4, .int 4, .ref q1, .ref q2, .int 0, .ref q3, .ref q4, .ref q5, .int 0, .int 0, .ref q6, .ref q7, .null, .int 0, .int 0, .null])), (q1, .inl (k1, 512, .inl (fun _ => 0))), (q2, .inl (k2, 2, .inl (fun _ => 0))), (q3, .inl (k3, 4, .inl (fun _ => 0))), (q4, .inl (k4, 4, .inl (fun _ => 0))), (q5, .inl (k5, 64, .inl (fun _ => 0))), (q6, .inl (k6, 64, .inl (fun _ => 0))), (q7, .inl (k7, 64, .inl (fun _ => 0)))] H := hP
  have hD : va_D A [(m0, .inr (3, [.int 4, .int 4, .int 4, .ref q1, .ref q2, .int 0, .ref q3, .ref q4, .ref q5, .int 0, .int 0, .ref q6, .ref q7, .null, .int 0, .int 0, .null])), (q1, .inl (k1, 512, .inl (fun _ => 0))), (q2, .inl (k2, 2, .inl (fun _ => 0))), (q3, .inl (k3, 4, .inl (fun _ => 0))), (q4, .inl (k4, 4, .inl (fun _ => 0))), (q5, .inl (k5, 64, .inl (fun _ => 0))), (q6, .inl (k6, 64, .inl (fun _ => 0))), (q7, .inl (k7, 64, .inl (fun _ => 0)))] := hD
  refine lv_aload_n hx hb dX5_init_73 rfl (lv_at hl 0 rfl) ?_
  refine lv_bipush (v := 112) hx hb dX5_init_74 (by decide) ?_
  refine va_newa (atype := .int) (ty := .int) (N' := 112) (a0 := (112, .inl (fun _ => 0))) (n := 112) hx hb (hts (.arrayClass .int) (by decide +kernel)) rfl hK hP hD hS hA (nw_int 112) (by decide +kernel) (by decide +kernel) (by decide +kernel) (Nat.le_of_ble_eq_true rfl) (Nat.le_of_ble_eq_true rfl) dX5_init_76 (fun q8 k8 H hK hP hD hS => ?_)
  have hP : va_P (dC, dI) vwCl [(m0, .inr (3, [.int 4, .int 4, .int 4, .ref q1, .ref q2, .int 0, .ref q3, .ref q4, .ref q5, .int 0, .int 0, .ref q6, .ref q7, .null, .int 0, .int 0, .null])), (q1, .inl (k1, 512, .inl (fun _ => 0))), (q2, .inl (k2, 2, .inl (fun _ => 0))), (q3, .inl (k3, 4, .inl (fun _ => 0))), (q4, .inl (k4, 4, .inl (fun _ => 0))), (q5, .inl (k5, 64, .inl (fun _ => 0))), (q6, .inl (k6, 64, .inl (fun _ => 0))), (q7, .inl (k7, 64, .inl (fun _ => 0))), (q8, .inl (k8, 112, .inl (fun _ => 0)))] H := hP
  have hD : va_D A [(m0, .inr (3, [.int 4, .int 4, .int 4, .ref q1, .ref q2, .int 0, .ref q3, .ref q4, .ref q5, .int 0, .int 0, .ref q6, .ref q7, .null, .int 0, .int 0, .null])), (q1, .inl (k1, 512, .inl (fun _ => 0))), (q2, .inl (k2, 2, .inl (fun _ => 0))), (q3, .inl (k3, 4, .inl (fun _ => 0))), (q4, .inl (k4, 4, .inl (fun _ => 0))), (q5, .inl (k5, 64, .inl (fun _ => 0))), (q6, .inl (k6, 64, .inl (fun _ => 0))), (q7, .inl (k7, 64, .inl (fun _ => 0))), (q8, .inl (k8, 112, .inl (fun _ => 0)))] := hD
  refine W.widen (k := 8) (n := 826) (Nat.le_of_ble_eq_true rfl) (Nat.le_of_ble_eq_true rfl) ?_
  refine va_putF (D := (dC, dI)) (ci := 3) (v := .ref q8) (ty := .array .int) (C := RX5) (T := TX5) (N := 17) hx hb hts i_X5 tyX5 tyX5_ok nmX5 hown hK hP hD hS 0 rfl rfl 13 (by decide) (hts (.fieldLink RX5 42 "SliceBodyModel" "rows" "[I") (by decide +kernel)) (fun _ h9 => h9) rfl hin rfl (by decide +kernel) rfl rfl (Nat.le_of_ble_eq_true rfl) dX5_init_78 (fun H locs hP hD hS => ?_)
  have hP : va_P (dC, dI) vwCl [(m0, .inr (3, [.int 4, .int 4, .int 4, .ref q1, .ref q2, .int 0, .ref q3, .ref q4, .ref q5, .int 0, .int 0, .ref q6, .ref q7, .ref q8, .int 0, .int 0, .null])), (q1, .inl (k1, 512, .inl (fun _ => 0))), (q2, .inl (k2, 2, .inl (fun _ => 0))), (q3, .inl (k3, 4, .inl (fun _ => 0))), (q4, .inl (k4, 4, .inl (fun _ => 0))), (q5, .inl (k5, 64, .inl (fun _ => 0))), (q6, .inl (k6, 64, .inl (fun _ => 0))), (q7, .inl (k7, 64, .inl (fun _ => 0))), (q8, .inl (k8, 112, .inl (fun _ => 0)))] H := hP
  have hD : va_D A [(m0, .inr (3, [.int 4, .int 4, .int 4, .ref q1, .ref q2, .int 0, .ref q3, .ref q4, .ref q5, .int 0, .int 0, .ref q6, .ref q7, .ref q8, .int 0, .int 0, .null])), (q1, .inl (k1, 512, .inl (fun _ => 0))), (q2, .inl (k2, 2, .inl (fun _ => 0))), (q3, .inl (k3, 4, .inl (fun _ => 0))), (q4, .inl (k4, 4, .inl (fun _ => 0))), (q5, .inl (k5, 64, .inl (fun _ => 0))), (q6, .inl (k6, 64, .inl (fun _ => 0))), (q7, .inl (k7, 64, .inl (fun _ => 0))), (q8, .inl (k8, 112, .inl (fun _ => 0)))] := hD
  refine lv_aload_n hx hb dX5_init_81 rfl (lv_at hl 0 rfl) ?_
  refine lv_bipush (v := 112) hx hb dX5_init_82 (by decide) ?_
  refine va_newa (atype := .int) (ty := .int) (N' := 112) (a0 := (112, .inl (fun _ => 0))) (n := 112) hx hb (hts (.arrayClass .int) (by decide +kernel)) rfl hK hP hD hS hA (nw_int 112) (by decide +kernel) (by decide +kernel) (by decide +kernel) (Nat.le_of_ble_eq_true rfl) (Nat.le_of_ble_eq_true rfl) dX5_init_84 (fun q9 k9 H hK hP hD hS => ?_)
  have hP : va_P (dC, dI) vwCl [(m0, .inr (3, [.int 4, .int 4, .int 4, .ref q1, .ref q2, .int 0, .ref q3, .ref q4, .ref q5, .int 0, .int 0, .ref q6, .ref q7, .ref q8, .int 0, .int 0, .null])), (q1, .inl (k1, 512, .inl (fun _ => 0))), (q2, .inl (k2, 2, .inl (fun _ => 0))), (q3, .inl (k3, 4, .inl (fun _ => 0))), (q4, .inl (k4, 4, .inl (fun _ => 0))), (q5, .inl (k5, 64, .inl (fun _ => 0))), (q6, .inl (k6, 64, .inl (fun _ => 0))), (q7, .inl (k7, 64, .inl (fun _ => 0))), (q8, .inl (k8, 112, .inl (fun _ => 0))), (q9, .inl (k9, 112, .inl (fun _ => 0)))] H := hP
  have hD : va_D A [(m0, .inr (3, [.int 4, .int 4, .int 4, .ref q1, .ref q2, .int 0, .ref q3, .ref q4, .ref q5, .int 0, .int 0, .ref q6, .ref q7, .ref q8, .int 0, .int 0, .null])), (q1, .inl (k1, 512, .inl (fun _ => 0))), (q2, .inl (k2, 2, .inl (fun _ => 0))), (q3, .inl (k3, 4, .inl (fun _ => 0))), (q4, .inl (k4, 4, .inl (fun _ => 0))), (q5, .inl (k5, 64, .inl (fun _ => 0))), (q6, .inl (k6, 64, .inl (fun _ => 0))), (q7, .inl (k7, 64, .inl (fun _ => 0))), (q8, .inl (k8, 112, .inl (fun _ => 0))), (q9, .inl (k9, 112, .inl (fun _ => 0)))] := hD
  refine W.widen (k := 9) (n := 938) (Nat.le_of_ble_eq_true rfl) (Nat.le_of_ble_eq_true rfl) ?_
  refine va_putF (D := (dC, dI)) (ci := 3) (v := .ref q9) (ty := .array .int) (C := RX5) (T := TX5) (N := 17) hx hb hts i_X5 tyX5 tyX5_ok nmX5 hown hK hP hD hS 0 rfl rfl 16 (by decide) (hts (.fieldLink RX5 45 "SliceBodyModel" "aside" "[I") (by decide +kernel)) (fun _ h9 => h9) rfl hin rfl (by decide +kernel) rfl rfl (Nat.le_of_ble_eq_true rfl) dX5_init_86 (fun H locs hP hD hS => ?_)
  have hP : va_P (dC, dI) vwCl [(m0, .inr (3, [.int 4, .int 4, .int 4, .ref q1, .ref q2, .int 0, .ref q3, .ref q4, .ref q5, .int 0, .int 0, .ref q6, .ref q7, .ref q8, .int 0, .int 0, .ref q9])), (q1, .inl (k1, 512, .inl (fun _ => 0))), (q2, .inl (k2, 2, .inl (fun _ => 0))), (q3, .inl (k3, 4, .inl (fun _ => 0))), (q4, .inl (k4, 4, .inl (fun _ => 0))), (q5, .inl (k5, 64, .inl (fun _ => 0))), (q6, .inl (k6, 64, .inl (fun _ => 0))), (q7, .inl (k7, 64, .inl (fun _ => 0))), (q8, .inl (k8, 112, .inl (fun _ => 0))), (q9, .inl (k9, 112, .inl (fun _ => 0)))] H := hP
  have hD : va_D A [(m0, .inr (3, [.int 4, .int 4, .int 4, .ref q1, .ref q2, .int 0, .ref q3, .ref q4, .ref q5, .int 0, .int 0, .ref q6, .ref q7, .ref q8, .int 0, .int 0, .ref q9])), (q1, .inl (k1, 512, .inl (fun _ => 0))), (q2, .inl (k2, 2, .inl (fun _ => 0))), (q3, .inl (k3, 4, .inl (fun _ => 0))), (q4, .inl (k4, 4, .inl (fun _ => 0))), (q5, .inl (k5, 64, .inl (fun _ => 0))), (q6, .inl (k6, 64, .inl (fun _ => 0))), (q7, .inl (k7, 64, .inl (fun _ => 0))), (q8, .inl (k8, 112, .inl (fun _ => 0))), (q9, .inl (k9, 112, .inl (fun _ => 0)))] := hD
  have e_k3 : k3 = k2 := same_arr hK (i := 2) (j := 1) rfl rfl
  have e_k4 : k4 = k2 := same_arr hK (i := 3) (j := 1) rfl rfl
  have e_k5 : k5 = k2 := same_arr hK (i := 4) (j := 1) rfl rfl
  have e_k6 : k6 = k2 := same_arr hK (i := 5) (j := 1) rfl rfl
  have e_k7 : k7 = k2 := same_arr hK (i := 6) (j := 1) rfl rfl
  have e_k8 : k8 = k2 := same_arr hK (i := 7) (j := 1) rfl rfl
  have e_k9 : k9 = k2 := same_arr hK (i := 8) (j := 1) rfl rfl
  rw [e_k3, e_k4, e_k5, e_k6, e_k7, e_k8, e_k9] at hP hD
  have hK := hK.sub (tys' := [(k2, .int), (k1, .boolean)]) [1, 0] rfl
  exact W.vret hx hb hr (fun t ht hW => ⟨⟨(q1, q2, q3, q4, q5, q6, q7, q8, q9, k2, k1), rfl, trivial, hPr ht hP, va_K.moved hW.alike hK, hD⟩, hS.F ht⟩) hS.2.2 dX5_init_89
set_option maxHeartbeats 4000000 in
set_option maxRecDepth 100000 in
theorem c_X4_init (l : Launch) (dC : Nat → ClassId) (dI : Nat → Nat → Nat) (b0 : Nat) (sz : Nat) : Met l yX4_init wsX4_init ({ frames := 2, cells := 5, slots := 196, locals := 40 } : Room) (MPre (dC, dI) vwCl [(b0, .inr (2, [.null, .null]))] [] sz [.ref b0]) (va_Qv (fun _ : Nat × Nat × Nat × Nat × Nat × ClassId => True) (fun (z : Nat × Nat × Nat × Nat × Nat × ClassId) (t : State) => va_P (dC, dI) vwCl (wX b0 z.1 z.2.1 z.2.2.1 z.2.2.2.1 z.2.2.2.2.1 z.2.2.2.2.2 (z0S, z0B)) t.heap ∧ va_K (dC, dI) vwCl [(z.2.2.2.2.2, .int)] t ∧ va_D (va_A [(b0, .inr (2, [.null, .null]))] sz) (wX b0 z.1 z.2.1 z.2.2.1 z.2.2.2.1 z.2.2.2.2.1 z.2.2.2.2.2 (z0S, z0B))) (va_A [(b0, .inr (2, [.null, .null]))] sz)) 5 196 (va_A [(b0, .inr (2, [.null, .null]))] sz) := by
  refine Met.ofW (cc := cX4_init) (maxL := 1) (ret := none) (by decide) rfl ?_
  intro p e s m args below meth c s₁ B hml hv
  obtain ⟨rfl, hsz, hP, hK, hD0⟩ := hv
  have hx := B.exec
  have hb := B.bytes
  have hr := B.returns
  have hts := atoms_spec (ws := wsX4_init) B.pre
  have hown : s.vm.findClass RX4 = some m.cls := findClass_of_methodNamed B.named
  have hlocks := B.notSynchronized
  have hin : meth.name = "<init>" := (name_of_methodNamed B.named B.method).1
  subst hsz
  have hD := hD0.self (sz := s.heap.size)
  generalize hAe : va_A [(b0, .inr (2, [.null, .null]))] s.heap.size = A at hD ⊢
  have hA : ∀ q : Nat, s.heap.size ≤ q → A q := fun q h => by rw [← hAe]; exact Or.inr h
  have hS : va_S A s.heap s.heap [] := va_S.rf
  have hl := lv_entry ([.ref b0]) (n := 1) (Nat.le_of_ble_eq_true rfl)
  rw [lg_entry_eq]
  generalize (lg_sl ([.ref b0]) ++ List.replicate (1 - (lg_sl ([.ref b0])).length) Slot.unset).toArray = ls at hl ⊢
  have hl : lv_has ls 1 [(0, .ref b0)] := hl
  have i_X4 : ∀ w ∈ u_ws RX4 TX4 2, w ∈ wsX4_init := by decide +kernel
  have i_X3 : ∀ w ∈ u_ws RX3 TX3 7, w ∈ wsX4_init := by decide +kernel
  have i_X0 : ∀ w ∈ u_ws RX0 TX0 5, w ∈ wsX4_init := by decide +kernel
  refine lv_aload_n hx hb dX4_init_0 rfl (lv_at hl 0 rfl) ?_
  refine W.objInit hx hb hown (hts (.methodLink RX4 1 objectInit) (by decide +kernel)) (hts (.instanceMethod objectInit) (by decide +kernel)) (hts (.code objectInit ⟨#[0xb1]⟩ 1 none) (by decide +kernel)) rfl (by rw [hml]; exact hl.1) rfl dX4_init_1 (Nat.le_of_ble_eq_true rfl) (Nat.le_of_ble_eq_true rfl) ?_
  refine W.eq (g2 := F0 m 4 ls []) rfl ?_
  refine lv_aload_n hx hb dX4_init_4 rfl (lv_at hl 0 rfl) ?_
  refine va_new (ci := 1) (fs := [.null, .null, .int 0, .int 0, .int 0, .int 0, .int 0]) (C := RX3) (T := TX3) (N := 7) hx hb hts i_X3 tyX3 tyX3_ok hown (hts (.classLink RX4 7 RX3) (by decide +kernel)) (hts (.instantiable RX3 7) (by decide +kernel)) (hts (.initialized RX3) (by decide +kernel)) hK hP hD hS hA rfl (fun j hj => by rcases (show j = 0 ∨ j = 1 ∨ j = 2 ∨ j = 3 ∨ j = 4 ∨ j = 5 ∨ j = 6 by omega) with rfl | rfl | rfl | rfl | rfl | rfl | rfl <;> rfl) (Nat.le_of_ble_eq_true rfl) (Nat.le_of_ble_eq_true rfl) dX4_init_5 (fun h0 H hP hD hS => ?_)
  have hP : va_P (dC, dI) vwCl [(b0, .inr (2, [.null, .null])), (h0, .inr (1, [.null, .null, .int 0, .int 0, .int 0, .int 0, .int 0]))] H := hP
  have hD : va_D A [(b0, .inr (2, [.null, .null])), (h0, .inr (1, [.null, .null, .int 0, .int 0, .int 0, .int 0, .int 0]))] := hD
  refine W.widen (k := 1) (n := 7) (Nat.le_of_ble_eq_true rfl) (Nat.le_of_ble_eq_true rfl) ?_
  refine lv_dup hx hb dX4_init_8 rfl ?_
  have hPc := hP.sub (ws' := [(h0, .inr (1, [.null, .null, .int 0, .int 0, .int 0, .int 0, .int 0]))]) [1] rfl
  have hDc := hD.sub (ws' := [(h0, .inr (1, [.null, .null, .int 0, .int 0, .int 0, .int 0, .int 0]))]) [1] (by decide) rfl
  have hFc := fr_all (ws := [(h0, .inr (1, [.null, .null, .int 0, .int 0, .int 0, .int 0, .int 0]))]) hDc hS hA
  refine va_callv (va_runI (As := []) (rest := [.ref h0, .ref b0]) ⟨hx, hb, hml, hown, hts⟩ (c_X3_init l dC dI h0 H.size) (cwI 0 hts gX4_init_X3_init rfl rfl rfl (hts (.initialized RX3) (by decide +kernel)) (hts (.methodLink RX4 9 yX3_init) (by decide +kernel)) (hts (.instanceMethod yX3_init) (by decide +kernel)) rfl (by decide +kernel) ⟨Nat.le_of_ble_eq_true rfl, Nat.le_of_ble_eq_true rfl⟩) ⟨fbM, fun U hU hW => ⟨rfl, by rw [hU], by rw [hU]; exact hPc, va_K.moved hW.alike hK, hDc.weaken (fun _ _ _ _ => trivial)⟩⟩ rfl rfl hl.1 rfl (lv_room (Nat.le_of_ble_eq_true rfl)) dX4_init_9 ⟨Nat.le_of_ble_eq_true rfl, Nat.le_of_ble_eq_true rfl⟩) hS (fun q _ h => hFc q h) hFc (fun z t H1 locs ht hvm _ hB _ hk1 hS => ?_)
  obtain ⟨h1, h2, cI⟩ := z
  obtain ⟨hP1, hK1, hD1⟩ := hB
  rw [ht] at hP1
  have hK1 := va_K.moved hvm.symm hK1
  obtain ⟨hP, hD⟩ := va_join (wr := [(b0, .inr (2, [.null, .null]))]) (w1 := wS h0 h1 h2 cI z0S) hP hD [1] [0] rfl rfl (by decide) (by decide) hk1 hFc hP1 hD1
  have hK : va_K (dC, dI) vwCl [(cI, .int)] s := hK1
  generalize H1 = H at hP hS ⊢
  refine W.widen (k := 3) (n := 79) (Nat.le_of_ble_eq_true rfl) (Nat.le_of_ble_eq_true rfl) ?_
  have hP : va_P (dC, dI) vwCl ((b0, .inr (2, [.null, .null])) :: wS h0 h1 h2 cI z0S) H := hP
  have hD : va_D A ((b0, .inr (2, [.null, .null])) :: wS h0 h1 h2 cI z0S) := hD
  refine va_putF (D := (dC, dI)) (ci := 2) (v := .ref h0) (ty := .object "SliceBody$Solid") (C := RX4) (T := TX4) (N := 2) hx hb hts i_X4 tyX4 tyX4_ok nmX4 hown hK hP hD hS 0 rfl rfl 0 (by decide) (hts (.fieldLink RX4 10 "SliceBody" "solid" "LSliceBody$Solid;") (by decide +kernel)) (fun _ h9 => h9) rfl hin rfl (by decide +kernel) rfl rfl (Nat.le_of_ble_eq_true rfl) dX4_init_12 (fun H locs hP hD hS => ?_)
  have hP : va_P (dC, dI) vwCl ((b0, .inr (2, [.ref h0, .null])) :: wS h0 h1 h2 cI z0S) H := hP
  have hD : va_D A ((b0, .inr (2, [.ref h0, .null])) :: wS h0 h1 h2 cI z0S) := hD
  refine lv_aload_n hx hb dX4_init_15 rfl (lv_at hl 0 rfl) ?_
  refine va_new (ci := 0) (fs := [.null, .int 0, .int 0, .int 0, .int 0]) (C := RX0) (T := TX0) (N := 5) hx hb hts i_X0 tyX0 tyX0_ok hown (hts (.classLink RX4 16 RX0) (by decide +kernel)) (hts (.instantiable RX0 5) (by decide +kernel)) (hts (.initialized RX0) (by decide +kernel)) hK hP hD hS hA rfl (fun j hj => by rcases (show j = 0 ∨ j = 1 ∨ j = 2 ∨ j = 3 ∨ j = 4 by omega) with rfl | rfl | rfl | rfl | rfl <;> rfl) (Nat.le_of_ble_eq_true rfl) (Nat.le_of_ble_eq_true rfl) dX4_init_16 (fun g0 H hP hD hS => ?_)
  have hP : va_P (dC, dI) vwCl ((b0, .inr (2, [.ref h0, .null])) :: (wS h0 h1 h2 cI z0S ++ [(g0, .inr (0, [.null, .int 0, .int 0, .int 0, .int 0]))])) H := hP
  have hD : va_D A ((b0, .inr (2, [.ref h0, .null])) :: (wS h0 h1 h2 cI z0S ++ [(g0, .inr (0, [.null, .int 0, .int 0, .int 0, .int 0]))])) := hD
  refine W.widen (k := 4) (n := 84) (Nat.le_of_ble_eq_true rfl) (Nat.le_of_ble_eq_true rfl) ?_
  refine lv_dup hx hb dX4_init_19 rfl ?_
  have hPc := hP.sub (ws' := [(g0, .inr (0, [.null, .int 0, .int 0, .int 0, .int 0]))]) [4] rfl
  have hDc := hD.sub (ws' := [(g0, .inr (0, [.null, .int 0, .int 0, .int 0, .int 0]))]) [4] (by decide) rfl
  have hFc := fr_all (ws := [(g0, .inr (0, [.null, .int 0, .int 0, .int 0, .int 0]))]) hDc hS hA
  have hK0 := hK.sub (tys' := []) [] rfl
  refine va_callv (va_runI (As := []) (rest := [.ref g0, .ref b0]) ⟨hx, hb, hml, hown, hts⟩ (c_X0_init l dC dI g0 H.size) (cwI 0 hts gX4_init_X0_init rfl rfl rfl (hts (.initialized RX0) (by decide +kernel)) (hts (.methodLink RX4 18 yX0_init) (by decide +kernel)) (hts (.instanceMethod yX0_init) (by decide +kernel)) rfl (by decide +kernel) ⟨Nat.le_of_ble_eq_true rfl, Nat.le_of_ble_eq_true rfl⟩) ⟨fbM, fun U hU hW => ⟨rfl, by rw [hU], by rw [hU]; exact hPc, va_K.moved hW.alike hK0, hDc.weaken (fun _ _ _ _ => trivial)⟩⟩ rfl rfl hl.1 rfl (lv_room (Nat.le_of_ble_eq_true rfl)) dX4_init_20 ⟨Nat.le_of_ble_eq_true rfl, Nat.le_of_ble_eq_true rfl⟩) hS (fun q _ h => hFc q h) hFc (fun z t H1 locs ht hvm _ hB _ hk1 hS => ?_)
  obtain ⟨g1, cJ⟩ := z
  obtain ⟨hP1, hK1, hD1⟩ := hB
  rw [ht] at hP1
  have hK1 := va_K.moved hvm.symm hK1
  obtain ⟨hP, hD⟩ := va_join (wr := (b0, .inr (2, [.ref h0, .null])) :: wS h0 h1 h2 cI z0S) (w1 := wB g0 g1 cJ z0B) hP hD [4] [0, 1, 2, 3] rfl rfl (by decide) (by decide) hk1 hFc hP1 hD1
  have e_J : cJ = cI := same_arr (hK1.app hK) (i := 0) (j := 1) rfl rfl
  rw [e_J] at hP hD
  generalize H1 = H at hP hS ⊢
  refine W.widen (k := 5) (n := 196) (Nat.le_of_ble_eq_true rfl) (Nat.le_of_ble_eq_true rfl) ?_
  have hP : va_P (dC, dI) vwCl ((b0, .inr (2, [.ref h0, .null])) :: (wS h0 h1 h2 cI z0S ++ wB g0 g1 cI z0B)) H := hP
  have hD : va_D A ((b0, .inr (2, [.ref h0, .null])) :: (wS h0 h1 h2 cI z0S ++ wB g0 g1 cI z0B)) := hD
  refine va_putF (D := (dC, dI)) (ci := 2) (v := .ref g0) (ty := .object "SliceBody$Boards") (C := RX4) (T := TX4) (N := 2) hx hb hts i_X4 tyX4 tyX4_ok nmX4 hown hK hP hD hS 0 rfl rfl 1 (by decide) (hts (.fieldLink RX4 19 "SliceBody" "boards" "LSliceBody$Boards;") (by decide +kernel)) (fun _ h9 => h9) rfl hin rfl (by decide +kernel) rfl rfl (Nat.le_of_ble_eq_true rfl) dX4_init_23 (fun H locs hP hD hS => ?_)
  have hP : va_P (dC, dI) vwCl (wX b0 h0 h1 h2 g0 g1 cI (z0S, z0B)) H := hP
  have hD : va_D A (wX b0 h0 h1 h2 g0 g1 cI (z0S, z0B)) := hD
  exact W.vret hx hb hr (fun t ht hW => ⟨⟨(h0, h1, h2, g0, g1, cI), rfl, trivial, hPr ht hP, va_K.moved hW.alike hK, hD⟩, hS.F ht⟩) hS.2.2 dX4_init_26
