set_option maxHeartbeats 4000000 in
set_option maxRecDepth 100000 in
theorem c_X5_has (l : Launch) (dC : Nat → ClassId) (dI : Nat → Nat → Nat) (m0 m1 m2 m3 m4 m5 m6 m7 m8 m9 : Nat) (cI cZ : ClassId) {u : St} {x1 : Int32} {x2 : Int32} {x3 : Int32} {post : Int32 → Prop} (h : P_X5_has u x1 x2 x3 post) : Met l yX5_has wsX5_has ({ frames := 0, cells := 0, slots := 0, locals := 0 } : Room) (RPre (dC, dI) vwCl (wM m0 m1 m2 m3 m4 m5 m6 m7 m8 m9 cI cZ u) [(cI, .int), (cZ, .boolean)] [.ref m0, .int x1, .int x2, .int x3]) (vp_Si post) 0 0 (fun _ => False) := by
  refine Met.ofW (cc := cX5_has) (maxL := 4) (ret := (some .boolean)) (by decide) rfl ?_
  intro p e s m args below meth c s₁ B hml hv
  obtain ⟨rfl, hP, hK⟩ := hv
  have hx := B.exec
  have hb := B.bytes
  have hr := B.returns
  have hts := atoms_spec (ws := wsX5_has) B.pre
  have hown : s.vm.findClass RX5 = some m.cls := findClass_of_methodNamed B.named
  have hlocks := B.notSynchronized
  have hl := lv_entry ([.ref m0, .int x1, .int x2, .int x3]) (n := 4) (Nat.le_of_ble_eq_true rfl)
  rw [lg_entry_eq]
  generalize (lg_sl ([.ref m0, .int x1, .int x2, .int x3]) ++ List.replicate (4 - (lg_sl ([.ref m0, .int x1, .int x2, .int x3])).length) Slot.unset).toArray = ls at hl ⊢
  have hl : lv_has ls 4 [(0, .ref m0), (1, .int x1), (2, .int x2), (3, .int x3)] := hl
  have i_X5 : ∀ w ∈ u_ws RX5 TX5 17, w ∈ wsX5_has := by decide +kernel
  have f_19 := hts (.fieldLink RX5 19 "SliceBodyModel" "cubes" "[Z") (by decide +kernel)
  unfold P_X5_has at h
  refine lv_aload_n hx hb dX5_has_0 rfl (lv_at hl 0 rfl) ?_
  refine va_get (D := (dC, dI)) (ci := 3) (v := .ref m1) (C := RX5) (T := TX5) (N := 17) hx hb hts i_X5 hown hK hP 0 rfl rfl 3 (by decide) f_19 (fun _ h9 => h9) rfl dX5_has_1 ?_
  refine lv_bipush (v := 64) hx hb dX5_has_4 (by decide) ?_
  refine lv_iload_n hx hb dX5_has_6 rfl (lv_at hl 1 rfl) ?_
  refine lv_imul hx hb dX5_has_7 ?_
  refine lv_bipush (v := 8) hx hb dX5_has_8 (by decide) ?_
  refine lv_iload_n hx hb dX5_has_10 rfl (lv_at hl 2 rfl) ?_
  refine lv_imul hx hb dX5_has_11 ?_
  refine lv_iadd hx hb dX5_has_12 ?_
  refine lv_iload_n hx hb dX5_has_13 rfl (lv_at hl 3 rfl) ?_
  refine lv_iadd hx hb dX5_has_14 ?_
  obtain ⟨hi, h⟩ := h
  refine va_zald hx hb hK hP 1 1 rfl rfl hi dX5_has_15 ?_
  obtain ⟨hn, h⟩ := h
  exact W.zret (ty := .boolean) hx hb hr hn (fun t ht _ => ⟨_, rfl, h, ht⟩) (fun q hq => by cases hq) dX5_has_16
set_option maxHeartbeats 4000000 in
set_option maxRecDepth 100000 in
theorem c_X5_isPlace (l : Launch) (dC : Nat → ClassId) (dI : Nat → Nat → Nat) (m0 m1 m2 m3 m4 m5 m6 m7 m8 m9 : Nat) (cI cZ : ClassId) {u : St} {x1 : Int32} {x2 : Int32} {x3 : Int32} {post : Int32 → Prop} (h : P_X5_isPlace u x1 x2 x3 post) : Met l yX5_isPlace wsX5_isPlace ({ frames := 1, cells := 0, slots := 0, locals := 25 } : Room) (RPre (dC, dI) vwCl (wM m0 m1 m2 m3 m4 m5 m6 m7 m8 m9 cI cZ u) [(cI, .int), (cZ, .boolean)] [.ref m0, .int x1, .int x2, .int x3]) (vp_Si post) 0 0 (fun _ => False) := by
  refine Met.ofW (cc := cX5_isPlace) (maxL := 4) (ret := (some .boolean)) (by decide) rfl ?_
  intro p e s m args below meth c s₁ B hml hv
  obtain ⟨rfl, hP, hK⟩ := hv
  have hx := B.exec
  have hb := B.bytes
  have hr := B.returns
  have hts := atoms_spec (ws := wsX5_isPlace) B.pre
  have hown : s.vm.findClass RX5 = some m.cls := findClass_of_methodNamed B.named
  have hlocks := B.notSynchronized
  have hl := lv_entry ([.ref m0, .int x1, .int x2, .int x3]) (n := 4) (Nat.le_of_ble_eq_true rfl)
  rw [lg_entry_eq]
  generalize (lg_sl ([.ref m0, .int x1, .int x2, .int x3]) ++ List.replicate (4 - (lg_sl ([.ref m0, .int x1, .int x2, .int x3])).length) Slot.unset).toArray = ls at hl ⊢
  have hl : lv_has ls 4 [(0, .ref m0), (1, .int x1), (2, .int x2), (3, .int x3)] := hl
  have i_X5 : ∀ w ∈ u_ws RX5 TX5 17, w ∈ wsX5_isPlace := by decide +kernel
  have f_7 := hts (.fieldLink RX5 7 "SliceBodyModel" "wideX" "I") (by decide +kernel)
  have f_13 := hts (.fieldLink RX5 13 "SliceBodyModel" "wideY" "I") (by decide +kernel)
  have f_16 := hts (.fieldLink RX5 16 "SliceBodyModel" "wideZ" "I") (by decide +kernel)
  unfold P_X5_isPlace at h
  refine lv_iload_n hx hb dX5_isPlace_0 rfl (lv_at hl 1 rfl) ?_
  refine lv_i2l hx hb dX5_isPlace_1 rfl ?_
  refine lv_lconst (v := 0) hx hb dX5_isPlace_2 (by decide) ?_
  refine lv_aload_n hx hb dX5_isPlace_3 rfl (lv_at hl 0 rfl) ?_
  refine va_get (D := (dC, dI)) (ci := 3) (v := .int (u.1 0)) (C := RX5) (T := TX5) (N := 17) hx hb hts i_X5 hown hK hP 0 rfl rfl 0 (by decide) f_7 (fun _ h9 => h9) rfl dX5_isPlace_4 ?_
  refine lv_iconst (v := 1) hx hb dX5_isPlace_7 (by decide) ?_
  refine lv_isub hx hb dX5_isPlace_8 ?_
  refine lv_i2l hx hb dX5_isPlace_9 rfl ?_
  refine vp_callSi (W.runS (As := [.long _, .long _, .long _]) (rest := []) ⟨hx, hb, hml, hown, hts⟩ (c_X5_in l h) (va_cwS 3 hts gX5_isPlace_X5_in rfl rfl rfl (by decide +kernel) ⟨Nat.le_of_ble_eq_true rfl, Nat.le_of_ble_eq_true rfl⟩) ⟨fun _ _ _ _ q => q, fun _ _ _ => ⟨rfl, trivial⟩⟩ rfl rfl hl.1 rfl (lv_room (Nat.le_of_ble_eq_true rfl)) dX5_isPlace_10 ⟨Nat.zero_le _, Nat.zero_le _⟩) (fun r_1 h => ?_)
  refine lv_if_eq (tgt := 52) hx hb dX5_isPlace_13 (by decide) (fun c_13 => ?_) (fun c_13 => ?_)
  · have h := br1 h c_13
    refine lv_iconst (v := 0) hx hb dX5_isPlace_52 (by decide) ?_
    exact W.zret (ty := .boolean) hx hb hr rfl (fun t ht _ => ⟨_, rfl, h, ht⟩) (fun q hq => by cases hq) dX5_isPlace_53
  · have h := br2 h c_13
    refine lv_iload_n hx hb dX5_isPlace_16 rfl (lv_at hl 2 rfl) ?_
    refine lv_i2l hx hb dX5_isPlace_17 rfl ?_
    refine lv_lconst (v := 0) hx hb dX5_isPlace_18 (by decide) ?_
    refine lv_aload_n hx hb dX5_isPlace_19 rfl (lv_at hl 0 rfl) ?_
    refine va_get (D := (dC, dI)) (ci := 3) (v := .int (u.1 1)) (C := RX5) (T := TX5) (N := 17) hx hb hts i_X5 hown hK hP 0 rfl rfl 1 (by decide) f_13 (fun _ h9 => h9) rfl dX5_isPlace_20 ?_
    refine lv_iconst (v := 1) hx hb dX5_isPlace_23 (by decide) ?_
    refine lv_isub hx hb dX5_isPlace_24 ?_
    refine lv_i2l hx hb dX5_isPlace_25 rfl ?_
    refine vp_callSi (W.runS (As := [.long _, .long _, .long _]) (rest := []) ⟨hx, hb, hml, hown, hts⟩ (c_X5_in l h) (va_cwS 3 hts gX5_isPlace_X5_in rfl rfl rfl (by decide +kernel) ⟨Nat.le_of_ble_eq_true rfl, Nat.le_of_ble_eq_true rfl⟩) ⟨fun _ _ _ _ q => q, fun _ _ _ => ⟨rfl, trivial⟩⟩ rfl rfl hl.1 rfl (lv_room (Nat.le_of_ble_eq_true rfl)) dX5_isPlace_26 ⟨Nat.zero_le _, Nat.zero_le _⟩) (fun r_2 h => ?_)
    refine lv_if_eq (tgt := 52) hx hb dX5_isPlace_29 (by decide) (fun c_29 => ?_) (fun c_29 => ?_)
    · have h := br1 h c_29
      refine lv_iconst (v := 0) hx hb dX5_isPlace_52 (by decide) ?_
      exact W.zret (ty := .boolean) hx hb hr rfl (fun t ht _ => ⟨_, rfl, h, ht⟩) (fun q hq => by cases hq) dX5_isPlace_53
    · have h := br2 h c_29
      refine lv_iload_n hx hb dX5_isPlace_32 rfl (lv_at hl 3 rfl) ?_
      refine lv_i2l hx hb dX5_isPlace_33 rfl ?_
      refine lv_lconst (v := 0) hx hb dX5_isPlace_34 (by decide) ?_
      refine lv_aload_n hx hb dX5_isPlace_35 rfl (lv_at hl 0 rfl) ?_
      refine va_get (D := (dC, dI)) (ci := 3) (v := .int (u.1 2)) (C := RX5) (T := TX5) (N := 17) hx hb hts i_X5 hown hK hP 0 rfl rfl 2 (by decide) f_16 (fun _ h9 => h9) rfl dX5_isPlace_36 ?_
      refine lv_iconst (v := 1) hx hb dX5_isPlace_39 (by decide) ?_
      refine lv_isub hx hb dX5_isPlace_40 ?_
      refine lv_i2l hx hb dX5_isPlace_41 rfl ?_
      refine vp_callSi (W.runS (As := [.long _, .long _, .long _]) (rest := []) ⟨hx, hb, hml, hown, hts⟩ (c_X5_in l h) (va_cwS 3 hts gX5_isPlace_X5_in rfl rfl rfl (by decide +kernel) ⟨Nat.le_of_ble_eq_true rfl, Nat.le_of_ble_eq_true rfl⟩) ⟨fun _ _ _ _ q => q, fun _ _ _ => ⟨rfl, trivial⟩⟩ rfl rfl hl.1 rfl (lv_room (Nat.le_of_ble_eq_true rfl)) dX5_isPlace_42 ⟨Nat.zero_le _, Nat.zero_le _⟩) (fun r_3 h => ?_)
      refine lv_if_eq (tgt := 52) hx hb dX5_isPlace_45 (by decide) (fun c_45 => ?_) (fun c_45 => ?_)
      · have h := br1 h c_45
        refine lv_iconst (v := 0) hx hb dX5_isPlace_52 (by decide) ?_
        exact W.zret (ty := .boolean) hx hb hr rfl (fun t ht _ => ⟨_, rfl, h, ht⟩) (fun q hq => by cases hq) dX5_isPlace_53
      · have h := br2 h c_45
        refine lv_iconst (v := 1) hx hb dX5_isPlace_48 (by decide) ?_
        refine lv_goto (tgt := 53) hx hb dX5_isPlace_49 (by decide) ?_
        exact W.zret (ty := .boolean) hx hb hr rfl (fun t ht _ => ⟨_, rfl, h, ht⟩) (fun q hq => by cases hq) dX5_isPlace_53
set_option maxHeartbeats 4000000 in
set_option maxRecDepth 100000 in
theorem c_X5_space (l : Launch) (dC : Nat → ClassId) (dI : Nat → Nat → Nat) (m0 m1 m2 m3 m4 m5 m6 m7 m8 m9 : Nat) (cI cZ : ClassId) (sz : Nat) {u : St} {x1 : Int32} {x2 : Int32} {x3 : Int32} {post : Int32 → St → Prop} (h : P_X5_space u x1 x2 x3 post) : Met l yX5_space wsX5_space ({ frames := 1, cells := 0, slots := 0, locals := 25 } : Room) (MPre (dC, dI) vwCl (wM m0 m1 m2 m3 m4 m5 m6 m7 m8 m9 cI cZ u) [(cI, .int), (cZ, .boolean)] sz [.ref m0, .int x1, .int x2, .int x3]) (va_Qi post (fun (u2 : St) (t : State) => va_P (dC, dI) vwCl (wM m0 m1 m2 m3 m4 m5 m6 m7 m8 m9 cI cZ u2) t.heap) (va_A (wM m0 m1 m2 m3 m4 m5 m6 m7 m8 m9 cI cZ u) sz)) 0 0 (va_A (wM m0 m1 m2 m3 m4 m5 m6 m7 m8 m9 cI cZ u) sz) := by
  refine Met.ofW (cc := cX5_space) (maxL := 5) (ret := (some .int)) (by decide) rfl ?_
  intro p e s m args below meth c s₁ B hml hv
  obtain ⟨rfl, hsz, hP, hK, hD0⟩ := hv
  have hx := B.exec
  have hb := B.bytes
  have hr := B.returns
  have hts := atoms_spec (ws := wsX5_space) B.pre
  have hown : s.vm.findClass RX5 = some m.cls := findClass_of_methodNamed B.named
  have hlocks := B.notSynchronized
  subst hsz
  have hD1 := hD0.self (sz := s.heap.size)
  generalize hAe : va_A (wM m0 m1 m2 m3 m4 m5 m6 m7 m8 m9 cI cZ u) s.heap.size = A at hD1 ⊢
  have hA : ∀ q : Nat, s.heap.size ≤ q → A q := fun q h => by rw [← hAe]; exact Or.inr h
  have hD : ∀ z, va_D A (wM m0 m1 m2 m3 m4 m5 m6 m7 m8 m9 cI cZ z) := fun z => va_Dsame hD1 rfl
  have hS : va_S A s.heap s.heap [] := va_S.rf
  have hl := lv_entry ([.ref m0, .int x1, .int x2, .int x3]) (n := 5) (Nat.le_of_ble_eq_true rfl)
  rw [lg_entry_eq]
  generalize (lg_sl ([.ref m0, .int x1, .int x2, .int x3]) ++ List.replicate (5 - (lg_sl ([.ref m0, .int x1, .int x2, .int x3])).length) Slot.unset).toArray = ls at hl ⊢
  have hl : lv_has ls 5 [(0, .ref m0), (1, .int x1), (2, .int x2), (3, .int x3)] := hl
  have i_X5 : ∀ w ∈ u_ws RX5 TX5 17, w ∈ wsX5_space := by decide +kernel
  have f_7 := hts (.fieldLink RX5 7 "SliceBodyModel" "wideX" "I") (by decide +kernel)
  have f_13 := hts (.fieldLink RX5 13 "SliceBodyModel" "wideY" "I") (by decide +kernel)
  have f_16 := hts (.fieldLink RX5 16 "SliceBodyModel" "wideZ" "I") (by decide +kernel)
  have f_19 := hts (.fieldLink RX5 19 "SliceBodyModel" "cubes" "[Z") (by decide +kernel)
  have f_23 := hts (.fieldLink RX5 23 "SliceBodyModel" "chosen" "[I") (by decide +kernel)
  have f_54 := hts (.fieldLink RX5 54 "SliceBodyModel" "isLaid" "Z") (by decide +kernel)
  have k_52 := hts (.constantLong RX5 52 (8)) (by decide +kernel)
  unfold P_X5_space at h
  refine lv_iload_n hx hb dX5_space_0 rfl (lv_at hl 1 rfl) ?_
  refine lv_i2l hx hb dX5_space_1 rfl ?_
  refine lv_lconst (v := 1) hx hb dX5_space_2 (by decide) ?_
  refine lv_ldc2 hx hb hown k_52 dX5_space_3 ?_
  refine vp_callSi (W.runS (As := [.long _, .long _, .long _]) (rest := []) ⟨hx, hb, hml, hown, hts⟩ (c_X5_in l h) (va_cwS 3 hts gX5_space_X5_in rfl rfl rfl (by decide +kernel) ⟨Nat.le_of_ble_eq_true rfl, Nat.le_of_ble_eq_true rfl⟩) ⟨fun _ _ _ _ q => q, fun _ _ _ => ⟨rfl, trivial⟩⟩ rfl rfl hl.1 rfl (lv_room (Nat.le_of_ble_eq_true rfl)) dX5_space_6 ⟨Nat.zero_le _, Nat.zero_le _⟩) (fun r_1 h => ?_)
  refine lv_if_eq (tgt := 36) hx hb dX5_space_9 (by decide) (fun c_9 => ?_) (fun c_9 => ?_)
  · have h := br1 h c_9
    refine lv_bipush (v := (-2)) hx hb dX5_space_36 (by decide) ?_
    exact W.iret hx hb hr (fun t ht _ => ⟨⟨_, u, rfl, h, hPr ht hP⟩, hS.F ht⟩) hS.2.2 dX5_space_38
  · have h := br2 h c_9
    refine lv_iload_n hx hb dX5_space_12 rfl (lv_at hl 2 rfl) ?_
    refine lv_i2l hx hb dX5_space_13 rfl ?_
    refine lv_lconst (v := 1) hx hb dX5_space_14 (by decide) ?_
    refine lv_ldc2 hx hb hown k_52 dX5_space_15 ?_
    refine vp_callSi (W.runS (As := [.long _, .long _, .long _]) (rest := []) ⟨hx, hb, hml, hown, hts⟩ (c_X5_in l h) (va_cwS 3 hts gX5_space_X5_in rfl rfl rfl (by decide +kernel) ⟨Nat.le_of_ble_eq_true rfl, Nat.le_of_ble_eq_true rfl⟩) ⟨fun _ _ _ _ q => q, fun _ _ _ => ⟨rfl, trivial⟩⟩ rfl rfl hl.1 rfl (lv_room (Nat.le_of_ble_eq_true rfl)) dX5_space_18 ⟨Nat.zero_le _, Nat.zero_le _⟩) (fun r_2 h => ?_)
    refine lv_if_eq (tgt := 36) hx hb dX5_space_21 (by decide) (fun c_21 => ?_) (fun c_21 => ?_)
    · have h := br1 h c_21
      refine lv_bipush (v := (-2)) hx hb dX5_space_36 (by decide) ?_
      exact W.iret hx hb hr (fun t ht _ => ⟨⟨_, u, rfl, h, hPr ht hP⟩, hS.F ht⟩) hS.2.2 dX5_space_38
    · have h := br2 h c_21
      refine lv_iload_n hx hb dX5_space_24 rfl (lv_at hl 3 rfl) ?_
      refine lv_i2l hx hb dX5_space_25 rfl ?_
      refine lv_lconst (v := 1) hx hb dX5_space_26 (by decide) ?_
      refine lv_ldc2 hx hb hown k_52 dX5_space_27 ?_
      refine vp_callSi (W.runS (As := [.long _, .long _, .long _]) (rest := []) ⟨hx, hb, hml, hown, hts⟩ (c_X5_in l h) (va_cwS 3 hts gX5_space_X5_in rfl rfl rfl (by decide +kernel) ⟨Nat.le_of_ble_eq_true rfl, Nat.le_of_ble_eq_true rfl⟩) ⟨fun _ _ _ _ q => q, fun _ _ _ => ⟨rfl, trivial⟩⟩ rfl rfl hl.1 rfl (lv_room (Nat.le_of_ble_eq_true rfl)) dX5_space_30 ⟨Nat.zero_le _, Nat.zero_le _⟩) (fun r_3 h => ?_)
      refine lv_if_ne (tgt := 39) hx hb dX5_space_33 (by decide) (fun c_33 => ?_) (fun c_33 => ?_)
      · have h := br2 h c_33
        refine lv_aload_n hx hb dX5_space_39 rfl (lv_at hl 0 rfl) ?_
        refine lv_iload_n hx hb dX5_space_40 rfl (lv_at hl 1 rfl) ?_
        refine va_put (D := (dC, dI)) (ci := 3) (v := .int x1) (ty := .int) (C := RX5) (T := TX5) (N := 17) hx hb hts i_X5 tyX5 tyX5_ok nmX5 hown hK hP (hD _) hS 0 rfl rfl 0 (by decide) f_7 (fun _ h9 => h9) rfl (by decide +kernel) rfl rfl (Nat.le_of_ble_eq_true rfl) dX5_space_41 (fun H locs hP _ hS => ?_)
        obtain ⟨u_4, eu_4⟩ : ∃ z : St, z = (upd u.1 0 x1, u.2) := ⟨_, rfl⟩
        have h := h u_4 eu_4
        have hP : va_P (dC, dI) vwCl (wM m0 m1 m2 m3 m4 m5 m6 m7 m8 m9 cI cZ u_4) H := by rw [eu_4]; exact hP
        refine lv_aload_n hx hb dX5_space_44 rfl (lv_at hl 0 rfl) ?_
        refine lv_iload_n hx hb dX5_space_45 rfl (lv_at hl 2 rfl) ?_
        refine va_put (D := (dC, dI)) (ci := 3) (v := .int x2) (ty := .int) (C := RX5) (T := TX5) (N := 17) hx hb hts i_X5 tyX5 tyX5_ok nmX5 hown hK hP (hD _) hS 0 rfl rfl 1 (by decide) f_13 (fun _ h9 => h9) rfl (by decide +kernel) rfl rfl (Nat.le_of_ble_eq_true rfl) dX5_space_46 (fun H locs hP _ hS => ?_)
        obtain ⟨u_5, eu_5⟩ : ∃ z : St, z = (upd u_4.1 1 x2, u_4.2) := ⟨_, rfl⟩
        have h := h u_5 eu_5
        have hP : va_P (dC, dI) vwCl (wM m0 m1 m2 m3 m4 m5 m6 m7 m8 m9 cI cZ u_5) H := by rw [eu_5]; exact hP
        refine lv_aload_n hx hb dX5_space_49 rfl (lv_at hl 0 rfl) ?_
        refine lv_iload_n hx hb dX5_space_50 rfl (lv_at hl 3 rfl) ?_
        refine va_put (D := (dC, dI)) (ci := 3) (v := .int x3) (ty := .int) (C := RX5) (T := TX5) (N := 17) hx hb hts i_X5 tyX5 tyX5_ok nmX5 hown hK hP (hD _) hS 0 rfl rfl 2 (by decide) f_16 (fun _ h9 => h9) rfl (by decide +kernel) rfl rfl (Nat.le_of_ble_eq_true rfl) dX5_space_51 (fun H locs hP _ hS => ?_)
        obtain ⟨u_6, eu_6⟩ : ∃ z : St, z = (upd u_5.1 2 x3, u_5.2) := ⟨_, rfl⟩
        have h := h u_6 eu_6
        have hP : va_P (dC, dI) vwCl (wM m0 m1 m2 m3 m4 m5 m6 m7 m8 m9 cI cZ u_6) H := by rw [eu_6]; exact hP
        refine lv_iconst (v := 0) hx hb dX5_space_54 (by decide) ?_
        refine lv_istore (lv' := [(4, .int (0 : Int32)), (0, .ref m0), (1, .int x1), (2, .int x2), (3, .int x3)]) hx hb dX5_space_55 hl (by decide) rfl (fun ls hl => ?_)
        obtain ⟨K_57, hKi_57, h⟩ := jnE1 h
        have hK_57 : ∀ (u_11 : St), K_57 u_11 → ∀ (H : Heap) (locs : List Loc), va_P (dC, dI) vwCl (wM m0 m1 m2 m3 m4 m5 m6 m7 m8 m9 cI cZ u_11) H → va_S A s.heap H locs → ∀ (ls : Array Slot), lv_has ls 5 [(0, .ref m0), (1, .int x1), (2, .int x2), (3, .int x3)] → W p l e (headSpec wsX5_space ({ frames := 1, cells := 0, slots := 0, locals := 25 } : Room)).room s m ([.ref m0, .int x1, .int x2, .int x3] : List Value).toArray below meth c H locs 0 0 (MQ below (va_Qi post (fun (u2 : St) (t : State) => va_P (dC, dI) vwCl (wM m0 m1 m2 m3 m4 m5 m6 m7 m8 m9 cI cZ u2) t.heap) A) ([.ref m0, .int x1, .int x2, .int x3] : List Value).toArray s 0 0 A) (F0 m 79 ls []) := by
          intro u_11 h H locs hP hS ls hl
          have h := hKi_57 _ h
          refine lv_aload_n hx hb dX5_space_79 rfl (lv_at hl 0 rfl) ?_
          refine va_get (D := (dC, dI)) (ci := 3) (v := .ref m2) (C := RX5) (T := TX5) (N := 17) hx hb hts i_X5 hown hK hP 0 rfl rfl 4 (by decide) f_23 (fun _ h9 => h9) rfl dX5_space_80 ?_
          refine lv_iconst (v := 0) hx hb dX5_space_83 (by decide) ?_
          refine lv_iconst (v := 0) hx hb dX5_space_84 (by decide) ?_
          obtain ⟨hi, h⟩ := h
          refine va_iast hx hb hK hP (hD _) hS 2 0 rfl rfl hi dX5_space_85 (fun H locs hP _ hS => ?_)
          obtain ⟨u_12, eu_12⟩ : ∃ z : St, z = (u_11.1, va_up u_11.2 4 (upd (u_11.2 4) (0 : Int32).toNatClampNeg (0 : Int32))) := ⟨_, rfl⟩
          have h := h u_12 eu_12
          have hP : va_P (dC, dI) vwCl (wM m0 m1 m2 m3 m4 m5 m6 m7 m8 m9 cI cZ u_12) H := by rw [eu_12]; exact hP
          refine lv_aload_n hx hb dX5_space_86 rfl (lv_at hl 0 rfl) ?_
          refine va_get (D := (dC, dI)) (ci := 3) (v := .ref m2) (C := RX5) (T := TX5) (N := 17) hx hb hts i_X5 hown hK hP 0 rfl rfl 4 (by decide) f_23 (fun _ h9 => h9) rfl dX5_space_87 ?_
          refine lv_iconst (v := 1) hx hb dX5_space_90 (by decide) ?_
          refine lv_iconst (v := 0) hx hb dX5_space_91 (by decide) ?_
          obtain ⟨hi, h⟩ := h
          refine va_iast hx hb hK hP (hD _) hS 2 0 rfl rfl hi dX5_space_92 (fun H locs hP _ hS => ?_)
          obtain ⟨u_13, eu_13⟩ : ∃ z : St, z = (u_12.1, va_up u_12.2 4 (upd (u_12.2 4) (1 : Int32).toNatClampNeg (0 : Int32))) := ⟨_, rfl⟩
          have h := h u_13 eu_13
          have hP : va_P (dC, dI) vwCl (wM m0 m1 m2 m3 m4 m5 m6 m7 m8 m9 cI cZ u_13) H := by rw [eu_13]; exact hP
          refine lv_aload_n hx hb dX5_space_93 rfl (lv_at hl 0 rfl) ?_
          refine lv_iconst (v := 0) hx hb dX5_space_94 (by decide) ?_
          refine va_put (D := (dC, dI)) (ci := 3) (v := .int (0 : Int32)) (ty := .boolean) (C := RX5) (T := TX5) (N := 17) hx hb hts i_X5 tyX5 tyX5_ok nmX5 hown hK hP (hD _) hS 0 rfl rfl 5 (by decide) f_54 (fun _ h9 => h9) rfl (by decide +kernel) rfl rfl (Nat.le_of_ble_eq_true rfl) dX5_space_95 (fun H locs hP _ hS => ?_)
          obtain ⟨u_14, eu_14⟩ : ∃ z : St, z = (upd u_13.1 5 (0 : Int32), u_13.2) := ⟨_, rfl⟩
          have h := h u_14 eu_14
          have hP : va_P (dC, dI) vwCl (wM m0 m1 m2 m3 m4 m5 m6 m7 m8 m9 cI cZ u_14) H := by rw [eu_14]; exact hP
          refine lv_iload_n hx hb dX5_space_98 rfl (lv_at hl 1 rfl) ?_
          refine lv_iload_n hx hb dX5_space_99 rfl (lv_at hl 2 rfl) ?_
          refine lv_imul hx hb dX5_space_100 ?_
          refine lv_iload_n hx hb dX5_space_101 rfl (lv_at hl 3 rfl) ?_
          refine lv_imul hx hb dX5_space_102 ?_
          exact W.iret hx hb hr (fun t ht _ => ⟨⟨_, u_14, rfl, h, hPr ht hP⟩, hS.F ht⟩) hS.2.2 dX5_space_103
        obtain ⟨n, h⟩ := h
        have loop_57 : ∀ (n : Nat) (v4_7 : Int32) (u_8 : St), L_X5_space_57 post K_57 n v4_7 u_8 → ∀ (H : Heap) (locs : List Loc), va_P (dC, dI) vwCl (wM m0 m1 m2 m3 m4 m5 m6 m7 m8 m9 cI cZ u_8) H → va_S A s.heap H locs → ∀ (ls : Array Slot), lv_has ls 5 [(0, .ref m0), (1, .int x1), (2, .int x2), (3, .int x3), (4, .int v4_7)] → W p l e (headSpec wsX5_space ({ frames := 1, cells := 0, slots := 0, locals := 25 } : Room)).room s m ([.ref m0, .int x1, .int x2, .int x3] : List Value).toArray below meth c H locs 0 0 (MQ below (va_Qi post (fun (u2 : St) (t : State) => va_P (dC, dI) vwCl (wM m0 m1 m2 m3 m4 m5 m6 m7 m8 m9 cI cZ u2) t.heap) A) ([.ref m0, .int x1, .int x2, .int x3] : List Value).toArray s 0 0 A) (F0 m 57 ls []) := by
          intro n
          induction n with
          | zero => intro v4_7 u_8 h; rw [L_X5_space_57] at h; exact h.elim
          | succ n ih_57 =>
            intro v4_7 u_8 h H locs hP hS ls hl
            rw [L_X5_space_57] at h
            refine lv_iload hx hb dX5_space_57 (lv_at hl 4 rfl) ?_
            refine lv_sipush (v := 512) hx hb dX5_space_59 (by decide) ?_
            refine lv_icmp_ge (tgt := 79) hx hb dX5_space_62 (by decide) (fun c_62 => ?_) (fun c_62 => ?_)
            · have h := br1 h c_62
              exact hK_57 _ h _ _ hP hS _ (lv_sub hl [0, 1, 2, 3] rfl)
            · have h := br2 h c_62
              refine lv_aload_n hx hb dX5_space_65 rfl (lv_at hl 0 rfl) ?_
              refine va_get (D := (dC, dI)) (ci := 3) (v := .ref m1) (C := RX5) (T := TX5) (N := 17) hx hb hts i_X5 hown hK hP 0 rfl rfl 3 (by decide) f_19 (fun _ h9 => h9) rfl dX5_space_66 ?_
              refine lv_iload hx hb dX5_space_69 (lv_at hl 4 rfl) ?_
              refine lv_iconst (v := 0) hx hb dX5_space_71 (by decide) ?_
              obtain ⟨hi, h⟩ := h
              refine va_zast hx hb hK hP (hD _) hS 1 1 rfl rfl hi dX5_space_72 (fun H locs hP _ hS => ?_)
              obtain ⟨u_9, eu_9⟩ : ∃ z : St, z = (u_8.1, va_up u_8.2 3 (upd (u_8.2 3) v4_7.toNatClampNeg (vp_nar .boolean (0 : Int32)))) := ⟨_, rfl⟩
              have h := h u_9 eu_9
              have hP : va_P (dC, dI) vwCl (wM m0 m1 m2 m3 m4 m5 m6 m7 m8 m9 cI cZ u_9) H := by rw [eu_9]; exact hP
              obtain ⟨y_10, ey_10⟩ : ∃ z : Int32, z = v4_7 + (1 : Int32) := ⟨_, rfl⟩
              have h := h y_10 ey_10
              refine lv_iinc (v := y_10) (lv' := [(4, .int y_10), (0, .ref m0), (1, .int x1), (2, .int x2), (3, .int x3)]) hx hb dX5_space_73 hl (k := 4) rfl (by rw [ey_10]; rfl) (by decide) rfl (fun ls hl => ?_)
              refine lv_goto (tgt := 57) hx hb dX5_space_76 (by decide) ?_
              exact ih_57 _ _ h _ _ hP hS _ (lv_sub hl [1, 2, 3, 4, 0] rfl)
        exact loop_57 n _ _ h _ _ hP hS _ (lv_sub hl [1, 2, 3, 4, 0] rfl)
      · have h := br1 h c_33
        refine lv_bipush (v := (-2)) hx hb dX5_space_36 (by decide) ?_
        exact W.iret hx hb hr (fun t ht _ => ⟨⟨_, u, rfl, h, hPr ht hP⟩, hS.F ht⟩) hS.2.2 dX5_space_38
set_option maxHeartbeats 4000000 in
set_option maxRecDepth 100000 in
theorem c_X5_box (l : Launch) (dC : Nat → ClassId) (dI : Nat → Nat → Nat) (m0 m1 m2 m3 m4 m5 m6 m7 m8 m9 : Nat) (cI cZ : ClassId) (sz : Nat) {u : St} {x1 : Int32} {x2 : Int32} {x3 : Int32} {x4 : Int32} {x5 : Int32} {x6 : Int32} {x7 : Int32} {post : Int32 → St → Prop} (h : P_X5_box u x1 x2 x3 x4 x5 x6 x7 post) : Met l yX5_box wsX5_box ({ frames := 2, cells := 0, slots := 0, locals := 48 } : Room) (MPre (dC, dI) vwCl (wM m0 m1 m2 m3 m4 m5 m6 m7 m8 m9 cI cZ u) [(cI, .int), (cZ, .boolean)] sz [.ref m0, .int x1, .int x2, .int x3, .int x4, .int x5, .int x6, .int x7]) (va_Qi post (fun (u2 : St) (t : State) => va_P (dC, dI) vwCl (wM m0 m1 m2 m3 m4 m5 m6 m7 m8 m9 cI cZ u2) t.heap) (va_A (wM m0 m1 m2 m3 m4 m5 m6 m7 m8 m9 cI cZ u) sz)) 0 0 (va_A (wM m0 m1 m2 m3 m4 m5 m6 m7 m8 m9 cI cZ u) sz) := by
  refine Met.ofW (cc := cX5_box) (maxL := 13) (ret := (some .int)) (by decide) rfl ?_
  intro p e s m args below meth c s₁ B hml hv
  obtain ⟨rfl, hsz, hP, hK, hD0⟩ := hv
  have hx := B.exec
  have hb := B.bytes
  have hr := B.returns
  have hts := atoms_spec (ws := wsX5_box) B.pre
  have hown : s.vm.findClass RX5 = some m.cls := findClass_of_methodNamed B.named
  have hlocks := B.notSynchronized
  subst hsz
  have hD1 := hD0.self (sz := s.heap.size)
  generalize hAe : va_A (wM m0 m1 m2 m3 m4 m5 m6 m7 m8 m9 cI cZ u) s.heap.size = A at hD1 ⊢
  have hA : ∀ q : Nat, s.heap.size ≤ q → A q := fun q h => by rw [← hAe]; exact Or.inr h
  have hD : ∀ z, va_D A (wM m0 m1 m2 m3 m4 m5 m6 m7 m8 m9 cI cZ z) := fun z => va_Dsame hD1 rfl
  have hS : va_S A s.heap s.heap [] := va_S.rf
  have hl := lv_entry ([.ref m0, .int x1, .int x2, .int x3, .int x4, .int x5, .int x6, .int x7]) (n := 13) (Nat.le_of_ble_eq_true rfl)
  rw [lg_entry_eq]
  generalize (lg_sl ([.ref m0, .int x1, .int x2, .int x3, .int x4, .int x5, .int x6, .int x7]) ++ List.replicate (13 - (lg_sl ([.ref m0, .int x1, .int x2, .int x3, .int x4, .int x5, .int x6, .int x7])).length) Slot.unset).toArray = ls at hl ⊢
  have hl : lv_has ls 13 [(0, .ref m0), (1, .int x1), (2, .int x2), (3, .int x3), (4, .int x4), (5, .int x5), (6, .int x6), (7, .int x7)] := hl
  have i_X5 : ∀ w ∈ u_ws RX5 TX5 17, w ∈ wsX5_box := by decide +kernel
  have f_19 := hts (.fieldLink RX5 19 "SliceBodyModel" "cubes" "[Z") (by decide +kernel)
  have f_54 := hts (.fieldLink RX5 54 "SliceBodyModel" "isLaid" "Z") (by decide +kernel)
  have k_58 := hts (.constantLong RX5 58 (-8)) (by decide +kernel)
  have k_52 := hts (.constantLong RX5 52 (8)) (by decide +kernel)
  unfold P_X5_box at h
  refine lv_iload_n hx hb dX5_box_0 rfl (lv_at hl 1 rfl) ?_
  refine lv_i2l hx hb dX5_box_1 rfl ?_
  refine lv_ldc2 hx hb hown k_58 dX5_box_2 ?_
  refine lv_ldc2 hx hb hown k_52 dX5_box_5 ?_
  refine vp_callSi (W.runS (As := [.long _, .long _, .long _]) (rest := []) ⟨hx, hb, hml, hown, hts⟩ (c_X5_in l h) (va_cwS 3 hts gX5_box_X5_in rfl rfl rfl (by decide +kernel) ⟨Nat.le_of_ble_eq_true rfl, Nat.le_of_ble_eq_true rfl⟩) ⟨fun _ _ _ _ q => q, fun _ _ _ => ⟨rfl, trivial⟩⟩ rfl rfl hl.1 rfl (lv_room (Nat.le_of_ble_eq_true rfl)) dX5_box_8 ⟨Nat.zero_le _, Nat.zero_le _⟩) (fun r_1 h => ?_)
  obtain ⟨J_86, hJi_86, h⟩ := jnE1 h
  have hJ_86 : ∀ (w_7 : Int32), J_86 w_7 → ∀ (H : Heap) (locs : List Loc), va_P (dC, dI) vwCl (wM m0 m1 m2 m3 m4 m5 m6 m7 m8 m9 cI cZ u) H → va_S A s.heap H locs → ∀ (ls : Array Slot), lv_has ls 13 [(0, .ref m0), (1, .int x1), (2, .int x2), (3, .int x3), (4, .int x4), (5, .int x5), (6, .int x6), (7, .int x7)] → W p l e (headSpec wsX5_box ({ frames := 2, cells := 0, slots := 0, locals := 48 } : Room)).room s m ([.ref m0, .int x1, .int x2, .int x3, .int x4, .int x5, .int x6, .int x7] : List Value).toArray below meth c H locs 0 0 (MQ below (va_Qi post (fun (u2 : St) (t : State) => va_P (dC, dI) vwCl (wM m0 m1 m2 m3 m4 m5 m6 m7 m8 m9 cI cZ u2) t.heap) A) ([.ref m0, .int x1, .int x2, .int x3, .int x4, .int x5, .int x6, .int x7] : List Value).toArray s 0 0 A) (F0 m 86 ls [.int w_7]) := by
    intro w_7 h H locs hP hS ls hl
    have h := hJi_86 _ h
    refine lv_istore (lv' := [(8, .int w_7), (0, .ref m0), (1, .int x1), (2, .int x2), (3, .int x3), (4, .int x4), (5, .int x5), (6, .int x6), (7, .int x7)]) hx hb dX5_box_86 hl (by decide) rfl (fun ls hl => ?_)
    refine lv_iload hx hb dX5_box_88 (lv_at hl 0 rfl) ?_
    refine lv_if_ne (tgt := 96) hx hb dX5_box_90 (by decide) (fun c_90 => ?_) (fun c_90 => ?_)
    · have h := br2 h c_90
      refine lv_iconst (v := 0) hx hb dX5_box_96 (by decide) ?_
      refine lv_istore (lv' := [(9, .int (0 : Int32)), (8, .int w_7), (0, .ref m0), (1, .int x1), (2, .int x2), (3, .int x3), (4, .int x4), (5, .int x5), (6, .int x6), (7, .int x7)]) hx hb dX5_box_97 hl (by decide) rfl (fun ls hl => ?_)
      refine lv_iload_n hx hb dX5_box_99 rfl (lv_at hl 3 rfl) ?_
      refine lv_istore (lv' := [(10, .int x1), (9, .int (0 : Int32)), (8, .int w_7), (0, .ref m0), (1, .int x1), (2, .int x2), (3, .int x3), (4, .int x4), (5, .int x5), (6, .int x6), (7, .int x7)]) hx hb dX5_box_100 hl (by decide) rfl (fun ls hl => ?_)
      obtain ⟨K_102, hKi_102, h⟩ := jnE2 h
      have hK_102 : ∀ (v9_30 : Int32) (u_31 : St), K_102 v9_30 u_31 → ∀ (H : Heap) (locs : List Loc), va_P (dC, dI) vwCl (wM m0 m1 m2 m3 m4 m5 m6 m7 m8 m9 cI cZ u_31) H → va_S A s.heap H locs → ∀ (ls : Array Slot), lv_has ls 13 [(0, .ref m0), (9, .int v9_30)] → W p l e (headSpec wsX5_box ({ frames := 2, cells := 0, slots := 0, locals := 48 } : Room)).room s m ([.ref m0, .int x1, .int x2, .int x3, .int x4, .int x5, .int x6, .int x7] : List Value).toArray below meth c H locs 0 0 (MQ below (va_Qi post (fun (u2 : St) (t : State) => va_P (dC, dI) vwCl (wM m0 m1 m2 m3 m4 m5 m6 m7 m8 m9 cI cZ u2) t.heap) A) ([.ref m0, .int x1, .int x2, .int x3, .int x4, .int x5, .int x6, .int x7] : List Value).toArray s 0 0 A) (F0 m 205 ls []) := by
        intro v9_30 u_31 h H locs hP hS ls hl
        have h := hKi_102 _ _ h
        refine lv_aload_n hx hb dX5_box_205 rfl (lv_at hl 0 rfl) ?_
        refine lv_iconst (v := 0) hx hb dX5_box_206 (by decide) ?_
        refine va_put (D := (dC, dI)) (ci := 3) (v := .int (0 : Int32)) (ty := .boolean) (C := RX5) (T := TX5) (N := 17) hx hb hts i_X5 tyX5 tyX5_ok nmX5 hown hK hP (hD _) hS 0 rfl rfl 5 (by decide) f_54 (fun _ h9 => h9) rfl (by decide +kernel) rfl rfl (Nat.le_of_ble_eq_true rfl) dX5_box_207 (fun H locs hP _ hS => ?_)
        obtain ⟨u_32, eu_32⟩ : ∃ z : St, z = (upd u_31.1 5 (0 : Int32), u_31.2) := ⟨_, rfl⟩
        have h := h u_32 eu_32
        have hP : va_P (dC, dI) vwCl (wM m0 m1 m2 m3 m4 m5 m6 m7 m8 m9 cI cZ u_32) H := by rw [eu_32]; exact hP
        refine lv_iload hx hb dX5_box_210 (lv_at hl 1 rfl) ?_
        exact W.iret hx hb hr (fun t ht _ => ⟨⟨_, u_32, rfl, h, hPr ht hP⟩, hS.F ht⟩) hS.2.2 dX5_box_212
      obtain ⟨n, h⟩ := h
      have loop_102 : ∀ (n : Nat) (v9_8 : Int32) (v10_9 : Int32) (u_10 : St), L_X5_box_102 post K_102 x1 x2 x3 x4 x5 x6 x7 n v9_8 v10_9 u_10 → ∀ (H : Heap) (locs : List Loc), va_P (dC, dI) vwCl (wM m0 m1 m2 m3 m4 m5 m6 m7 m8 m9 cI cZ u_10) H → va_S A s.heap H locs → ∀ (ls : Array Slot), lv_has ls 13 [(0, .ref m0), (1, .int x1), (2, .int x2), (3, .int x3), (4, .int x4), (5, .int x5), (6, .int x6), (7, .int x7), (9, .int v9_8), (10, .int v10_9)] → W p l e (headSpec wsX5_box ({ frames := 2, cells := 0, slots := 0, locals := 48 } : Room)).room s m ([.ref m0, .int x1, .int x2, .int x3, .int x4, .int x5, .int x6, .int x7] : List Value).toArray below meth c H locs 0 0 (MQ below (va_Qi post (fun (u2 : St) (t : State) => va_P (dC, dI) vwCl (wM m0 m1 m2 m3 m4 m5 m6 m7 m8 m9 cI cZ u2) t.heap) A) ([.ref m0, .int x1, .int x2, .int x3, .int x4, .int x5, .int x6, .int x7] : List Value).toArray s 0 0 A) (F0 m 102 ls []) := by
        intro n
        induction n with
        | zero => intro v9_8 v10_9 u_10 h; rw [L_X5_box_102] at h; exact h.elim
        | succ n ih_102 =>
          intro v9_8 v10_9 u_10 h H locs hP hS ls hl
          rw [L_X5_box_102] at h
          refine lv_iload hx hb dX5_box_102 (lv_at hl 9 rfl) ?_
          refine lv_iload_n hx hb dX5_box_104 rfl (lv_at hl 1 rfl) ?_
          refine lv_iload hx hb dX5_box_105 (lv_at hl 4 rfl) ?_
          refine lv_iadd hx hb dX5_box_107 ?_
          refine lv_icmp_ge (tgt := 205) hx hb dX5_box_108 (by decide) (fun c_108 => ?_) (fun c_108 => ?_)
          · have h := br1 h c_108
            exact hK_102 _ _ h _ _ hP hS _ (lv_sub hl [0, 8] rfl)
          · have h := br2 h c_108
            refine lv_iload_n hx hb dX5_box_111 rfl (lv_at hl 2 rfl) ?_
            refine lv_istore (lv' := [(11, .int x2), (0, .ref m0), (1, .int x1), (2, .int x2), (3, .int x3), (4, .int x4), (5, .int x5), (6, .int x6), (7, .int x7), (9, .int v9_8), (10, .int v10_9)]) hx hb dX5_box_112 hl (by decide) rfl (fun ls hl => ?_)
            obtain ⟨K_114, hKi_114, h⟩ := jnE2 h
            have hK_114 : ∀ (v9_27 : Int32) (u_28 : St), K_114 v9_27 u_28 → ∀ (H : Heap) (locs : List Loc), va_P (dC, dI) vwCl (wM m0 m1 m2 m3 m4 m5 m6 m7 m8 m9 cI cZ u_28) H → va_S A s.heap H locs → ∀ (ls : Array Slot), lv_has ls 13 [(0, .ref m0), (1, .int x1), (2, .int x2), (3, .int x3), (4, .int x4), (5, .int x5), (6, .int x6), (7, .int x7), (9, .int v9_27), (10, .int v10_9)] → W p l e (headSpec wsX5_box ({ frames := 2, cells := 0, slots := 0, locals := 48 } : Room)).room s m ([.ref m0, .int x1, .int x2, .int x3, .int x4, .int x5, .int x6, .int x7] : List Value).toArray below meth c H locs 0 0 (MQ below (va_Qi post (fun (u2 : St) (t : State) => va_P (dC, dI) vwCl (wM m0 m1 m2 m3 m4 m5 m6 m7 m8 m9 cI cZ u2) t.heap) A) ([.ref m0, .int x1, .int x2, .int x3, .int x4, .int x5, .int x6, .int x7] : List Value).toArray s 0 0 A) (F0 m 199 ls []) := by
              intro v9_27 u_28 h H locs hP hS ls hl
              have h := hKi_114 _ _ h
              obtain ⟨y_29, ey_29⟩ : ∃ z : Int32, z = v10_9 + (1 : Int32) := ⟨_, rfl⟩
              have h := h y_29 ey_29
              refine lv_iinc (v := y_29) (lv' := [(10, .int y_29), (0, .ref m0), (1, .int x1), (2, .int x2), (3, .int x3), (4, .int x4), (5, .int x5), (6, .int x6), (7, .int x7), (9, .int v9_27)]) hx hb dX5_box_199 hl (k := 9) rfl (by rw [ey_29]; rfl) (by decide) rfl (fun ls hl => ?_)
              refine lv_goto (tgt := 102) hx hb dX5_box_202 (by decide) ?_
              exact ih_102 _ _ _ h _ _ hP hS _ (lv_sub hl [1, 2, 3, 4, 5, 6, 7, 8, 9, 0] rfl)
            obtain ⟨n, h⟩ := h
            have loop_114 : ∀ (n : Nat) (v9_11 : Int32) (v11_12 : Int32) (u_13 : St), L_X5_box_114 post K_114 x2 x3 x5 x6 x7 v10_9 n v9_11 v11_12 u_13 → ∀ (H : Heap) (locs : List Loc), va_P (dC, dI) vwCl (wM m0 m1 m2 m3 m4 m5 m6 m7 m8 m9 cI cZ u_13) H → va_S A s.heap H locs → ∀ (ls : Array Slot), lv_has ls 13 [(0, .ref m0), (1, .int x1), (2, .int x2), (3, .int x3), (4, .int x4), (5, .int x5), (6, .int x6), (7, .int x7), (9, .int v9_11), (10, .int v10_9), (11, .int v11_12)] → W p l e (headSpec wsX5_box ({ frames := 2, cells := 0, slots := 0, locals := 48 } : Room)).room s m ([.ref m0, .int x1, .int x2, .int x3, .int x4, .int x5, .int x6, .int x7] : List Value).toArray below meth c H locs 0 0 (MQ below (va_Qi post (fun (u2 : St) (t : State) => va_P (dC, dI) vwCl (wM m0 m1 m2 m3 m4 m5 m6 m7 m8 m9 cI cZ u2) t.heap) A) ([.ref m0, .int x1, .int x2, .int x3, .int x4, .int x5, .int x6, .int x7] : List Value).toArray s 0 0 A) (F0 m 114 ls []) := by
              intro n
              induction n with
              | zero => intro v9_11 v11_12 u_13 h; rw [L_X5_box_114] at h; exact h.elim
              | succ n ih_114 =>
                intro v9_11 v11_12 u_13 h H locs hP hS ls hl
                rw [L_X5_box_114] at h
                refine lv_iload hx hb dX5_box_114 (lv_at hl 10 rfl) ?_
                refine lv_iload_n hx hb dX5_box_116 rfl (lv_at hl 2 rfl) ?_
                refine lv_iload hx hb dX5_box_117 (lv_at hl 5 rfl) ?_
                refine lv_iadd hx hb dX5_box_119 ?_
                refine lv_icmp_ge (tgt := 199) hx hb dX5_box_120 (by decide) (fun c_120 => ?_) (fun c_120 => ?_)
                · have h := br1 h c_120
                  exact hK_114 _ _ h _ _ hP hS _ (lv_sub hl [0, 1, 2, 3, 4, 5, 6, 7, 8, 9] rfl)
                · have h := br2 h c_120
                  refine lv_iload_n hx hb dX5_box_123 rfl (lv_at hl 3 rfl) ?_
                  refine lv_istore (lv' := [(12, .int x3), (0, .ref m0), (1, .int x1), (2, .int x2), (3, .int x3), (4, .int x4), (5, .int x5), (6, .int x6), (7, .int x7), (9, .int v9_11), (10, .int v10_9), (11, .int v11_12)]) hx hb dX5_box_124 hl (by decide) rfl (fun ls hl => ?_)
                  obtain ⟨K_126, hKi_126, h⟩ := jnE2 h
                  have hK_126 : ∀ (v9_24 : Int32) (u_25 : St), K_126 v9_24 u_25 → ∀ (H : Heap) (locs : List Loc), va_P (dC, dI) vwCl (wM m0 m1 m2 m3 m4 m5 m6 m7 m8 m9 cI cZ u_25) H → va_S A s.heap H locs → ∀ (ls : Array Slot), lv_has ls 13 [(0, .ref m0), (1, .int x1), (2, .int x2), (3, .int x3), (4, .int x4), (5, .int x5), (6, .int x6), (7, .int x7), (9, .int v9_24), (10, .int v10_9), (11, .int v11_12)] → W p l e (headSpec wsX5_box ({ frames := 2, cells := 0, slots := 0, locals := 48 } : Room)).room s m ([.ref m0, .int x1, .int x2, .int x3, .int x4, .int x5, .int x6, .int x7] : List Value).toArray below meth c H locs 0 0 (MQ below (va_Qi post (fun (u2 : St) (t : State) => va_P (dC, dI) vwCl (wM m0 m1 m2 m3 m4 m5 m6 m7 m8 m9 cI cZ u2) t.heap) A) ([.ref m0, .int x1, .int x2, .int x3, .int x4, .int x5, .int x6, .int x7] : List Value).toArray s 0 0 A) (F0 m 193 ls []) := by
                    intro v9_24 u_25 h H locs hP hS ls hl
                    have h := hKi_126 _ _ h
                    obtain ⟨y_26, ey_26⟩ : ∃ z : Int32, z = v11_12 + (1 : Int32) := ⟨_, rfl⟩
                    have h := h y_26 ey_26
                    refine lv_iinc (v := y_26) (lv' := [(11, .int y_26), (0, .ref m0), (1, .int x1), (2, .int x2), (3, .int x3), (4, .int x4), (5, .int x5), (6, .int x6), (7, .int x7), (9, .int v9_24), (10, .int v10_9)]) hx hb dX5_box_193 hl (k := 10) rfl (by rw [ey_26]; rfl) (by decide) rfl (fun ls hl => ?_)
                    refine lv_goto (tgt := 114) hx hb dX5_box_196 (by decide) ?_
                    exact ih_114 _ _ _ h _ _ hP hS _ (lv_sub hl [1, 2, 3, 4, 5, 6, 7, 8, 9, 10, 0] rfl)
                  obtain ⟨n, h⟩ := h
                  have loop_126 : ∀ (n : Nat) (v9_14 : Int32) (v12_15 : Int32) (u_16 : St), L_X5_box_126 post K_126 x3 x6 x7 v10_9 v11_12 n v9_14 v12_15 u_16 → ∀ (H : Heap) (locs : List Loc), va_P (dC, dI) vwCl (wM m0 m1 m2 m3 m4 m5 m6 m7 m8 m9 cI cZ u_16) H → va_S A s.heap H locs → ∀ (ls : Array Slot), lv_has ls 13 [(0, .ref m0), (1, .int x1), (2, .int x2), (3, .int x3), (4, .int x4), (5, .int x5), (6, .int x6), (7, .int x7), (9, .int v9_14), (10, .int v10_9), (11, .int v11_12), (12, .int v12_15)] → W p l e (headSpec wsX5_box ({ frames := 2, cells := 0, slots := 0, locals := 48 } : Room)).room s m ([.ref m0, .int x1, .int x2, .int x3, .int x4, .int x5, .int x6, .int x7] : List Value).toArray below meth c H locs 0 0 (MQ below (va_Qi post (fun (u2 : St) (t : State) => va_P (dC, dI) vwCl (wM m0 m1 m2 m3 m4 m5 m6 m7 m8 m9 cI cZ u2) t.heap) A) ([.ref m0, .int x1, .int x2, .int x3, .int x4, .int x5, .int x6, .int x7] : List Value).toArray s 0 0 A) (F0 m 126 ls []) := by
                    intro n
                    induction n with
                    | zero => intro v9_14 v12_15 u_16 h; rw [L_X5_box_126] at h; exact h.elim
                    | succ n ih_126 =>
                      intro v9_14 v12_15 u_16 h H locs hP hS ls hl
                      rw [L_X5_box_126] at h
                      refine lv_iload hx hb dX5_box_126 (lv_at hl 11 rfl) ?_
                      refine lv_iload_n hx hb dX5_box_128 rfl (lv_at hl 3 rfl) ?_
                      refine lv_iload hx hb dX5_box_129 (lv_at hl 6 rfl) ?_
                      refine lv_iadd hx hb dX5_box_131 ?_
                      refine lv_icmp_ge (tgt := 193) hx hb dX5_box_132 (by decide) (fun c_132 => ?_) (fun c_132 => ?_)
                      · have h := br1 h c_132
                        exact hK_126 _ _ h _ _ hP hS _ (lv_sub hl [0, 1, 2, 3, 4, 5, 6, 7, 8, 9, 10] rfl)
                      · have h := br2 h c_132
                        refine lv_aload_n hx hb dX5_box_135 rfl (lv_at hl 0 rfl) ?_
                        refine lv_iload hx hb dX5_box_136 (lv_at hl 9 rfl) ?_
                        refine lv_iload hx hb dX5_box_138 (lv_at hl 10 rfl) ?_
                        refine lv_iload hx hb dX5_box_140 (lv_at hl 11 rfl) ?_
                        refine vp_callSi (W.runV (As := [.int _, .int _, .int _]) (rest := []) ⟨hx, hb, hml, hown, hts⟩ (c_X5_isPlace l dC dI m0 m1 m2 m3 m4 m5 m6 m7 m8 m9 cI cZ h) (cwV 3 hts gX5_box_X5_isPlace rfl rfl rfl (by decide +kernel) ⟨Nat.le_of_ble_eq_true rfl, Nat.le_of_ble_eq_true rfl⟩) ⟨fbR, va_recv hK hP (ci := 3) (q0 := 0) rfl rfl, fun U hU hW => ⟨rfl, by rw [hU]; exact hP, va_K.moved hW.alike hK⟩⟩ rfl rfl hl.1 rfl (lv_room (Nat.le_of_ble_eq_true rfl)) dX5_box_142 ⟨Nat.zero_le _, Nat.zero_le _⟩) (fun r_17 h => ?_)
                        obtain ⟨J_187, hJi_187, h⟩ := jnE2 h
                        have hJ_187 : ∀ (v9_21 : Int32) (u_22 : St), J_187 v9_21 u_22 → ∀ (H : Heap) (locs : List Loc), va_P (dC, dI) vwCl (wM m0 m1 m2 m3 m4 m5 m6 m7 m8 m9 cI cZ u_22) H → va_S A s.heap H locs → ∀ (ls : Array Slot), lv_has ls 13 [(0, .ref m0), (1, .int x1), (2, .int x2), (3, .int x3), (4, .int x4), (5, .int x5), (6, .int x6), (7, .int x7), (9, .int v9_21), (10, .int v10_9), (11, .int v11_12), (12, .int v12_15)] → W p l e (headSpec wsX5_box ({ frames := 2, cells := 0, slots := 0, locals := 48 } : Room)).room s m ([.ref m0, .int x1, .int x2, .int x3, .int x4, .int x5, .int x6, .int x7] : List Value).toArray below meth c H locs 0 0 (MQ below (va_Qi post (fun (u2 : St) (t : State) => va_P (dC, dI) vwCl (wM m0 m1 m2 m3 m4 m5 m6 m7 m8 m9 cI cZ u2) t.heap) A) ([.ref m0, .int x1, .int x2, .int x3, .int x4, .int x5, .int x6, .int x7] : List Value).toArray s 0 0 A) (F0 m 187 ls []) := by
                          intro v9_21 u_22 h H locs hP hS ls hl
                          have h := hJi_187 _ _ h
                          obtain ⟨y_23, ey_23⟩ : ∃ z : Int32, z = v12_15 + (1 : Int32) := ⟨_, rfl⟩
                          have h := h y_23 ey_23
                          refine lv_iinc (v := y_23) (lv' := [(12, .int y_23), (0, .ref m0), (1, .int x1), (2, .int x2), (3, .int x3), (4, .int x4), (5, .int x5), (6, .int x6), (7, .int x7), (9, .int v9_21), (10, .int v10_9), (11, .int v11_12)]) hx hb dX5_box_187 hl (k := 11) rfl (by rw [ey_23]; rfl) (by decide) rfl (fun ls hl => ?_)
                          refine lv_goto (tgt := 126) hx hb dX5_box_190 (by decide) ?_
                          exact ih_126 _ _ _ h _ _ hP hS _ (lv_sub hl [1, 2, 3, 4, 5, 6, 7, 8, 9, 10, 11, 0] rfl)
                        refine lv_if_eq (tgt := 187) hx hb dX5_box_145 (by decide) (fun c_145 => ?_) (fun c_145 => ?_)
                        · have h := br1 h c_145
                          exact hJ_187 _ _ h _ _ hP hS _ (lv_sub hl [0, 1, 2, 3, 4, 5, 6, 7, 8, 9, 10, 11] rfl)
                        · have h := br2 h c_145
                          refine lv_aload_n hx hb dX5_box_148 rfl (lv_at hl 0 rfl) ?_
                          refine lv_iload hx hb dX5_box_149 (lv_at hl 9 rfl) ?_
                          refine lv_iload hx hb dX5_box_151 (lv_at hl 10 rfl) ?_
                          refine lv_iload hx hb dX5_box_153 (lv_at hl 11 rfl) ?_
                          refine vp_callSi (W.runV (As := [.int _, .int _, .int _]) (rest := []) ⟨hx, hb, hml, hown, hts⟩ (c_X5_has l dC dI m0 m1 m2 m3 m4 m5 m6 m7 m8 m9 cI cZ h) (cwV 3 hts gX5_box_X5_has rfl rfl rfl (by decide +kernel) ⟨Nat.le_of_ble_eq_true rfl, Nat.le_of_ble_eq_true rfl⟩) ⟨fbR, va_recv hK hP (ci := 3) (q0 := 0) rfl rfl, fun U hU hW => ⟨rfl, by rw [hU]; exact hP, va_K.moved hW.alike hK⟩⟩ rfl rfl hl.1 rfl (lv_room (Nat.le_of_ble_eq_true rfl)) dX5_box_155 ⟨Nat.zero_le _, Nat.zero_le _⟩) (fun r_18 h => ?_)
                          refine lv_iload hx hb dX5_box_158 (lv_at hl 7 rfl) ?_
                          refine lv_icmp_eq (tgt := 187) hx hb dX5_box_160 (by decide) (fun c_160 => ?_) (fun c_160 => ?_)
                          · have h := br1 h c_160
                            exact hJ_187 _ _ h _ _ hP hS _ (lv_sub hl [0, 1, 2, 3, 4, 5, 6, 7, 8, 9, 10, 11] rfl)
                          · have h := br2 h c_160
                            refine lv_aload_n hx hb dX5_box_163 rfl (lv_at hl 0 rfl) ?_
                            refine va_get (D := (dC, dI)) (ci := 3) (v := .ref m1) (C := RX5) (T := TX5) (N := 17) hx hb hts i_X5 hown hK hP 0 rfl rfl 3 (by decide) f_19 (fun _ h9 => h9) rfl dX5_box_164 ?_
                            refine lv_bipush (v := 64) hx hb dX5_box_167 (by decide) ?_
                            refine lv_iload hx hb dX5_box_169 (lv_at hl 9 rfl) ?_
                            refine lv_imul hx hb dX5_box_171 ?_
                            refine lv_bipush (v := 8) hx hb dX5_box_172 (by decide) ?_
                            refine lv_iload hx hb dX5_box_174 (lv_at hl 10 rfl) ?_
                            refine lv_imul hx hb dX5_box_176 ?_
                            refine lv_iadd hx hb dX5_box_177 ?_
                            refine lv_iload hx hb dX5_box_178 (lv_at hl 11 rfl) ?_
                            refine lv_iadd hx hb dX5_box_180 ?_
                            refine lv_iload hx hb dX5_box_181 (lv_at hl 7 rfl) ?_
                            obtain ⟨hi, h⟩ := h
                            refine va_zast hx hb hK hP (hD _) hS 1 1 rfl rfl hi dX5_box_183 (fun H locs hP _ hS => ?_)
                            obtain ⟨u_19, eu_19⟩ : ∃ z : St, z = (u_16.1, va_up u_16.2 3 (upd (u_16.2 3) ((((64 : Int32) * v10_9) + ((8 : Int32) * v11_12)) + v12_15).toNatClampNeg (vp_nar .boolean x7))) := ⟨_, rfl⟩
                            have h := h u_19 eu_19
                            have hP : va_P (dC, dI) vwCl (wM m0 m1 m2 m3 m4 m5 m6 m7 m8 m9 cI cZ u_19) H := by rw [eu_19]; exact hP
                            obtain ⟨y_20, ey_20⟩ : ∃ z : Int32, z = v9_14 + (1 : Int32) := ⟨_, rfl⟩
                            have h := h y_20 ey_20
                            refine lv_iinc (v := y_20) (lv' := [(9, .int y_20), (0, .ref m0), (1, .int x1), (2, .int x2), (3, .int x3), (4, .int x4), (5, .int x5), (6, .int x6), (7, .int x7), (10, .int v10_9), (11, .int v11_12), (12, .int v12_15)]) hx hb dX5_box_184 hl (k := 8) rfl (by rw [ey_20]; rfl) (by decide) rfl (fun ls hl => ?_)
                            exact hJ_187 _ _ h _ _ hP hS _ (lv_sub hl [1, 2, 3, 4, 5, 6, 7, 8, 0, 9, 10, 11] rfl)
                  exact loop_126 n _ _ _ h _ _ hP hS _ (lv_sub hl [1, 2, 3, 4, 5, 6, 7, 8, 9, 10, 11, 0] rfl)
            exact loop_114 n _ _ _ h _ _ hP hS _ (lv_sub hl [1, 2, 3, 4, 5, 6, 7, 8, 9, 10, 0] rfl)
      exact loop_102 n _ _ _ h _ _ hP hS _ (lv_sub hl [3, 4, 5, 6, 7, 8, 9, 10, 1, 0] rfl)
    · have h := br1 h c_90
      refine lv_bipush (v := (-2)) hx hb dX5_box_93 (by decide) ?_
      exact W.iret hx hb hr (fun t ht _ => ⟨⟨_, u, rfl, h, hPr ht hP⟩, hS.F ht⟩) hS.2.2 dX5_box_95
  obtain ⟨J_85, hJi_85, h⟩ := jnE0 h
  have hJ_85 : J_85 → ∀ (H : Heap) (locs : List Loc), va_P (dC, dI) vwCl (wM m0 m1 m2 m3 m4 m5 m6 m7 m8 m9 cI cZ u) H → va_S A s.heap H locs → ∀ (ls : Array Slot), lv_has ls 13 [(0, .ref m0), (1, .int x1), (2, .int x2), (3, .int x3), (4, .int x4), (5, .int x5), (6, .int x6), (7, .int x7)] → W p l e (headSpec wsX5_box ({ frames := 2, cells := 0, slots := 0, locals := 48 } : Room)).room s m ([.ref m0, .int x1, .int x2, .int x3, .int x4, .int x5, .int x6, .int x7] : List Value).toArray below meth c H locs 0 0 (MQ below (va_Qi post (fun (u2 : St) (t : State) => va_P (dC, dI) vwCl (wM m0 m1 m2 m3 m4 m5 m6 m7 m8 m9 cI cZ u2) t.heap) A) ([.ref m0, .int x1, .int x2, .int x3, .int x4, .int x5, .int x6, .int x7] : List Value).toArray s 0 0 A) (F0 m 85 ls []) := by
    intro  h H locs hP hS ls hl
    have h := hJi_85 h
    refine lv_iconst (v := 0) hx hb dX5_box_85 (by decide) ?_
    exact hJ_86 _ h _ _ hP hS _ (lv_sub hl [0, 1, 2, 3, 4, 5, 6, 7] rfl)
  refine lv_if_eq (tgt := 85) hx hb dX5_box_11 (by decide) (fun c_11 => ?_) (fun c_11 => ?_)
  · have h := br1 h c_11
    exact hJ_85 h _ _ hP hS _ (lv_sub hl [0, 1, 2, 3, 4, 5, 6, 7] rfl)
  · have h := br2 h c_11
    refine lv_iload_n hx hb dX5_box_14 rfl (lv_at hl 2 rfl) ?_
    refine lv_i2l hx hb dX5_box_15 rfl ?_
    refine lv_ldc2 hx hb hown k_58 dX5_box_16 ?_
    refine lv_ldc2 hx hb hown k_52 dX5_box_19 ?_
    refine vp_callSi (W.runS (As := [.long _, .long _, .long _]) (rest := []) ⟨hx, hb, hml, hown, hts⟩ (c_X5_in l h) (va_cwS 3 hts gX5_box_X5_in rfl rfl rfl (by decide +kernel) ⟨Nat.le_of_ble_eq_true rfl, Nat.le_of_ble_eq_true rfl⟩) ⟨fun _ _ _ _ q => q, fun _ _ _ => ⟨rfl, trivial⟩⟩ rfl rfl hl.1 rfl (lv_room (Nat.le_of_ble_eq_true rfl)) dX5_box_22 ⟨Nat.zero_le _, Nat.zero_le _⟩) (fun r_2 h => ?_)
    refine lv_if_eq (tgt := 85) hx hb dX5_box_25 (by decide) (fun c_25 => ?_) (fun c_25 => ?_)
    · have h := br1 h c_25
      exact hJ_85 h _ _ hP hS _ (lv_sub hl [0, 1, 2, 3, 4, 5, 6, 7] rfl)
    · have h := br2 h c_25
      refine lv_iload_n hx hb dX5_box_28 rfl (lv_at hl 3 rfl) ?_
      refine lv_i2l hx hb dX5_box_29 rfl ?_
      refine lv_ldc2 hx hb hown k_58 dX5_box_30 ?_
      refine lv_ldc2 hx hb hown k_52 dX5_box_33 ?_
      refine vp_callSi (W.runS (As := [.long _, .long _, .long _]) (rest := []) ⟨hx, hb, hml, hown, hts⟩ (c_X5_in l h) (va_cwS 3 hts gX5_box_X5_in rfl rfl rfl (by decide +kernel) ⟨Nat.le_of_ble_eq_true rfl, Nat.le_of_ble_eq_true rfl⟩) ⟨fun _ _ _ _ q => q, fun _ _ _ => ⟨rfl, trivial⟩⟩ rfl rfl hl.1 rfl (lv_room (Nat.le_of_ble_eq_true rfl)) dX5_box_36 ⟨Nat.zero_le _, Nat.zero_le _⟩) (fun r_3 h => ?_)
      refine lv_if_eq (tgt := 85) hx hb dX5_box_39 (by decide) (fun c_39 => ?_) (fun c_39 => ?_)
      · have h := br1 h c_39
        exact hJ_85 h _ _ hP hS _ (lv_sub hl [0, 1, 2, 3, 4, 5, 6, 7] rfl)
      · have h := br2 h c_39
        refine lv_iload hx hb dX5_box_42 (lv_at hl 4 rfl) ?_
        refine lv_i2l hx hb dX5_box_44 rfl ?_
        refine lv_lconst (v := 1) hx hb dX5_box_45 (by decide) ?_
        refine lv_ldc2 hx hb hown k_52 dX5_box_46 ?_
        refine vp_callSi (W.runS (As := [.long _, .long _, .long _]) (rest := []) ⟨hx, hb, hml, hown, hts⟩ (c_X5_in l h) (va_cwS 3 hts gX5_box_X5_in rfl rfl rfl (by decide +kernel) ⟨Nat.le_of_ble_eq_true rfl, Nat.le_of_ble_eq_true rfl⟩) ⟨fun _ _ _ _ q => q, fun _ _ _ => ⟨rfl, trivial⟩⟩ rfl rfl hl.1 rfl (lv_room (Nat.le_of_ble_eq_true rfl)) dX5_box_49 ⟨Nat.zero_le _, Nat.zero_le _⟩) (fun r_4 h => ?_)
        refine lv_if_eq (tgt := 85) hx hb dX5_box_52 (by decide) (fun c_52 => ?_) (fun c_52 => ?_)
        · have h := br1 h c_52
          exact hJ_85 h _ _ hP hS _ (lv_sub hl [0, 1, 2, 3, 4, 5, 6, 7] rfl)
        · have h := br2 h c_52
          refine lv_iload hx hb dX5_box_55 (lv_at hl 5 rfl) ?_
          refine lv_i2l hx hb dX5_box_57 rfl ?_
          refine lv_lconst (v := 1) hx hb dX5_box_58 (by decide) ?_
          refine lv_ldc2 hx hb hown k_52 dX5_box_59 ?_
          refine vp_callSi (W.runS (As := [.long _, .long _, .long _]) (rest := []) ⟨hx, hb, hml, hown, hts⟩ (c_X5_in l h) (va_cwS 3 hts gX5_box_X5_in rfl rfl rfl (by decide +kernel) ⟨Nat.le_of_ble_eq_true rfl, Nat.le_of_ble_eq_true rfl⟩) ⟨fun _ _ _ _ q => q, fun _ _ _ => ⟨rfl, trivial⟩⟩ rfl rfl hl.1 rfl (lv_room (Nat.le_of_ble_eq_true rfl)) dX5_box_62 ⟨Nat.zero_le _, Nat.zero_le _⟩) (fun r_5 h => ?_)
          refine lv_if_eq (tgt := 85) hx hb dX5_box_65 (by decide) (fun c_65 => ?_) (fun c_65 => ?_)
          · have h := br1 h c_65
            exact hJ_85 h _ _ hP hS _ (lv_sub hl [0, 1, 2, 3, 4, 5, 6, 7] rfl)
          · have h := br2 h c_65
            refine lv_iload hx hb dX5_box_68 (lv_at hl 6 rfl) ?_
            refine lv_i2l hx hb dX5_box_70 rfl ?_
            refine lv_lconst (v := 1) hx hb dX5_box_71 (by decide) ?_
            refine lv_ldc2 hx hb hown k_52 dX5_box_72 ?_
            refine vp_callSi (W.runS (As := [.long _, .long _, .long _]) (rest := []) ⟨hx, hb, hml, hown, hts⟩ (c_X5_in l h) (va_cwS 3 hts gX5_box_X5_in rfl rfl rfl (by decide +kernel) ⟨Nat.le_of_ble_eq_true rfl, Nat.le_of_ble_eq_true rfl⟩) ⟨fun _ _ _ _ q => q, fun _ _ _ => ⟨rfl, trivial⟩⟩ rfl rfl hl.1 rfl (lv_room (Nat.le_of_ble_eq_true rfl)) dX5_box_75 ⟨Nat.zero_le _, Nat.zero_le _⟩) (fun r_6 h => ?_)
            refine lv_if_eq (tgt := 85) hx hb dX5_box_78 (by decide) (fun c_78 => ?_) (fun c_78 => ?_)
            · have h := br1 h c_78
              exact hJ_85 h _ _ hP hS _ (lv_sub hl [0, 1, 2, 3, 4, 5, 6, 7] rfl)
            · have h := br2 h c_78
              refine lv_iconst (v := 1) hx hb dX5_box_81 (by decide) ?_
              refine lv_goto (tgt := 86) hx hb dX5_box_82 (by decide) ?_
              exact hJ_86 _ h _ _ hP hS _ (lv_sub hl [0, 1, 2, 3, 4, 5, 6, 7] rfl)
set_option maxHeartbeats 4000000 in
set_option maxRecDepth 100000 in
theorem c_X5_at (l : Launch) (dC : Nat → ClassId) (dI : Nat → Nat → Nat) (m0 m1 m2 m3 m4 m5 m6 m7 m8 m9 : Nat) (cI cZ : ClassId) {u : St} {x1 : Int32} {x2 : Int32} {x3 : Int32} {post : Int32 → Prop} (h : P_X5_at u x1 x2 x3 post) : Met l yX5_at wsX5_at ({ frames := 2, cells := 0, slots := 0, locals := 48 } : Room) (RPre (dC, dI) vwCl (wM m0 m1 m2 m3 m4 m5 m6 m7 m8 m9 cI cZ u) [(cI, .int), (cZ, .boolean)] [.ref m0, .int x1, .int x2, .int x3]) (vp_Si post) 0 0 (fun _ => False) := by
  refine Met.ofW (cc := cX5_at) (maxL := 4) (ret := (some .int)) (by decide) rfl ?_
  intro p e s m args below meth c s₁ B hml hv
  obtain ⟨rfl, hP, hK⟩ := hv
  have hx := B.exec
  have hb := B.bytes
  have hr := B.returns
  have hts := atoms_spec (ws := wsX5_at) B.pre
  have hown : s.vm.findClass RX5 = some m.cls := findClass_of_methodNamed B.named
  have hlocks := B.notSynchronized
  have hl := lv_entry ([.ref m0, .int x1, .int x2, .int x3]) (n := 4) (Nat.le_of_ble_eq_true rfl)
  rw [lg_entry_eq]
  generalize (lg_sl ([.ref m0, .int x1, .int x2, .int x3]) ++ List.replicate (4 - (lg_sl ([.ref m0, .int x1, .int x2, .int x3])).length) Slot.unset).toArray = ls at hl ⊢
  have hl : lv_has ls 4 [(0, .ref m0), (1, .int x1), (2, .int x2), (3, .int x3)] := hl
  unfold P_X5_at at h
  refine lv_aload_n hx hb dX5_at_0 rfl (lv_at hl 0 rfl) ?_
  refine lv_iload_n hx hb dX5_at_1 rfl (lv_at hl 1 rfl) ?_
  refine lv_iload_n hx hb dX5_at_2 rfl (lv_at hl 2 rfl) ?_
  refine lv_iload_n hx hb dX5_at_3 rfl (lv_at hl 3 rfl) ?_
  refine vp_callSi (W.runV (As := [.int _, .int _, .int _]) (rest := []) ⟨hx, hb, hml, hown, hts⟩ (c_X5_isPlace l dC dI m0 m1 m2 m3 m4 m5 m6 m7 m8 m9 cI cZ h) (cwV 3 hts gX5_at_X5_isPlace rfl rfl rfl (by decide +kernel) ⟨Nat.le_of_ble_eq_true rfl, Nat.le_of_ble_eq_true rfl⟩) ⟨fbR, va_recv hK hP (ci := 3) (q0 := 0) rfl rfl, fun U hU hW => ⟨rfl, by rw [hU]; exact hP, va_K.moved hW.alike hK⟩⟩ rfl rfl hl.1 rfl (lv_room (Nat.le_of_ble_eq_true rfl)) dX5_at_4 ⟨Nat.zero_le _, Nat.zero_le _⟩) (fun r_1 h => ?_)
  refine lv_if_ne (tgt := 14) hx hb dX5_at_7 (by decide) (fun c_7 => ?_) (fun c_7 => ?_)
  · have h := br2 h c_7
    refine lv_aload_n hx hb dX5_at_14 rfl (lv_at hl 0 rfl) ?_
    refine lv_iload_n hx hb dX5_at_15 rfl (lv_at hl 1 rfl) ?_
    refine lv_iload_n hx hb dX5_at_16 rfl (lv_at hl 2 rfl) ?_
    refine lv_iload_n hx hb dX5_at_17 rfl (lv_at hl 3 rfl) ?_
    refine vp_callSi (W.runV (As := [.int _, .int _, .int _]) (rest := []) ⟨hx, hb, hml, hown, hts⟩ (c_X5_has l dC dI m0 m1 m2 m3 m4 m5 m6 m7 m8 m9 cI cZ h) (cwV 3 hts gX5_at_X5_has rfl rfl rfl (by decide +kernel) ⟨Nat.le_of_ble_eq_true rfl, Nat.le_of_ble_eq_true rfl⟩) ⟨fbR, va_recv hK hP (ci := 3) (q0 := 0) rfl rfl, fun U hU hW => ⟨rfl, by rw [hU]; exact hP, va_K.moved hW.alike hK⟩⟩ rfl rfl hl.1 rfl (lv_room (Nat.le_of_ble_eq_true rfl)) dX5_at_18 ⟨Nat.zero_le _, Nat.zero_le _⟩) (fun r_2 h => ?_)
    refine lv_if_eq (tgt := 28) hx hb dX5_at_21 (by decide) (fun c_21 => ?_) (fun c_21 => ?_)
    · have h := br1 h c_21
      refine lv_iconst (v := 0) hx hb dX5_at_28 (by decide) ?_
      exact W.iret hx hb hr (fun t ht _ => ⟨_, rfl, h, ht⟩) (fun q hq => by cases hq) dX5_at_29
    · have h := br2 h c_21
      refine lv_iconst (v := 1) hx hb dX5_at_24 (by decide) ?_
      refine lv_goto (tgt := 29) hx hb dX5_at_25 (by decide) ?_
      exact W.iret hx hb hr (fun t ht _ => ⟨_, rfl, h, ht⟩) (fun q hq => by cases hq) dX5_at_29
  · have h := br1 h c_7
    refine lv_iconst (v := (-1)) hx hb dX5_at_10 (by decide) ?_
    refine lv_goto (tgt := 29) hx hb dX5_at_11 (by decide) ?_
    exact W.iret hx hb hr (fun t ht _ => ⟨_, rfl, h, ht⟩) (fun q hq => by cases hq) dX5_at_29
set_option maxHeartbeats 4000000 in
set_option maxRecDepth 100000 in
theorem c_X5_places (l : Launch) (dC : Nat → ClassId) (dI : Nat → Nat → Nat) (m0 m1 m2 m3 m4 m5 m6 m7 m8 m9 : Nat) (cI cZ : ClassId) {u : St} {x1 : Int32} {post : Int32 → Prop} (h : P_X5_places u x1 post) : Met l yX5_places wsX5_places ({ frames := 0, cells := 0, slots := 0, locals := 0 } : Room) (RPre (dC, dI) vwCl (wM m0 m1 m2 m3 m4 m5 m6 m7 m8 m9 cI cZ u) [(cI, .int), (cZ, .boolean)] [.ref m0, .int x1]) (vp_Si post) 0 0 (fun _ => False) := by
  refine Met.ofW (cc := cX5_places) (maxL := 2) (ret := (some .int)) (by decide) rfl ?_
  intro p e s m args below meth c s₁ B hml hv
  obtain ⟨rfl, hP, hK⟩ := hv
  have hx := B.exec
  have hb := B.bytes
  have hr := B.returns
  have hts := atoms_spec (ws := wsX5_places) B.pre
  have hown : s.vm.findClass RX5 = some m.cls := findClass_of_methodNamed B.named
  have hlocks := B.notSynchronized
  have hl := lv_entry ([.ref m0, .int x1]) (n := 2) (Nat.le_of_ble_eq_true rfl)
  rw [lg_entry_eq]
  generalize (lg_sl ([.ref m0, .int x1]) ++ List.replicate (2 - (lg_sl ([.ref m0, .int x1])).length) Slot.unset).toArray = ls at hl ⊢
  have hl : lv_has ls 2 [(0, .ref m0), (1, .int x1)] := hl
  have i_X5 : ∀ w ∈ u_ws RX5 TX5 17, w ∈ wsX5_places := by decide +kernel
  have f_7 := hts (.fieldLink RX5 7 "SliceBodyModel" "wideX" "I") (by decide +kernel)
  have f_13 := hts (.fieldLink RX5 13 "SliceBodyModel" "wideY" "I") (by decide +kernel)
  unfold P_X5_places at h
  refine lv_iload_n hx hb dX5_places_0 rfl (lv_at hl 1 rfl) ?_
  refine lv_if_ne (tgt := 11) hx hb dX5_places_1 (by decide) (fun c_1 => ?_) (fun c_1 => ?_)
  · have h := br2 h c_1
    refine lv_aload_n hx hb dX5_places_11 rfl (lv_at hl 0 rfl) ?_
    refine va_get (D := (dC, dI)) (ci := 3) (v := .int (u.1 1)) (C := RX5) (T := TX5) (N := 17) hx hb hts i_X5 hown hK hP 0 rfl rfl 1 (by decide) f_13 (fun _ h9 => h9) rfl dX5_places_12 ?_
    exact W.iret hx hb hr (fun t ht _ => ⟨_, rfl, h, ht⟩) (fun q hq => by cases hq) dX5_places_15
  · have h := br1 h c_1
    refine lv_aload_n hx hb dX5_places_4 rfl (lv_at hl 0 rfl) ?_
    refine va_get (D := (dC, dI)) (ci := 3) (v := .int (u.1 0)) (C := RX5) (T := TX5) (N := 17) hx hb hts i_X5 hown hK hP 0 rfl rfl 0 (by decide) f_7 (fun _ h9 => h9) rfl dX5_places_5 ?_
    refine lv_goto (tgt := 15) hx hb dX5_places_8 (by decide) ?_
    exact W.iret hx hb hr (fun t ht _ => ⟨_, rfl, h, ht⟩) (fun q hq => by cases hq) dX5_places_15
set_option maxHeartbeats 4000000 in
set_option maxRecDepth 100000 in
theorem c_X5_isRib (l : Launch) (dC : Nat → ClassId) (dI : Nat → Nat → Nat) (m0 m1 m2 m3 m4 m5 m6 m7 m8 m9 : Nat) (cI cZ : ClassId) {u : St} {x1 : Int32} {x2 : Int32} {post : Int32 → Prop} (h : P_X5_isRib u x1 x2 post) : Met l yX5_isRib wsX5_isRib ({ frames := 1, cells := 0, slots := 0, locals := 25 } : Room) (RPre (dC, dI) vwCl (wM m0 m1 m2 m3 m4 m5 m6 m7 m8 m9 cI cZ u) [(cI, .int), (cZ, .boolean)] [.ref m0, .int x1, .int x2]) (vp_Si post) 0 0 (fun _ => False) := by
  refine Met.ofW (cc := cX5_isRib) (maxL := 3) (ret := (some .boolean)) (by decide) rfl ?_
  intro p e s m args below meth c s₁ B hml hv
  obtain ⟨rfl, hP, hK⟩ := hv
  have hx := B.exec
  have hb := B.bytes
  have hr := B.returns
  have hts := atoms_spec (ws := wsX5_isRib) B.pre
  have hown : s.vm.findClass RX5 = some m.cls := findClass_of_methodNamed B.named
  have hlocks := B.notSynchronized
  have hl := lv_entry ([.ref m0, .int x1, .int x2]) (n := 3) (Nat.le_of_ble_eq_true rfl)
  rw [lg_entry_eq]
  generalize (lg_sl ([.ref m0, .int x1, .int x2]) ++ List.replicate (3 - (lg_sl ([.ref m0, .int x1, .int x2])).length) Slot.unset).toArray = ls at hl ⊢
  have hl : lv_has ls 3 [(0, .ref m0), (1, .int x1), (2, .int x2)] := hl
  unfold P_X5_isRib at h
  refine lv_iload_n hx hb dX5_isRib_0 rfl (lv_at hl 1 rfl) ?_
  refine lv_i2l hx hb dX5_isRib_1 rfl ?_
  refine lv_lconst (v := 0) hx hb dX5_isRib_2 (by decide) ?_
  refine lv_lconst (v := 1) hx hb dX5_isRib_3 (by decide) ?_
  refine vp_callSi (W.runS (As := [.long _, .long _, .long _]) (rest := []) ⟨hx, hb, hml, hown, hts⟩ (c_X5_in l h) (va_cwS 3 hts gX5_isRib_X5_in rfl rfl rfl (by decide +kernel) ⟨Nat.le_of_ble_eq_true rfl, Nat.le_of_ble_eq_true rfl⟩) ⟨fun _ _ _ _ q => q, fun _ _ _ => ⟨rfl, trivial⟩⟩ rfl rfl hl.1 rfl (lv_room (Nat.le_of_ble_eq_true rfl)) dX5_isRib_4 ⟨Nat.zero_le _, Nat.zero_le _⟩) (fun r_1 h => ?_)
  refine lv_if_eq (tgt := 31) hx hb dX5_isRib_7 (by decide) (fun c_7 => ?_) (fun c_7 => ?_)
  · have h := br1 h c_7
    refine lv_iconst (v := 0) hx hb dX5_isRib_31 (by decide) ?_
    exact W.zret (ty := .boolean) hx hb hr rfl (fun t ht _ => ⟨_, rfl, h, ht⟩) (fun q hq => by cases hq) dX5_isRib_32
  · have h := br2 h c_7
    refine lv_iload_n hx hb dX5_isRib_10 rfl (lv_at hl 2 rfl) ?_
    refine lv_i2l hx hb dX5_isRib_11 rfl ?_
    refine lv_lconst (v := 0) hx hb dX5_isRib_12 (by decide) ?_
    refine lv_aload_n hx hb dX5_isRib_13 rfl (lv_at hl 0 rfl) ?_
    refine lv_iload_n hx hb dX5_isRib_14 rfl (lv_at hl 1 rfl) ?_
    refine vp_callSi (W.runV (As := [.int _]) (rest := [.long _, .long _]) ⟨hx, hb, hml, hown, hts⟩ (c_X5_places l dC dI m0 m1 m2 m3 m4 m5 m6 m7 m8 m9 cI cZ h) (cwV 1 hts gX5_isRib_X5_places rfl rfl rfl (by decide +kernel) ⟨Nat.le_of_ble_eq_true rfl, Nat.le_of_ble_eq_true rfl⟩) ⟨fbR, va_recv hK hP (ci := 3) (q0 := 0) rfl rfl, fun U hU hW => ⟨rfl, by rw [hU]; exact hP, va_K.moved hW.alike hK⟩⟩ rfl rfl hl.1 rfl (lv_room (Nat.le_of_ble_eq_true rfl)) dX5_isRib_15 ⟨Nat.zero_le _, Nat.zero_le _⟩) (fun r_2 h => ?_)
    refine lv_iconst (v := 1) hx hb dX5_isRib_18 (by decide) ?_
    refine lv_isub hx hb dX5_isRib_19 ?_
    refine lv_i2l hx hb dX5_isRib_20 rfl ?_
    refine vp_callSi (W.runS (As := [.long _, .long _, .long _]) (rest := []) ⟨hx, hb, hml, hown, hts⟩ (c_X5_in l h) (va_cwS 3 hts gX5_isRib_X5_in rfl rfl rfl (by decide +kernel) ⟨Nat.le_of_ble_eq_true rfl, Nat.le_of_ble_eq_true rfl⟩) ⟨fun _ _ _ _ q => q, fun _ _ _ => ⟨rfl, trivial⟩⟩ rfl rfl hl.1 rfl (lv_room (Nat.le_of_ble_eq_true rfl)) dX5_isRib_21 ⟨Nat.zero_le _, Nat.zero_le _⟩) (fun r_3 h => ?_)
    refine lv_if_eq (tgt := 31) hx hb dX5_isRib_24 (by decide) (fun c_24 => ?_) (fun c_24 => ?_)
    · have h := br1 h c_24
      refine lv_iconst (v := 0) hx hb dX5_isRib_31 (by decide) ?_
      exact W.zret (ty := .boolean) hx hb hr rfl (fun t ht _ => ⟨_, rfl, h, ht⟩) (fun q hq => by cases hq) dX5_isRib_32
    · have h := br2 h c_24
      refine lv_iconst (v := 1) hx hb dX5_isRib_27 (by decide) ?_
      refine lv_goto (tgt := 32) hx hb dX5_isRib_28 (by decide) ?_
      exact W.zret (ty := .boolean) hx hb hr rfl (fun t ht _ => ⟨_, rfl, h, ht⟩) (fun q hq => by cases hq) dX5_isRib_32
set_option maxHeartbeats 4000000 in
set_option maxRecDepth 100000 in
theorem c_X5_isChosen (l : Launch) (dC : Nat → ClassId) (dI : Nat → Nat → Nat) (m0 m1 m2 m3 m4 m5 m6 m7 m8 m9 : Nat) (cI cZ : ClassId) {u : St} {x1 : Int32} {x2 : Int32} {post : Int32 → Prop} (h : P_X5_isChosen u x1 x2 post) : Met l yX5_isChosen wsX5_isChosen ({ frames := 0, cells := 0, slots := 0, locals := 0 } : Room) (RPre (dC, dI) vwCl (wM m0 m1 m2 m3 m4 m5 m6 m7 m8 m9 cI cZ u) [(cI, .int), (cZ, .boolean)] [.ref m0, .int x1, .int x2]) (vp_Si post) 0 0 (fun _ => False) := by
  refine Met.ofW (cc := cX5_isChosen) (maxL := 3) (ret := (some .boolean)) (by decide) rfl ?_
  intro p e s m args below meth c s₁ B hml hv
  obtain ⟨rfl, hP, hK⟩ := hv
  have hx := B.exec
  have hb := B.bytes
  have hr := B.returns
  have hts := atoms_spec (ws := wsX5_isChosen) B.pre
  have hown : s.vm.findClass RX5 = some m.cls := findClass_of_methodNamed B.named
  have hlocks := B.notSynchronized
  have hl := lv_entry ([.ref m0, .int x1, .int x2]) (n := 3) (Nat.le_of_ble_eq_true rfl)
  rw [lg_entry_eq]
  generalize (lg_sl ([.ref m0, .int x1, .int x2]) ++ List.replicate (3 - (lg_sl ([.ref m0, .int x1, .int x2])).length) Slot.unset).toArray = ls at hl ⊢
  have hl : lv_has ls 3 [(0, .ref m0), (1, .int x1), (2, .int x2)] := hl
  have i_X5 : ∀ w ∈ u_ws RX5 TX5 17, w ∈ wsX5_isChosen := by decide +kernel
  have f_23 := hts (.fieldLink RX5 23 "SliceBodyModel" "chosen" "[I") (by decide +kernel)
  unfold P_X5_isChosen at h
  refine lv_aload_n hx hb dX5_isChosen_0 rfl (lv_at hl 0 rfl) ?_
  refine va_get (D := (dC, dI)) (ci := 3) (v := .ref m2) (C := RX5) (T := TX5) (N := 17) hx hb hts i_X5 hown hK hP 0 rfl rfl 4 (by decide) f_23 (fun _ h9 => h9) rfl dX5_isChosen_1 ?_
  refine lv_iload_n hx hb dX5_isChosen_4 rfl (lv_at hl 1 rfl) ?_
  obtain ⟨hi, h⟩ := h
  refine va_iald hx hb hK hP 2 0 rfl rfl hi dX5_isChosen_5 ?_
  refine lv_iload_n hx hb dX5_isChosen_6 rfl (lv_at hl 2 rfl) ?_
  refine lv_ishr hx hb dX5_isChosen_7 ?_
  refine lv_iconst (v := 1) hx hb dX5_isChosen_8 (by decide) ?_
  refine lv_iand hx hb dX5_isChosen_9 ?_
  refine lv_iconst (v := 1) hx hb dX5_isChosen_10 (by decide) ?_
  refine lv_icmp_ne (tgt := 18) hx hb dX5_isChosen_11 (by decide) (fun c_11 => ?_) (fun c_11 => ?_)
  · have h := br2 h c_11
    refine lv_iconst (v := 0) hx hb dX5_isChosen_18 (by decide) ?_
    exact W.zret (ty := .boolean) hx hb hr rfl (fun t ht _ => ⟨_, rfl, h, ht⟩) (fun q hq => by cases hq) dX5_isChosen_19
  · have h := br1 h c_11
    refine lv_iconst (v := 1) hx hb dX5_isChosen_14 (by decide) ?_
    refine lv_goto (tgt := 19) hx hb dX5_isChosen_15 (by decide) ?_
    exact W.zret (ty := .boolean) hx hb hr rfl (fun t ht _ => ⟨_, rfl, h, ht⟩) (fun q hq => by cases hq) dX5_isChosen_19
set_option maxHeartbeats 4000000 in
set_option maxRecDepth 100000 in
theorem c_X5_rib (l : Launch) (dC : Nat → ClassId) (dI : Nat → Nat → Nat) (m0 m1 m2 m3 m4 m5 m6 m7 m8 m9 : Nat) (cI cZ : ClassId) (sz : Nat) {u : St} {x1 : Int32} {x2 : Int32} {x3 : Int32} {post : Int32 → St → Prop} (h : P_X5_rib u x1 x2 x3 post) : Met l yX5_rib wsX5_rib ({ frames := 2, cells := 0, slots := 0, locals := 47 } : Room) (MPre (dC, dI) vwCl (wM m0 m1 m2 m3 m4 m5 m6 m7 m8 m9 cI cZ u) [(cI, .int), (cZ, .boolean)] sz [.ref m0, .int x1, .int x2, .int x3]) (va_Qi post (fun (u2 : St) (t : State) => va_P (dC, dI) vwCl (wM m0 m1 m2 m3 m4 m5 m6 m7 m8 m9 cI cZ u2) t.heap) (va_A (wM m0 m1 m2 m3 m4 m5 m6 m7 m8 m9 cI cZ u) sz)) 0 0 (va_A (wM m0 m1 m2 m3 m4 m5 m6 m7 m8 m9 cI cZ u) sz) := by
  refine Met.ofW (cc := cX5_rib) (maxL := 5) (ret := (some .int)) (by decide) rfl ?_
  intro p e s m args below meth c s₁ B hml hv
  obtain ⟨rfl, hsz, hP, hK, hD0⟩ := hv
  have hx := B.exec
  have hb := B.bytes
  have hr := B.returns
  have hts := atoms_spec (ws := wsX5_rib) B.pre
  have hown : s.vm.findClass RX5 = some m.cls := findClass_of_methodNamed B.named
  have hlocks := B.notSynchronized
  subst hsz
  have hD1 := hD0.self (sz := s.heap.size)
  generalize hAe : va_A (wM m0 m1 m2 m3 m4 m5 m6 m7 m8 m9 cI cZ u) s.heap.size = A at hD1 ⊢
  have hA : ∀ q : Nat, s.heap.size ≤ q → A q := fun q h => by rw [← hAe]; exact Or.inr h
  have hD : ∀ z, va_D A (wM m0 m1 m2 m3 m4 m5 m6 m7 m8 m9 cI cZ z) := fun z => va_Dsame hD1 rfl
  have hS : va_S A s.heap s.heap [] := va_S.rf
  have hl := lv_entry ([.ref m0, .int x1, .int x2, .int x3]) (n := 5) (Nat.le_of_ble_eq_true rfl)
  rw [lg_entry_eq]
  generalize (lg_sl ([.ref m0, .int x1, .int x2, .int x3]) ++ List.replicate (5 - (lg_sl ([.ref m0, .int x1, .int x2, .int x3])).length) Slot.unset).toArray = ls at hl ⊢
  have hl : lv_has ls 5 [(0, .ref m0), (1, .int x1), (2, .int x2), (3, .int x3)] := hl
  have i_X5 : ∀ w ∈ u_ws RX5 TX5 17, w ∈ wsX5_rib := by decide +kernel
  have f_23 := hts (.fieldLink RX5 23 "SliceBodyModel" "chosen" "[I") (by decide +kernel)
  have f_54 := hts (.fieldLink RX5 54 "SliceBodyModel" "isLaid" "Z") (by decide +kernel)
  unfold P_X5_rib at h
  refine lv_aload_n hx hb dX5_rib_0 rfl (lv_at hl 0 rfl) ?_
  refine lv_iload_n hx hb dX5_rib_1 rfl (lv_at hl 1 rfl) ?_
  refine lv_iload_n hx hb dX5_rib_2 rfl (lv_at hl 2 rfl) ?_
  refine vp_callSi (W.runV (As := [.int _, .int _]) (rest := []) ⟨hx, hb, hml, hown, hts⟩ (c_X5_isRib l dC dI m0 m1 m2 m3 m4 m5 m6 m7 m8 m9 cI cZ h) (cwV 2 hts gX5_rib_X5_isRib rfl rfl rfl (by decide +kernel) ⟨Nat.le_of_ble_eq_true rfl, Nat.le_of_ble_eq_true rfl⟩) ⟨fbR, va_recv hK hP (ci := 3) (q0 := 0) rfl rfl, fun U hU hW => ⟨rfl, by rw [hU]; exact hP, va_K.moved hW.alike hK⟩⟩ rfl rfl hl.1 rfl (lv_room (Nat.le_of_ble_eq_true rfl)) dX5_rib_3 ⟨Nat.zero_le _, Nat.zero_le _⟩) (fun r_1 h => ?_)
  refine lv_if_ne (tgt := 11) hx hb dX5_rib_6 (by decide) (fun c_6 => ?_) (fun c_6 => ?_)
  · have h := br2 h c_6
    refine lv_aload_n hx hb dX5_rib_11 rfl (lv_at hl 0 rfl) ?_
    refine lv_iload_n hx hb dX5_rib_12 rfl (lv_at hl 1 rfl) ?_
    refine lv_iload_n hx hb dX5_rib_13 rfl (lv_at hl 2 rfl) ?_
    refine vp_callSi (W.runV (As := [.int _, .int _]) (rest := []) ⟨hx, hb, hml, hown, hts⟩ (c_X5_isChosen l dC dI m0 m1 m2 m3 m4 m5 m6 m7 m8 m9 cI cZ h) (cwV 2 hts gX5_rib_X5_isChosen rfl rfl rfl (by decide +kernel) ⟨Nat.le_of_ble_eq_true rfl, Nat.le_of_ble_eq_true rfl⟩) ⟨fbR, va_recv hK hP (ci := 3) (q0 := 0) rfl rfl, fun U hU hW => ⟨rfl, by rw [hU]; exact hP, va_K.moved hW.alike hK⟩⟩ rfl rfl hl.1 rfl (lv_room (Nat.le_of_ble_eq_true rfl)) dX5_rib_14 ⟨Nat.zero_le _, Nat.zero_le _⟩) (fun r_2 h => ?_)
    obtain ⟨J_25, hJi_25, h⟩ := jnE1 h
    have hJ_25 : ∀ (w_3 : Int32), J_25 w_3 → ∀ (H : Heap) (locs : List Loc), va_P (dC, dI) vwCl (wM m0 m1 m2 m3 m4 m5 m6 m7 m8 m9 cI cZ u) H → va_S A s.heap H locs → ∀ (ls : Array Slot), lv_has ls 5 [(0, .ref m0), (1, .int x1), (2, .int x2), (3, .int x3)] → W p l e (headSpec wsX5_rib ({ frames := 2, cells := 0, slots := 0, locals := 47 } : Room)).room s m ([.ref m0, .int x1, .int x2, .int x3] : List Value).toArray below meth c H locs 0 0 (MQ below (va_Qi post (fun (u2 : St) (t : State) => va_P (dC, dI) vwCl (wM m0 m1 m2 m3 m4 m5 m6 m7 m8 m9 cI cZ u2) t.heap) A) ([.ref m0, .int x1, .int x2, .int x3] : List Value).toArray s 0 0 A) (F0 m 25 ls [.int w_3]) := by
      intro w_3 h H locs hP hS ls hl
      have h := hJi_25 _ h
      refine lv_istore (lv' := [(4, .int w_3), (0, .ref m0), (1, .int x1), (2, .int x2), (3, .int x3)]) hx hb dX5_rib_25 hl (by decide) rfl (fun ls hl => ?_)
      refine lv_aload_n hx hb dX5_rib_27 rfl (lv_at hl 1 rfl) ?_
      refine va_get (D := (dC, dI)) (ci := 3) (v := .ref m2) (C := RX5) (T := TX5) (N := 17) hx hb hts i_X5 hown hK hP 0 rfl rfl 4 (by decide) f_23 (fun _ h9 => h9) rfl dX5_rib_28 ?_
      refine lv_iload_n hx hb dX5_rib_31 rfl (lv_at hl 2 rfl) ?_
      refine lv_iload_n hx hb dX5_rib_32 rfl (lv_at hl 4 rfl) ?_
      obtain ⟨J_61, hJi_61, h⟩ := jnE1 h
      have hJ_61 : ∀ (w_4 : Int32), J_61 w_4 → ∀ (H : Heap) (locs : List Loc), va_P (dC, dI) vwCl (wM m0 m1 m2 m3 m4 m5 m6 m7 m8 m9 cI cZ u) H → va_S A s.heap H locs → ∀ (ls : Array Slot), lv_has ls 5 [(0, .ref m0), (4, .int w_3)] → W p l e (headSpec wsX5_rib ({ frames := 2, cells := 0, slots := 0, locals := 47 } : Room)).room s m ([.ref m0, .int x1, .int x2, .int x3] : List Value).toArray below meth c H locs 0 0 (MQ below (va_Qi post (fun (u2 : St) (t : State) => va_P (dC, dI) vwCl (wM m0 m1 m2 m3 m4 m5 m6 m7 m8 m9 cI cZ u2) t.heap) A) ([.ref m0, .int x1, .int x2, .int x3] : List Value).toArray s 0 0 A) (F0 m 61 ls [.int w_4, .int x1, .ref m2]) := by
        intro w_4 h H locs hP hS ls hl
        have h := hJi_61 _ h
        obtain ⟨hi, h⟩ := h
        refine va_iast hx hb hK hP (hD _) hS 2 0 rfl rfl hi dX5_rib_61 (fun H locs hP _ hS => ?_)
        obtain ⟨u_5, eu_5⟩ : ∃ z : St, z = (u.1, va_up u.2 4 (upd (u.2 4) x1.toNatClampNeg w_4)) := ⟨_, rfl⟩
        have h := h u_5 eu_5
        have hP : va_P (dC, dI) vwCl (wM m0 m1 m2 m3 m4 m5 m6 m7 m8 m9 cI cZ u_5) H := by rw [eu_5]; exact hP
        refine lv_aload_n hx hb dX5_rib_62 rfl (lv_at hl 0 rfl) ?_
        refine lv_iconst (v := 0) hx hb dX5_rib_63 (by decide) ?_
        refine va_put (D := (dC, dI)) (ci := 3) (v := .int (0 : Int32)) (ty := .boolean) (C := RX5) (T := TX5) (N := 17) hx hb hts i_X5 tyX5 tyX5_ok nmX5 hown hK hP (hD _) hS 0 rfl rfl 5 (by decide) f_54 (fun _ h9 => h9) rfl (by decide +kernel) rfl rfl (Nat.le_of_ble_eq_true rfl) dX5_rib_64 (fun H locs hP _ hS => ?_)
        obtain ⟨u_6, eu_6⟩ : ∃ z : St, z = (upd u_5.1 5 (0 : Int32), u_5.2) := ⟨_, rfl⟩
        have h := h u_6 eu_6
        have hP : va_P (dC, dI) vwCl (wM m0 m1 m2 m3 m4 m5 m6 m7 m8 m9 cI cZ u_6) H := by rw [eu_6]; exact hP
        refine lv_iload hx hb dX5_rib_67 (lv_at hl 1 rfl) ?_
        exact W.iret hx hb hr (fun t ht _ => ⟨⟨_, u_6, rfl, h, hPr ht hP⟩, hS.F ht⟩) hS.2.2 dX5_rib_69
      refine lv_if_eq (tgt := 49) hx hb dX5_rib_33 (by decide) (fun c_33 => ?_) (fun c_33 => ?_)
      · have h := br1 h c_33
        refine lv_aload_n hx hb dX5_rib_49 rfl (lv_at hl 1 rfl) ?_
        refine va_get (D := (dC, dI)) (ci := 3) (v := .ref m2) (C := RX5) (T := TX5) (N := 17) hx hb hts i_X5 hown hK hP 0 rfl rfl 4 (by decide) f_23 (fun _ h9 => h9) rfl dX5_rib_50 ?_
        refine lv_iload_n hx hb dX5_rib_53 rfl (lv_at hl 2 rfl) ?_
        obtain ⟨hi, h⟩ := h
        refine va_iald hx hb hK hP 2 0 rfl rfl hi dX5_rib_54 ?_
        refine lv_iconst (v := 1) hx hb dX5_rib_55 (by decide) ?_
        refine lv_iload_n hx hb dX5_rib_56 rfl (lv_at hl 3 rfl) ?_
        refine lv_ishl hx hb dX5_rib_57 ?_
        refine lv_iconst (v := (-1)) hx hb dX5_rib_58 (by decide) ?_
        refine lv_ixor hx hb dX5_rib_59 ?_
        refine lv_iand hx hb dX5_rib_60 ?_
        exact hJ_61 _ h _ _ hP hS _ (lv_sub hl [1, 0] rfl)
      · have h := br2 h c_33
        refine lv_aload_n hx hb dX5_rib_36 rfl (lv_at hl 1 rfl) ?_
        refine va_get (D := (dC, dI)) (ci := 3) (v := .ref m2) (C := RX5) (T := TX5) (N := 17) hx hb hts i_X5 hown hK hP 0 rfl rfl 4 (by decide) f_23 (fun _ h9 => h9) rfl dX5_rib_37 ?_
        refine lv_iload_n hx hb dX5_rib_40 rfl (lv_at hl 2 rfl) ?_
        obtain ⟨hi, h⟩ := h
        refine va_iald hx hb hK hP 2 0 rfl rfl hi dX5_rib_41 ?_
        refine lv_iconst (v := 1) hx hb dX5_rib_42 (by decide) ?_
        refine lv_iload_n hx hb dX5_rib_43 rfl (lv_at hl 3 rfl) ?_
        refine lv_ishl hx hb dX5_rib_44 ?_
        refine lv_ior hx hb dX5_rib_45 ?_
        refine lv_goto (tgt := 61) hx hb dX5_rib_46 (by decide) ?_
        exact hJ_61 _ h _ _ hP hS _ (lv_sub hl [1, 0] rfl)
    refine lv_if_eq (tgt := 24) hx hb dX5_rib_17 (by decide) (fun c_17 => ?_) (fun c_17 => ?_)
    · have h := br1 h c_17
      refine lv_iconst (v := 0) hx hb dX5_rib_24 (by decide) ?_
      exact hJ_25 _ h _ _ hP hS _ (lv_sub hl [0, 1, 2, 3] rfl)
    · have h := br2 h c_17
      refine lv_iconst (v := 1) hx hb dX5_rib_20 (by decide) ?_
      refine lv_goto (tgt := 25) hx hb dX5_rib_21 (by decide) ?_
      exact hJ_25 _ h _ _ hP hS _ (lv_sub hl [0, 1, 2, 3] rfl)
  · have h := br1 h c_6
    refine lv_iconst (v := (-1)) hx hb dX5_rib_9 (by decide) ?_
    exact W.iret hx hb hr (fun t ht _ => ⟨⟨_, u, rfl, h, hPr ht hP⟩, hS.F ht⟩) hS.2.2 dX5_rib_10
set_option maxHeartbeats 4000000 in
set_option maxRecDepth 100000 in
theorem c_X5_ribs (l : Launch) (dC : Nat → ClassId) (dI : Nat → Nat → Nat) (m0 m1 m2 m3 m4 m5 m6 m7 m8 m9 : Nat) (cI cZ : ClassId) (sz : Nat) {u : St} {x1 : Int32} {x2 : Int32} {post : Int32 → St → Prop} (h : P_X5_ribs u x1 x2 post) : Met l yX5_ribs wsX5_ribs ({ frames := 1, cells := 0, slots := 0, locals := 25 } : Room) (MPre (dC, dI) vwCl (wM m0 m1 m2 m3 m4 m5 m6 m7 m8 m9 cI cZ u) [(cI, .int), (cZ, .boolean)] sz [.ref m0, .int x1, .int x2]) (va_Qi post (fun (u2 : St) (t : State) => va_P (dC, dI) vwCl (wM m0 m1 m2 m3 m4 m5 m6 m7 m8 m9 cI cZ u2) t.heap) (va_A (wM m0 m1 m2 m3 m4 m5 m6 m7 m8 m9 cI cZ u) sz)) 0 0 (va_A (wM m0 m1 m2 m3 m4 m5 m6 m7 m8 m9 cI cZ u) sz) := by
  refine Met.ofW (cc := cX5_ribs) (maxL := 4) (ret := (some .int)) (by decide) rfl ?_
  intro p e s m args below meth c s₁ B hml hv
  obtain ⟨rfl, hsz, hP, hK, hD0⟩ := hv
  have hx := B.exec
  have hb := B.bytes
  have hr := B.returns
  have hts := atoms_spec (ws := wsX5_ribs) B.pre
  have hown : s.vm.findClass RX5 = some m.cls := findClass_of_methodNamed B.named
  have hlocks := B.notSynchronized
  subst hsz
  have hD1 := hD0.self (sz := s.heap.size)
  generalize hAe : va_A (wM m0 m1 m2 m3 m4 m5 m6 m7 m8 m9 cI cZ u) s.heap.size = A at hD1 ⊢
  have hA : ∀ q : Nat, s.heap.size ≤ q → A q := fun q h => by rw [← hAe]; exact Or.inr h
  have hD : ∀ z, va_D A (wM m0 m1 m2 m3 m4 m5 m6 m7 m8 m9 cI cZ z) := fun z => va_Dsame hD1 rfl
  have hS : va_S A s.heap s.heap [] := va_S.rf
  have hl := lv_entry ([.ref m0, .int x1, .int x2]) (n := 4) (Nat.le_of_ble_eq_true rfl)
  rw [lg_entry_eq]
  generalize (lg_sl ([.ref m0, .int x1, .int x2]) ++ List.replicate (4 - (lg_sl ([.ref m0, .int x1, .int x2])).length) Slot.unset).toArray = ls at hl ⊢
  have hl : lv_has ls 4 [(0, .ref m0), (1, .int x1), (2, .int x2)] := hl
  have i_X5 : ∀ w ∈ u_ws RX5 TX5 17, w ∈ wsX5_ribs := by decide +kernel
  have f_23 := hts (.fieldLink RX5 23 "SliceBodyModel" "chosen" "[I") (by decide +kernel)
  have f_54 := hts (.fieldLink RX5 54 "SliceBodyModel" "isLaid" "Z") (by decide +kernel)
  unfold P_X5_ribs at h
  refine lv_iload_n hx hb dX5_ribs_0 rfl (lv_at hl 1 rfl) ?_
  refine lv_i2l hx hb dX5_ribs_1 rfl ?_
  refine lv_lconst (v := 0) hx hb dX5_ribs_2 (by decide) ?_
  refine lv_lconst (v := 1) hx hb dX5_ribs_3 (by decide) ?_
  refine vp_callSi (W.runS (As := [.long _, .long _, .long _]) (rest := []) ⟨hx, hb, hml, hown, hts⟩ (c_X5_in l h) (va_cwS 3 hts gX5_ribs_X5_in rfl rfl rfl (by decide +kernel) ⟨Nat.le_of_ble_eq_true rfl, Nat.le_of_ble_eq_true rfl⟩) ⟨fun _ _ _ _ q => q, fun _ _ _ => ⟨rfl, trivial⟩⟩ rfl rfl hl.1 rfl (lv_room (Nat.le_of_ble_eq_true rfl)) dX5_ribs_4 ⟨Nat.zero_le _, Nat.zero_le _⟩) (fun r_1 h => ?_)
  refine lv_if_eq (tgt := 29) hx hb dX5_ribs_7 (by decide) (fun c_7 => ?_) (fun c_7 => ?_)
  · have h := br1 h c_7
    refine lv_bipush (v := (-2)) hx hb dX5_ribs_29 (by decide) ?_
    exact W.iret hx hb hr (fun t ht _ => ⟨⟨_, u, rfl, h, hPr ht hP⟩, hS.F ht⟩) hS.2.2 dX5_ribs_31
  · have h := br2 h c_7
    refine lv_iload_n hx hb dX5_ribs_10 rfl (lv_at hl 2 rfl) ?_
    refine lv_i2l hx hb dX5_ribs_11 rfl ?_
    refine lv_lconst (v := 0) hx hb dX5_ribs_12 (by decide) ?_
    refine lv_iconst (v := 1) hx hb dX5_ribs_13 (by decide) ?_
    refine lv_aload_n hx hb dX5_ribs_14 rfl (lv_at hl 0 rfl) ?_
    refine lv_iload_n hx hb dX5_ribs_15 rfl (lv_at hl 1 rfl) ?_
    refine vp_callSi (W.runV (As := [.int _]) (rest := [.int _, .long _, .long _]) ⟨hx, hb, hml, hown, hts⟩ (c_X5_places l dC dI m0 m1 m2 m3 m4 m5 m6 m7 m8 m9 cI cZ h) (cwV 1 hts gX5_ribs_X5_places rfl rfl rfl (by decide +kernel) ⟨Nat.le_of_ble_eq_true rfl, Nat.le_of_ble_eq_true rfl⟩) ⟨fbR, va_recv hK hP (ci := 3) (q0 := 0) rfl rfl, fun U hU hW => ⟨rfl, by rw [hU]; exact hP, va_K.moved hW.alike hK⟩⟩ rfl rfl hl.1 rfl (lv_room (Nat.le_of_ble_eq_true rfl)) dX5_ribs_16 ⟨Nat.zero_le _, Nat.zero_le _⟩) (fun r_2 h => ?_)
    refine lv_ishl hx hb dX5_ribs_19 ?_
    refine lv_iconst (v := 1) hx hb dX5_ribs_20 (by decide) ?_
    refine lv_isub hx hb dX5_ribs_21 ?_
    refine lv_i2l hx hb dX5_ribs_22 rfl ?_
    refine vp_callSi (W.runS (As := [.long _, .long _, .long _]) (rest := []) ⟨hx, hb, hml, hown, hts⟩ (c_X5_in l h) (va_cwS 3 hts gX5_ribs_X5_in rfl rfl rfl (by decide +kernel) ⟨Nat.le_of_ble_eq_true rfl, Nat.le_of_ble_eq_true rfl⟩) ⟨fun _ _ _ _ q => q, fun _ _ _ => ⟨rfl, trivial⟩⟩ rfl rfl hl.1 rfl (lv_room (Nat.le_of_ble_eq_true rfl)) dX5_ribs_23 ⟨Nat.zero_le _, Nat.zero_le _⟩) (fun r_3 h => ?_)
    refine lv_if_ne (tgt := 32) hx hb dX5_ribs_26 (by decide) (fun c_26 => ?_) (fun c_26 => ?_)
    · have h := br2 h c_26
      refine lv_aload_n hx hb dX5_ribs_32 rfl (lv_at hl 0 rfl) ?_
      refine va_get (D := (dC, dI)) (ci := 3) (v := .ref m2) (C := RX5) (T := TX5) (N := 17) hx hb hts i_X5 hown hK hP 0 rfl rfl 4 (by decide) f_23 (fun _ h9 => h9) rfl dX5_ribs_33 ?_
      refine lv_iload_n hx hb dX5_ribs_36 rfl (lv_at hl 1 rfl) ?_
      obtain ⟨hi, h⟩ := h
      refine va_iald hx hb hK hP 2 0 rfl rfl hi dX5_ribs_37 ?_
      refine lv_topi (fun y_4 ey_4 => ?_)
      have h := h y_4 ey_4
      refine lv_istore_n (lv' := [(3, .int y_4), (0, .ref m0), (1, .int x1), (2, .int x2)]) hx hb dX5_ribs_38 rfl hl (by decide) rfl (fun ls hl => ?_)
      refine lv_aload_n hx hb dX5_ribs_39 rfl (lv_at hl 1 rfl) ?_
      refine va_get (D := (dC, dI)) (ci := 3) (v := .ref m2) (C := RX5) (T := TX5) (N := 17) hx hb hts i_X5 hown hK hP 0 rfl rfl 4 (by decide) f_23 (fun _ h9 => h9) rfl dX5_ribs_40 ?_
      refine lv_iload_n hx hb dX5_ribs_43 rfl (lv_at hl 2 rfl) ?_
      refine lv_iload_n hx hb dX5_ribs_44 rfl (lv_at hl 3 rfl) ?_
      obtain ⟨hi, h⟩ := h
      refine va_iast hx hb hK hP (hD _) hS 2 0 rfl rfl hi dX5_ribs_45 (fun H locs hP _ hS => ?_)
      obtain ⟨u_5, eu_5⟩ : ∃ z : St, z = (u.1, va_up u.2 4 (upd (u.2 4) x1.toNatClampNeg x2)) := ⟨_, rfl⟩
      have h := h u_5 eu_5
      have hP : va_P (dC, dI) vwCl (wM m0 m1 m2 m3 m4 m5 m6 m7 m8 m9 cI cZ u_5) H := by rw [eu_5]; exact hP
      refine lv_aload_n hx hb dX5_ribs_46 rfl (lv_at hl 1 rfl) ?_
      refine lv_iconst (v := 0) hx hb dX5_ribs_47 (by decide) ?_
      refine va_put (D := (dC, dI)) (ci := 3) (v := .int (0 : Int32)) (ty := .boolean) (C := RX5) (T := TX5) (N := 17) hx hb hts i_X5 tyX5 tyX5_ok nmX5 hown hK hP (hD _) hS 0 rfl rfl 5 (by decide) f_54 (fun _ h9 => h9) rfl (by decide +kernel) rfl rfl (Nat.le_of_ble_eq_true rfl) dX5_ribs_48 (fun H locs hP _ hS => ?_)
      obtain ⟨u_6, eu_6⟩ : ∃ z : St, z = (upd u_5.1 5 (0 : Int32), u_5.2) := ⟨_, rfl⟩
      have h := h u_6 eu_6
      have hP : va_P (dC, dI) vwCl (wM m0 m1 m2 m3 m4 m5 m6 m7 m8 m9 cI cZ u_6) H := by rw [eu_6]; exact hP
      refine lv_iload_n hx hb dX5_ribs_51 rfl (lv_at hl 0 rfl) ?_
      exact W.iret hx hb hr (fun t ht _ => ⟨⟨_, u_6, rfl, h, hPr ht hP⟩, hS.F ht⟩) hS.2.2 dX5_ribs_52
    · have h := br1 h c_26
      refine lv_bipush (v := (-2)) hx hb dX5_ribs_29 (by decide) ?_
      exact W.iret hx hb hr (fun t ht _ => ⟨⟨_, u, rfl, h, hPr ht hP⟩, hS.F ht⟩) hS.2.2 dX5_ribs_31
set_option maxHeartbeats 4000000 in
set_option maxRecDepth 100000 in
theorem c_X5_hasIn (l : Launch) (dC : Nat → ClassId) (dI : Nat → Nat → Nat) (m0 m1 m2 m3 m4 m5 m6 m7 m8 m9 : Nat) (cI cZ : ClassId) {u : St} {x1 : Int32} {x2 : Int32} {x3 : Int32} {x4 : Int32} {post : Int32 → Prop} (h : P_X5_hasIn u x1 x2 x3 x4 post) : Met l yX5_hasIn wsX5_hasIn ({ frames := 1, cells := 0, slots := 0, locals := 23 } : Room) (RPre (dC, dI) vwCl (wM m0 m1 m2 m3 m4 m5 m6 m7 m8 m9 cI cZ u) [(cI, .int), (cZ, .boolean)] [.ref m0, .int x1, .int x2, .int x3, .int x4]) (vp_Si post) 0 0 (fun _ => False) := by
  refine Met.ofW (cc := cX5_hasIn) (maxL := 5) (ret := (some .boolean)) (by decide) rfl ?_
  intro p e s m args below meth c s₁ B hml hv
  obtain ⟨rfl, hP, hK⟩ := hv
  have hx := B.exec
  have hb := B.bytes
  have hr := B.returns
  have hts := atoms_spec (ws := wsX5_hasIn) B.pre
  have hown : s.vm.findClass RX5 = some m.cls := findClass_of_methodNamed B.named
  have hlocks := B.notSynchronized
  have hl := lv_entry ([.ref m0, .int x1, .int x2, .int x3, .int x4]) (n := 5) (Nat.le_of_ble_eq_true rfl)
  rw [lg_entry_eq]
  generalize (lg_sl ([.ref m0, .int x1, .int x2, .int x3, .int x4]) ++ List.replicate (5 - (lg_sl ([.ref m0, .int x1, .int x2, .int x3, .int x4])).length) Slot.unset).toArray = ls at hl ⊢
  have hl : lv_has ls 5 [(0, .ref m0), (1, .int x1), (2, .int x2), (3, .int x3), (4, .int x4)] := hl
  unfold P_X5_hasIn at h
  refine lv_iload_n hx hb dX5_hasIn_0 rfl (lv_at hl 1 rfl) ?_
  refine lv_if_ne (tgt := 15) hx hb dX5_hasIn_1 (by decide) (fun c_1 => ?_) (fun c_1 => ?_)
  · have h := br2 h c_1
    refine lv_aload_n hx hb dX5_hasIn_15 rfl (lv_at hl 0 rfl) ?_
    refine lv_iload_n hx hb dX5_hasIn_16 rfl (lv_at hl 3 rfl) ?_
    refine lv_iload_n hx hb dX5_hasIn_17 rfl (lv_at hl 2 rfl) ?_
    refine lv_iload hx hb dX5_hasIn_18 (lv_at hl 4 rfl) ?_
    refine vp_callSi (W.runV (As := [.int _, .int _, .int _]) (rest := []) ⟨hx, hb, hml, hown, hts⟩ (c_X5_has l dC dI m0 m1 m2 m3 m4 m5 m6 m7 m8 m9 cI cZ h) (cwV 3 hts gX5_hasIn_X5_has rfl rfl rfl (by decide +kernel) ⟨Nat.le_of_ble_eq_true rfl, Nat.le_of_ble_eq_true rfl⟩) ⟨fbR, va_recv hK hP (ci := 3) (q0 := 0) rfl rfl, fun U hU hW => ⟨rfl, by rw [hU]; exact hP, va_K.moved hW.alike hK⟩⟩ rfl rfl hl.1 rfl (lv_room (Nat.le_of_ble_eq_true rfl)) dX5_hasIn_20 ⟨Nat.zero_le _, Nat.zero_le _⟩) (fun r_1 h => ?_)
    obtain ⟨hn, h⟩ := h
    exact W.zret (ty := .boolean) hx hb hr hn (fun t ht _ => ⟨_, rfl, h, ht⟩) (fun q hq => by cases hq) dX5_hasIn_23
  · have h := br1 h c_1
    refine lv_aload_n hx hb dX5_hasIn_4 rfl (lv_at hl 0 rfl) ?_
    refine lv_iload_n hx hb dX5_hasIn_5 rfl (lv_at hl 2 rfl) ?_
    refine lv_iload_n hx hb dX5_hasIn_6 rfl (lv_at hl 3 rfl) ?_
    refine lv_iload hx hb dX5_hasIn_7 (lv_at hl 4 rfl) ?_
    refine vp_callSi (W.runV (As := [.int _, .int _, .int _]) (rest := []) ⟨hx, hb, hml, hown, hts⟩ (c_X5_has l dC dI m0 m1 m2 m3 m4 m5 m6 m7 m8 m9 cI cZ h) (cwV 3 hts gX5_hasIn_X5_has rfl rfl rfl (by decide +kernel) ⟨Nat.le_of_ble_eq_true rfl, Nat.le_of_ble_eq_true rfl⟩) ⟨fbR, va_recv hK hP (ci := 3) (q0 := 0) rfl rfl, fun U hU hW => ⟨rfl, by rw [hU]; exact hP, va_K.moved hW.alike hK⟩⟩ rfl rfl hl.1 rfl (lv_room (Nat.le_of_ble_eq_true rfl)) dX5_hasIn_9 ⟨Nat.zero_le _, Nat.zero_le _⟩) (fun r_2 h => ?_)
    refine lv_goto (tgt := 23) hx hb dX5_hasIn_12 (by decide) ?_
    obtain ⟨hn, h⟩ := h
    exact W.zret (ty := .boolean) hx hb hr hn (fun t ht _ => ⟨_, rfl, h, ht⟩) (fun q hq => by cases hq) dX5_hasIn_23
set_option maxHeartbeats 4000000 in
set_option maxRecDepth 100000 in
theorem c_X5_findRuns (l : Launch) (dC : Nat → ClassId) (dI : Nat → Nat → Nat) (m0 m1 m2 m3 m4 m5 m6 m7 m8 m9 : Nat) (cI cZ : ClassId) (sz : Nat) {u : St} {x1 : Int32} {x2 : Int32} {post : Int32 → St → Prop} (h : P_X5_findRuns u x1 x2 post) : Met l yX5_findRuns wsX5_findRuns ({ frames := 1, cells := 0, slots := 0, locals := 23 } : Room) (MPre (dC, dI) vwCl (wM m0 m1 m2 m3 m4 m5 m6 m7 m8 m9 cI cZ u) [(cI, .int), (cZ, .boolean)] sz [.ref m0, .int x1, .int x2]) (va_Qi post (fun (u2 : St) (t : State) => va_P (dC, dI) vwCl (wM m0 m1 m2 m3 m4 m5 m6 m7 m8 m9 cI cZ u2) t.heap) (va_A (wM m0 m1 m2 m3 m4 m5 m6 m7 m8 m9 cI cZ u) sz)) 0 0 (va_A (wM m0 m1 m2 m3 m4 m5 m6 m7 m8 m9 cI cZ u) sz) := by
  refine Met.ofW (cc := cX5_findRuns) (maxL := 5) (ret := (some .int)) (by decide) rfl ?_
  intro p e s m args below meth c s₁ B hml hv
  obtain ⟨rfl, hsz, hP, hK, hD0⟩ := hv
  have hx := B.exec
  have hb := B.bytes
  have hr := B.returns
  have hts := atoms_spec (ws := wsX5_findRuns) B.pre
  have hown : s.vm.findClass RX5 = some m.cls := findClass_of_methodNamed B.named
  have hlocks := B.notSynchronized
  subst hsz
  have hD1 := hD0.self (sz := s.heap.size)
  generalize hAe : va_A (wM m0 m1 m2 m3 m4 m5 m6 m7 m8 m9 cI cZ u) s.heap.size = A at hD1 ⊢
  have hA : ∀ q : Nat, s.heap.size ≤ q → A q := fun q h => by rw [← hAe]; exact Or.inr h
  have hD : ∀ z, va_D A (wM m0 m1 m2 m3 m4 m5 m6 m7 m8 m9 cI cZ z) := fun z => va_Dsame hD1 rfl
  have hS : va_S A s.heap s.heap [] := va_S.rf
  have hl := lv_entry ([.ref m0, .int x1, .int x2]) (n := 5) (Nat.le_of_ble_eq_true rfl)
  rw [lg_entry_eq]
  generalize (lg_sl ([.ref m0, .int x1, .int x2]) ++ List.replicate (5 - (lg_sl ([.ref m0, .int x1, .int x2])).length) Slot.unset).toArray = ls at hl ⊢
  have hl : lv_has ls 5 [(0, .ref m0), (1, .int x1), (2, .int x2)] := hl
  have i_X5 : ∀ w ∈ u_ws RX5 TX5 17, w ∈ wsX5_findRuns := by decide +kernel
  have f_16 := hts (.fieldLink RX5 16 "SliceBodyModel" "wideZ" "I") (by decide +kernel)
  have f_27 := hts (.fieldLink RX5 27 "SliceBodyModel" "begins" "[I") (by decide +kernel)
  have f_30 := hts (.fieldLink RX5 30 "SliceBodyModel" "long0" "[I") (by decide +kernel)
  unfold P_X5_findRuns at h
  refine lv_iconst (v := 0) hx hb dX5_findRuns_0 (by decide) ?_
  refine lv_istore_n (lv' := [(3, .int (0 : Int32)), (0, .ref m0), (1, .int x1), (2, .int x2)]) hx hb dX5_findRuns_1 rfl hl (by decide) rfl (fun ls hl => ?_)
  refine lv_iconst (v := 0) hx hb dX5_findRuns_2 (by decide) ?_
  refine lv_istore (lv' := [(4, .int (0 : Int32)), (3, .int (0 : Int32)), (0, .ref m0), (1, .int x1), (2, .int x2)]) hx hb dX5_findRuns_3 hl (by decide) rfl (fun ls hl => ?_)
  obtain ⟨K_5, hKi_5, h⟩ := jnE2 h
  have hK_5 : ∀ (v3_16 : Int32) (u_17 : St), K_5 v3_16 u_17 → ∀ (H : Heap) (locs : List Loc), va_P (dC, dI) vwCl (wM m0 m1 m2 m3 m4 m5 m6 m7 m8 m9 cI cZ u_17) H → va_S A s.heap H locs → ∀ (ls : Array Slot), lv_has ls 5 [(3, .int v3_16)] → W p l e (headSpec wsX5_findRuns ({ frames := 1, cells := 0, slots := 0, locals := 23 } : Room)).room s m ([.ref m0, .int x1, .int x2] : List Value).toArray below meth c H locs 0 0 (MQ below (va_Qi post (fun (u2 : St) (t : State) => va_P (dC, dI) vwCl (wM m0 m1 m2 m3 m4 m5 m6 m7 m8 m9 cI cZ u2) t.heap) A) ([.ref m0, .int x1, .int x2] : List Value).toArray s 0 0 A) (F0 m 79 ls []) := by
    intro v3_16 u_17 h H locs hP hS ls hl
    have h := hKi_5 _ _ h
    refine lv_iload_n hx hb dX5_findRuns_79 rfl (lv_at hl 0 rfl) ?_
    exact W.iret hx hb hr (fun t ht _ => ⟨⟨_, u_17, rfl, h, hPr ht hP⟩, hS.F ht⟩) hS.2.2 dX5_findRuns_80
  obtain ⟨n, h⟩ := h
  have loop_5 : ∀ (n : Nat) (v3_1 : Int32) (v4_2 : Int32) (u_3 : St), L_X5_findRuns_5 post K_5 x1 x2 n v3_1 v4_2 u_3 → ∀ (H : Heap) (locs : List Loc), va_P (dC, dI) vwCl (wM m0 m1 m2 m3 m4 m5 m6 m7 m8 m9 cI cZ u_3) H → va_S A s.heap H locs → ∀ (ls : Array Slot), lv_has ls 5 [(0, .ref m0), (1, .int x1), (2, .int x2), (3, .int v3_1), (4, .int v4_2)] → W p l e (headSpec wsX5_findRuns ({ frames := 1, cells := 0, slots := 0, locals := 23 } : Room)).room s m ([.ref m0, .int x1, .int x2] : List Value).toArray below meth c H locs 0 0 (MQ below (va_Qi post (fun (u2 : St) (t : State) => va_P (dC, dI) vwCl (wM m0 m1 m2 m3 m4 m5 m6 m7 m8 m9 cI cZ u2) t.heap) A) ([.ref m0, .int x1, .int x2] : List Value).toArray s 0 0 A) (F0 m 5 ls []) := by
    intro n
    induction n with
    | zero => intro v3_1 v4_2 u_3 h; rw [L_X5_findRuns_5] at h; exact h.elim
    | succ n ih_5 =>
      intro v3_1 v4_2 u_3 h H locs hP hS ls hl
      rw [L_X5_findRuns_5] at h
      refine lv_iload hx hb dX5_findRuns_5 (lv_at hl 4 rfl) ?_
      refine lv_aload_n hx hb dX5_findRuns_7 rfl (lv_at hl 0 rfl) ?_
      refine va_get (D := (dC, dI)) (ci := 3) (v := .int (u_3.1 2)) (C := RX5) (T := TX5) (N := 17) hx hb hts i_X5 hown hK hP 0 rfl rfl 2 (by decide) f_16 (fun _ h9 => h9) rfl dX5_findRuns_8 ?_
      refine lv_icmp_ge (tgt := 79) hx hb dX5_findRuns_11 (by decide) (fun c_11 => ?_) (fun c_11 => ?_)
      · have h := br1 h c_11
        exact hK_5 _ _ h _ _ hP hS _ (lv_sub hl [3] rfl)
      · have h := br2 h c_11
        refine lv_aload_n hx hb dX5_findRuns_14 rfl (lv_at hl 0 rfl) ?_
        refine lv_iload_n hx hb dX5_findRuns_15 rfl (lv_at hl 1 rfl) ?_
        refine lv_iload_n hx hb dX5_findRuns_16 rfl (lv_at hl 2 rfl) ?_
        refine lv_iload hx hb dX5_findRuns_17 (lv_at hl 4 rfl) ?_
        refine vp_callSi (W.runV (As := [.int _, .int _, .int _]) (rest := []) ⟨hx, hb, hml, hown, hts⟩ (c_X5_has l dC dI m0 m1 m2 m3 m4 m5 m6 m7 m8 m9 cI cZ h) (cwV 3 hts gX5_findRuns_X5_has rfl rfl rfl (by decide +kernel) ⟨Nat.le_of_ble_eq_true rfl, Nat.le_of_ble_eq_true rfl⟩) ⟨fbR, va_recv hK hP (ci := 3) (q0 := 0) rfl rfl, fun U hU hW => ⟨rfl, by rw [hU]; exact hP, va_K.moved hW.alike hK⟩⟩ rfl rfl hl.1 rfl (lv_room (Nat.le_of_ble_eq_true rfl)) dX5_findRuns_19 ⟨Nat.zero_le _, Nat.zero_le _⟩) (fun r_4 h => ?_)
        obtain ⟨J_73, hJi_73, h⟩ := jnE2 h
        have hJ_73 : ∀ (v3_13 : Int32) (u_14 : St), J_73 v3_13 u_14 → ∀ (H : Heap) (locs : List Loc), va_P (dC, dI) vwCl (wM m0 m1 m2 m3 m4 m5 m6 m7 m8 m9 cI cZ u_14) H → va_S A s.heap H locs → ∀ (ls : Array Slot), lv_has ls 5 [(0, .ref m0), (1, .int x1), (2, .int x2), (3, .int v3_13), (4, .int v4_2)] → W p l e (headSpec wsX5_findRuns ({ frames := 1, cells := 0, slots := 0, locals := 23 } : Room)).room s m ([.ref m0, .int x1, .int x2] : List Value).toArray below meth c H locs 0 0 (MQ below (va_Qi post (fun (u2 : St) (t : State) => va_P (dC, dI) vwCl (wM m0 m1 m2 m3 m4 m5 m6 m7 m8 m9 cI cZ u2) t.heap) A) ([.ref m0, .int x1, .int x2] : List Value).toArray s 0 0 A) (F0 m 73 ls []) := by
          intro v3_13 u_14 h H locs hP hS ls hl
          have h := hJi_73 _ _ h
          obtain ⟨y_15, ey_15⟩ : ∃ z : Int32, z = v4_2 + (1 : Int32) := ⟨_, rfl⟩
          have h := h y_15 ey_15
          refine lv_iinc (v := y_15) (lv' := [(4, .int y_15), (0, .ref m0), (1, .int x1), (2, .int x2), (3, .int v3_13)]) hx hb dX5_findRuns_73 hl (k := 4) rfl (by rw [ey_15]; rfl) (by decide) rfl (fun ls hl => ?_)
          refine lv_goto (tgt := 5) hx hb dX5_findRuns_76 (by decide) ?_
          exact ih_5 _ _ _ h _ _ hP hS _ (lv_sub hl [1, 2, 3, 4, 0] rfl)
        refine lv_if_eq (tgt := 73) hx hb dX5_findRuns_22 (by decide) (fun c_22 => ?_) (fun c_22 => ?_)
        · have h := br1 h c_22
          exact hJ_73 _ _ h _ _ hP hS _ (lv_sub hl [0, 1, 2, 3, 4] rfl)
        · have h := br2 h c_22
          refine lv_iload hx hb dX5_findRuns_25 (lv_at hl 4 rfl) ?_
          obtain ⟨J_61, hJi_61, h⟩ := jnE2 h
          have hJ_61 : ∀ (v3_9 : Int32) (u_10 : St), J_61 v3_9 u_10 → ∀ (H : Heap) (locs : List Loc), va_P (dC, dI) vwCl (wM m0 m1 m2 m3 m4 m5 m6 m7 m8 m9 cI cZ u_10) H → va_S A s.heap H locs → ∀ (ls : Array Slot), lv_has ls 5 [(0, .ref m0), (1, .int x1), (2, .int x2), (3, .int v3_9), (4, .int v4_2)] → W p l e (headSpec wsX5_findRuns ({ frames := 1, cells := 0, slots := 0, locals := 23 } : Room)).room s m ([.ref m0, .int x1, .int x2] : List Value).toArray below meth c H locs 0 0 (MQ below (va_Qi post (fun (u2 : St) (t : State) => va_P (dC, dI) vwCl (wM m0 m1 m2 m3 m4 m5 m6 m7 m8 m9 cI cZ u2) t.heap) A) ([.ref m0, .int x1, .int x2] : List Value).toArray s 0 0 A) (F0 m 61 ls []) := by
            intro v3_9 u_10 h H locs hP hS ls hl
            have h := hJi_61 _ _ h
            refine lv_aload_n hx hb dX5_findRuns_61 rfl (lv_at hl 0 rfl) ?_
            refine va_get (D := (dC, dI)) (ci := 3) (v := .ref m4) (C := RX5) (T := TX5) (N := 17) hx hb hts i_X5 hown hK hP 0 rfl rfl 7 (by decide) f_30 (fun _ h9 => h9) rfl dX5_findRuns_62 ?_
            refine lv_iload_n hx hb dX5_findRuns_65 rfl (lv_at hl 3 rfl) ?_
            refine lv_iconst (v := 1) hx hb dX5_findRuns_66 (by decide) ?_
            refine lv_isub hx hb dX5_findRuns_67 ?_
            refine lv_dup2_11 hx hb dX5_findRuns_68 rfl rfl ?_
            obtain ⟨hi, h⟩ := h
            refine va_iald hx hb hK hP 4 0 rfl rfl hi dX5_findRuns_69 ?_
            refine lv_iconst (v := 1) hx hb dX5_findRuns_70 (by decide) ?_
            refine lv_iadd hx hb dX5_findRuns_71 ?_
            refine lv_topi (fun y_11 ey_11 => ?_)
            have h := h y_11 ey_11
            obtain ⟨hi, h⟩ := h
            refine va_iast hx hb hK hP (hD _) hS 4 0 rfl rfl hi dX5_findRuns_72 (fun H locs hP _ hS => ?_)
            obtain ⟨u_12, eu_12⟩ : ∃ z : St, z = (u_10.1, va_up u_10.2 7 (upd (u_10.2 7) (v3_9 - (1 : Int32)).toNatClampNeg y_11)) := ⟨_, rfl⟩
            have h := h u_12 eu_12
            have hP : va_P (dC, dI) vwCl (wM m0 m1 m2 m3 m4 m5 m6 m7 m8 m9 cI cZ u_12) H := by rw [eu_12]; exact hP
            exact hJ_73 _ _ h _ _ hP hS _ (lv_sub hl [0, 1, 2, 3, 4] rfl)
          obtain ⟨J_43, hJi_43, h⟩ := jnE0 h
          have hJ_43 : J_43 → ∀ (H : Heap) (locs : List Loc), va_P (dC, dI) vwCl (wM m0 m1 m2 m3 m4 m5 m6 m7 m8 m9 cI cZ u_3) H → va_S A s.heap H locs → ∀ (ls : Array Slot), lv_has ls 5 [(0, .ref m0), (1, .int x1), (2, .int x2), (3, .int v3_1), (4, .int v4_2)] → W p l e (headSpec wsX5_findRuns ({ frames := 1, cells := 0, slots := 0, locals := 23 } : Room)).room s m ([.ref m0, .int x1, .int x2] : List Value).toArray below meth c H locs 0 0 (MQ below (va_Qi post (fun (u2 : St) (t : State) => va_P (dC, dI) vwCl (wM m0 m1 m2 m3 m4 m5 m6 m7 m8 m9 cI cZ u2) t.heap) A) ([.ref m0, .int x1, .int x2] : List Value).toArray s 0 0 A) (F0 m 43 ls []) := by
            intro  h H locs hP hS ls hl
            have h := hJi_43 h
            refine lv_aload_n hx hb dX5_findRuns_43 rfl (lv_at hl 0 rfl) ?_
            refine va_get (D := (dC, dI)) (ci := 3) (v := .ref m3) (C := RX5) (T := TX5) (N := 17) hx hb hts i_X5 hown hK hP 0 rfl rfl 6 (by decide) f_27 (fun _ h9 => h9) rfl dX5_findRuns_44 ?_
            refine lv_iload_n hx hb dX5_findRuns_47 rfl (lv_at hl 3 rfl) ?_
            refine lv_iload hx hb dX5_findRuns_48 (lv_at hl 4 rfl) ?_
            obtain ⟨hi, h⟩ := h
            refine va_iast hx hb hK hP (hD _) hS 3 0 rfl rfl hi dX5_findRuns_50 (fun H locs hP _ hS => ?_)
            obtain ⟨u_6, eu_6⟩ : ∃ z : St, z = (u_3.1, va_up u_3.2 6 (upd (u_3.2 6) v3_1.toNatClampNeg v4_2)) := ⟨_, rfl⟩
            have h := h u_6 eu_6
            have hP : va_P (dC, dI) vwCl (wM m0 m1 m2 m3 m4 m5 m6 m7 m8 m9 cI cZ u_6) H := by rw [eu_6]; exact hP
            refine lv_aload_n hx hb dX5_findRuns_51 rfl (lv_at hl 0 rfl) ?_
            refine va_get (D := (dC, dI)) (ci := 3) (v := .ref m4) (C := RX5) (T := TX5) (N := 17) hx hb hts i_X5 hown hK hP 0 rfl rfl 7 (by decide) f_30 (fun _ h9 => h9) rfl dX5_findRuns_52 ?_
            refine lv_iload_n hx hb dX5_findRuns_55 rfl (lv_at hl 3 rfl) ?_
            refine lv_iconst (v := 0) hx hb dX5_findRuns_56 (by decide) ?_
            obtain ⟨hi, h⟩ := h
            refine va_iast hx hb hK hP (hD _) hS 4 0 rfl rfl hi dX5_findRuns_57 (fun H locs hP _ hS => ?_)
            obtain ⟨u_7, eu_7⟩ : ∃ z : St, z = (u_6.1, va_up u_6.2 7 (upd (u_6.2 7) v3_1.toNatClampNeg (0 : Int32))) := ⟨_, rfl⟩
            have h := h u_7 eu_7
            have hP : va_P (dC, dI) vwCl (wM m0 m1 m2 m3 m4 m5 m6 m7 m8 m9 cI cZ u_7) H := by rw [eu_7]; exact hP
            obtain ⟨y_8, ey_8⟩ : ∃ z : Int32, z = v3_1 + (1 : Int32) := ⟨_, rfl⟩
            have h := h y_8 ey_8
            refine lv_iinc (v := y_8) (lv' := [(3, .int y_8), (0, .ref m0), (1, .int x1), (2, .int x2), (4, .int v4_2)]) hx hb dX5_findRuns_58 hl (k := 3) rfl (by rw [ey_8]; rfl) (by decide) rfl (fun ls hl => ?_)
            exact hJ_61 _ _ h _ _ hP hS _ (lv_sub hl [1, 2, 3, 0, 4] rfl)
          refine lv_if_eq (tgt := 43) hx hb dX5_findRuns_27 (by decide) (fun c_27 => ?_) (fun c_27 => ?_)
          · have h := br1 h c_27
            exact hJ_43 h _ _ hP hS _ (lv_sub hl [0, 1, 2, 3, 4] rfl)
          · have h := br2 h c_27
            refine lv_aload_n hx hb dX5_findRuns_30 rfl (lv_at hl 0 rfl) ?_
            refine lv_iload_n hx hb dX5_findRuns_31 rfl (lv_at hl 1 rfl) ?_
            refine lv_iload_n hx hb dX5_findRuns_32 rfl (lv_at hl 2 rfl) ?_
            refine lv_iload hx hb dX5_findRuns_33 (lv_at hl 4 rfl) ?_
            refine lv_iconst (v := 1) hx hb dX5_findRuns_35 (by decide) ?_
            refine lv_isub hx hb dX5_findRuns_36 ?_
            refine vp_callSi (W.runV (As := [.int _, .int _, .int _]) (rest := []) ⟨hx, hb, hml, hown, hts⟩ (c_X5_has l dC dI m0 m1 m2 m3 m4 m5 m6 m7 m8 m9 cI cZ h) (cwV 3 hts gX5_findRuns_X5_has rfl rfl rfl (by decide +kernel) ⟨Nat.le_of_ble_eq_true rfl, Nat.le_of_ble_eq_true rfl⟩) ⟨fbR, va_recv hK hP (ci := 3) (q0 := 0) rfl rfl, fun U hU hW => ⟨rfl, by rw [hU]; exact hP, va_K.moved hW.alike hK⟩⟩ rfl rfl hl.1 rfl (lv_room (Nat.le_of_ble_eq_true rfl)) dX5_findRuns_37 ⟨Nat.zero_le _, Nat.zero_le _⟩) (fun r_5 h => ?_)
            refine lv_if_ne (tgt := 61) hx hb dX5_findRuns_40 (by decide) (fun c_40 => ?_) (fun c_40 => ?_)
            · have h := br2 h c_40
              exact hJ_61 _ _ h _ _ hP hS _ (lv_sub hl [0, 1, 2, 3, 4] rfl)
            · have h := br1 h c_40
              exact hJ_43 h _ _ hP hS _ (lv_sub hl [0, 1, 2, 3, 4] rfl)
  exact loop_5 n _ _ _ h _ _ hP hS _ (lv_sub hl [2, 3, 4, 1, 0] rfl)
set_option maxHeartbeats 4000000 in
set_option maxRecDepth 100000 in
theorem c_X5_loses (l : Launch) (dC : Nat → ClassId) (dI : Nat → Nat → Nat) (m0 m1 m2 m3 m4 m5 m6 m7 m8 m9 : Nat) (cI cZ : ClassId) (sz : Nat) {u : St} {x1 : Int32} {x2 : Int32} {x3 : Int32} {x4 : Int32} {post : Int32 → St → Prop} (h : P_X5_loses u x1 x2 x3 x4 post) : Met l yX5_loses wsX5_loses ({ frames := 2, cells := 0, slots := 0, locals := 47 } : Room) (MPre (dC, dI) vwCl (wM m0 m1 m2 m3 m4 m5 m6 m7 m8 m9 cI cZ u) [(cI, .int), (cZ, .boolean)] sz [.ref m0, .int x1, .int x2, .int x3, .int x4]) (va_Qi post (fun (u2 : St) (t : State) => va_P (dC, dI) vwCl (wM m0 m1 m2 m3 m4 m5 m6 m7 m8 m9 cI cZ u2) t.heap) (va_A (wM m0 m1 m2 m3 m4 m5 m6 m7 m8 m9 cI cZ u) sz)) 0 0 (va_A (wM m0 m1 m2 m3 m4 m5 m6 m7 m8 m9 cI cZ u) sz) := by
  refine Met.ofW (cc := cX5_loses) (maxL := 8) (ret := (some .boolean)) (by decide) rfl ?_
  intro p e s m args below meth c s₁ B hml hv
  obtain ⟨rfl, hsz, hP, hK, hD0⟩ := hv
  have hx := B.exec
  have hb := B.bytes
  have hr := B.returns
  have hts := atoms_spec (ws := wsX5_loses) B.pre
  have hown : s.vm.findClass RX5 = some m.cls := findClass_of_methodNamed B.named
  have hlocks := B.notSynchronized
  subst hsz
  have hD1 := hD0.self (sz := s.heap.size)
  generalize hAe : va_A (wM m0 m1 m2 m3 m4 m5 m6 m7 m8 m9 cI cZ u) s.heap.size = A at hD1 ⊢
  have hA : ∀ q : Nat, s.heap.size ≤ q → A q := fun q h => by rw [← hAe]; exact Or.inr h
  have hD : ∀ z, va_D A (wM m0 m1 m2 m3 m4 m5 m6 m7 m8 m9 cI cZ z) := fun z => va_Dsame hD1 rfl
  have hS : va_S A s.heap s.heap [] := va_S.rf
  have hl := lv_entry ([.ref m0, .int x1, .int x2, .int x3, .int x4]) (n := 8) (Nat.le_of_ble_eq_true rfl)
  rw [lg_entry_eq]
  generalize (lg_sl ([.ref m0, .int x1, .int x2, .int x3, .int x4]) ++ List.replicate (8 - (lg_sl ([.ref m0, .int x1, .int x2, .int x3, .int x4])).length) Slot.unset).toArray = ls at hl ⊢
  have hl : lv_has ls 8 [(0, .ref m0), (1, .int x1), (2, .int x2), (3, .int x3), (4, .int x4)] := hl
  have i_X5 : ∀ w ∈ u_ws RX5 TX5 17, w ∈ wsX5_loses := by decide +kernel
  have f_27 := hts (.fieldLink RX5 27 "SliceBodyModel" "begins" "[I") (by decide +kernel)
  have f_30 := hts (.fieldLink RX5 30 "SliceBodyModel" "long0" "[I") (by decide +kernel)
  unfold P_X5_loses at h
  refine lv_aload_n hx hb dX5_loses_0 rfl (lv_at hl 0 rfl) ?_
  refine lv_iload_n hx hb dX5_loses_1 rfl (lv_at hl 1 rfl) ?_
  refine lv_iload_n hx hb dX5_loses_2 rfl (lv_at hl 2 rfl) ?_
  refine vp_callSi (W.runV (As := [.int _, .int _]) (rest := []) ⟨hx, hb, hml, hown, hts⟩ (c_X5_isChosen l dC dI m0 m1 m2 m3 m4 m5 m6 m7 m8 m9 cI cZ h) (cwV 2 hts gX5_loses_X5_isChosen rfl rfl rfl (by decide +kernel) ⟨Nat.le_of_ble_eq_true rfl, Nat.le_of_ble_eq_true rfl⟩) ⟨fbR, va_recv hK hP (ci := 3) (q0 := 0) rfl rfl, fun U hU hW => ⟨rfl, by rw [hU]; exact hP, va_K.moved hW.alike hK⟩⟩ rfl rfl hl.1 rfl (lv_room (Nat.le_of_ble_eq_true rfl)) dX5_loses_3 ⟨Nat.zero_le _, Nat.zero_le _⟩) (fun r_1 h => ?_)
  refine lv_if_eq (tgt := 20) hx hb dX5_loses_6 (by decide) (fun c_6 => ?_) (fun c_6 => ?_)
  · have h := br1 h c_6
    refine lv_iconst (v := 0) hx hb dX5_loses_20 (by decide) ?_
    exact W.zret (ty := .boolean) hx hb hr rfl (fun t ht _ => ⟨⟨_, u, rfl, h, hPr ht hP⟩, hS.F ht⟩) hS.2.2 dX5_loses_21
  · have h := br2 h c_6
    refine lv_aload_n hx hb dX5_loses_9 rfl (lv_at hl 0 rfl) ?_
    refine lv_iconst (v := 1) hx hb dX5_loses_10 (by decide) ?_
    refine lv_iload_n hx hb dX5_loses_11 rfl (lv_at hl 1 rfl) ?_
    refine lv_isub hx hb dX5_loses_12 ?_
    refine lv_iload_n hx hb dX5_loses_13 rfl (lv_at hl 3 rfl) ?_
    refine vp_callSi (W.runV (As := [.int _, .int _]) (rest := []) ⟨hx, hb, hml, hown, hts⟩ (c_X5_isChosen l dC dI m0 m1 m2 m3 m4 m5 m6 m7 m8 m9 cI cZ h) (cwV 2 hts gX5_loses_X5_isChosen rfl rfl rfl (by decide +kernel) ⟨Nat.le_of_ble_eq_true rfl, Nat.le_of_ble_eq_true rfl⟩) ⟨fbR, va_recv hK hP (ci := 3) (q0 := 0) rfl rfl, fun U hU hW => ⟨rfl, by rw [hU]; exact hP, va_K.moved hW.alike hK⟩⟩ rfl rfl hl.1 rfl (lv_room (Nat.le_of_ble_eq_true rfl)) dX5_loses_14 ⟨Nat.zero_le _, Nat.zero_le _⟩) (fun r_2 h => ?_)
    refine lv_if_ne (tgt := 22) hx hb dX5_loses_17 (by decide) (fun c_17 => ?_) (fun c_17 => ?_)
    · have h := br2 h c_17
      refine lv_iload_n hx hb dX5_loses_22 rfl (lv_at hl 1 rfl) ?_
      obtain ⟨J_41, hJi_41, h⟩ := jnE2 h
      have hJ_41 : ∀ (w_7 : Int32) (u_8 : St), J_41 w_7 u_8 → ∀ (H : Heap) (locs : List Loc), va_P (dC, dI) vwCl (wM m0 m1 m2 m3 m4 m5 m6 m7 m8 m9 cI cZ u_8) H → va_S A s.heap H locs → ∀ (ls : Array Slot), lv_has ls 8 [(0, .ref m0), (1, .int x1), (4, .int x4)] → W p l e (headSpec wsX5_loses ({ frames := 2, cells := 0, slots := 0, locals := 47 } : Room)).room s m ([.ref m0, .int x1, .int x2, .int x3, .int x4] : List Value).toArray below meth c H locs 0 0 (MQ below (va_Qi post (fun (u2 : St) (t : State) => va_P (dC, dI) vwCl (wM m0 m1 m2 m3 m4 m5 m6 m7 m8 m9 cI cZ u2) t.heap) A) ([.ref m0, .int x1, .int x2, .int x3, .int x4] : List Value).toArray s 0 0 A) (F0 m 41 ls [.int w_7]) := by
        intro w_7 u_8 h H locs hP hS ls hl
        have h := hJi_41 _ _ h
        refine lv_istore (lv' := [(5, .int w_7), (0, .ref m0), (1, .int x1), (4, .int x4)]) hx hb dX5_loses_41 hl (by decide) rfl (fun ls hl => ?_)
        refine lv_iconst (v := 0) hx hb dX5_loses_43 (by decide) ?_
        refine lv_istore (lv' := [(6, .int (0 : Int32)), (5, .int w_7), (0, .ref m0), (1, .int x1), (4, .int x4)]) hx hb dX5_loses_44 hl (by decide) rfl (fun ls hl => ?_)
        obtain ⟨K_46, hKi_46, h⟩ := jnE0 h
        have hK_46 : K_46 → ∀ (H : Heap) (locs : List Loc), va_P (dC, dI) vwCl (wM m0 m1 m2 m3 m4 m5 m6 m7 m8 m9 cI cZ u_8) H → va_S A s.heap H locs → ∀ (ls : Array Slot), lv_has ls 8 [] → W p l e (headSpec wsX5_loses ({ frames := 2, cells := 0, slots := 0, locals := 47 } : Room)).room s m ([.ref m0, .int x1, .int x2, .int x3, .int x4] : List Value).toArray below meth c H locs 0 0 (MQ below (va_Qi post (fun (u2 : St) (t : State) => va_P (dC, dI) vwCl (wM m0 m1 m2 m3 m4 m5 m6 m7 m8 m9 cI cZ u2) t.heap) A) ([.ref m0, .int x1, .int x2, .int x3, .int x4] : List Value).toArray s 0 0 A) (F0 m 151 ls []) := by
          intro  h H locs hP hS ls hl
          have h := hKi_46 h
          refine lv_iconst (v := 0) hx hb dX5_loses_151 (by decide) ?_
          exact W.zret (ty := .boolean) hx hb hr rfl (fun t ht _ => ⟨⟨_, u_8, rfl, h, hPr ht hP⟩, hS.F ht⟩) hS.2.2 dX5_loses_152
        obtain ⟨n, h⟩ := h
        have loop_46 : ∀ (n : Nat) (v6_9 : Int32), L_X5_loses_46 post K_46 x1 x4 w_7 u_8 n v6_9 → ∀ (H : Heap) (locs : List Loc), va_P (dC, dI) vwCl (wM m0 m1 m2 m3 m4 m5 m6 m7 m8 m9 cI cZ u_8) H → va_S A s.heap H locs → ∀ (ls : Array Slot), lv_has ls 8 [(0, .ref m0), (1, .int x1), (4, .int x4), (5, .int w_7), (6, .int v6_9)] → W p l e (headSpec wsX5_loses ({ frames := 2, cells := 0, slots := 0, locals := 47 } : Room)).room s m ([.ref m0, .int x1, .int x2, .int x3, .int x4] : List Value).toArray below meth c H locs 0 0 (MQ below (va_Qi post (fun (u2 : St) (t : State) => va_P (dC, dI) vwCl (wM m0 m1 m2 m3 m4 m5 m6 m7 m8 m9 cI cZ u2) t.heap) A) ([.ref m0, .int x1, .int x2, .int x3, .int x4] : List Value).toArray s 0 0 A) (F0 m 46 ls []) := by
          intro n
          induction n with
          | zero => intro v6_9 h; rw [L_X5_loses_46] at h; exact h.elim
          | succ n ih_46 =>
            intro v6_9 h H locs hP hS ls hl
            rw [L_X5_loses_46] at h
            refine lv_iload hx hb dX5_loses_46 (lv_at hl 4 rfl) ?_
            refine lv_iload hx hb dX5_loses_48 (lv_at hl 3 rfl) ?_
            refine lv_icmp_ge (tgt := 151) hx hb dX5_loses_50 (by decide) (fun c_50 => ?_) (fun c_50 => ?_)
            · have h := br1 h c_50
              exact hK_46 h _ _ hP hS _ (lv_sub hl [] rfl)
            · have h := br2 h c_50
              refine lv_iload hx hb dX5_loses_53 (lv_at hl 2 rfl) ?_
              refine lv_i2l hx hb dX5_loses_55 rfl ?_
              refine lv_aload_n hx hb dX5_loses_56 rfl (lv_at hl 0 rfl) ?_
              refine va_get (D := (dC, dI)) (ci := 3) (v := .ref m3) (C := RX5) (T := TX5) (N := 17) hx hb hts i_X5 hown hK hP 0 rfl rfl 6 (by decide) f_27 (fun _ h9 => h9) rfl dX5_loses_57 ?_
              refine lv_iload hx hb dX5_loses_60 (lv_at hl 4 rfl) ?_
              obtain ⟨hi, h⟩ := h
              refine va_iald hx hb hK hP 3 0 rfl rfl hi dX5_loses_62 ?_
              refine lv_i2l hx hb dX5_loses_63 rfl ?_
              refine lv_aload_n hx hb dX5_loses_64 rfl (lv_at hl 0 rfl) ?_
              refine va_get (D := (dC, dI)) (ci := 3) (v := .ref m3) (C := RX5) (T := TX5) (N := 17) hx hb hts i_X5 hown hK hP 0 rfl rfl 6 (by decide) f_27 (fun _ h9 => h9) rfl dX5_loses_65 ?_
              refine lv_iload hx hb dX5_loses_68 (lv_at hl 4 rfl) ?_
              obtain ⟨hi, h⟩ := h
              refine va_iald hx hb hK hP 3 0 rfl rfl hi dX5_loses_70 ?_
              refine lv_aload_n hx hb dX5_loses_71 rfl (lv_at hl 0 rfl) ?_
              refine va_get (D := (dC, dI)) (ci := 3) (v := .ref m4) (C := RX5) (T := TX5) (N := 17) hx hb hts i_X5 hown hK hP 0 rfl rfl 7 (by decide) f_30 (fun _ h9 => h9) rfl dX5_loses_72 ?_
              refine lv_iload hx hb dX5_loses_75 (lv_at hl 4 rfl) ?_
              obtain ⟨hi, h⟩ := h
              refine va_iald hx hb hK hP 4 0 rfl rfl hi dX5_loses_77 ?_
              refine lv_iadd hx hb dX5_loses_78 ?_
              refine lv_iconst (v := 1) hx hb dX5_loses_79 (by decide) ?_
              refine lv_isub hx hb dX5_loses_80 ?_
              refine lv_i2l hx hb dX5_loses_81 rfl ?_
              refine vp_callSi (W.runS (As := [.long _, .long _, .long _]) (rest := []) ⟨hx, hb, hml, hown, hts⟩ (c_X5_in l h) (va_cwS 3 hts gX5_loses_X5_in rfl rfl rfl (by decide +kernel) ⟨Nat.le_of_ble_eq_true rfl, Nat.le_of_ble_eq_true rfl⟩) ⟨fun _ _ _ _ q => q, fun _ _ _ => ⟨rfl, trivial⟩⟩ rfl rfl hl.1 rfl (lv_room (Nat.le_of_ble_eq_true rfl)) dX5_loses_82 ⟨Nat.zero_le _, Nat.zero_le _⟩) (fun r_10 h => ?_)
              refine lv_if_eq (tgt := 145) hx hb dX5_loses_85 (by decide) (fun c_85 => ?_) (fun c_85 => ?_)
              · have h := br1 h c_85
                obtain ⟨y_11, ey_11⟩ : ∃ z : Int32, z = v6_9 + (1 : Int32) := ⟨_, rfl⟩
                have h := h y_11 ey_11
                refine lv_iinc (v := y_11) (lv' := [(6, .int y_11), (0, .ref m0), (1, .int x1), (4, .int x4), (5, .int w_7)]) hx hb dX5_loses_145 hl (k := 4) rfl (by rw [ey_11]; rfl) (by decide) rfl (fun ls hl => ?_)
                refine lv_goto (tgt := 46) hx hb dX5_loses_148 (by decide) ?_
                exact ih_46 _ h _ _ hP hS _ (lv_sub hl [1, 2, 3, 4, 0] rfl)
              · have h := br2 h c_85
                refine lv_iload hx hb dX5_loses_88 (lv_at hl 2 rfl) ?_
                refine lv_aload_n hx hb dX5_loses_90 rfl (lv_at hl 0 rfl) ?_
                refine va_get (D := (dC, dI)) (ci := 3) (v := .ref m3) (C := RX5) (T := TX5) (N := 17) hx hb hts i_X5 hown hK hP 0 rfl rfl 6 (by decide) f_27 (fun _ h9 => h9) rfl dX5_loses_91 ?_
                refine lv_iload hx hb dX5_loses_94 (lv_at hl 4 rfl) ?_
                obtain ⟨hi, h⟩ := h
                refine va_iald hx hb hK hP 3 0 rfl rfl hi dX5_loses_96 ?_
                refine lv_aload_n hx hb dX5_loses_97 rfl (lv_at hl 0 rfl) ?_
                refine va_get (D := (dC, dI)) (ci := 3) (v := .ref m4) (C := RX5) (T := TX5) (N := 17) hx hb hts i_X5 hown hK hP 0 rfl rfl 7 (by decide) f_30 (fun _ h9 => h9) rfl dX5_loses_98 ?_
                refine lv_iload hx hb dX5_loses_101 (lv_at hl 4 rfl) ?_
                obtain ⟨hi, h⟩ := h
                refine va_iald hx hb hK hP 4 0 rfl rfl hi dX5_loses_103 ?_
                refine lv_iadd hx hb dX5_loses_104 ?_
                refine lv_aload_n hx hb dX5_loses_105 rfl (lv_at hl 0 rfl) ?_
                refine va_get (D := (dC, dI)) (ci := 3) (v := .ref m4) (C := RX5) (T := TX5) (N := 17) hx hb hts i_X5 hown hK hP 0 rfl rfl 7 (by decide) f_30 (fun _ h9 => h9) rfl dX5_loses_106 ?_
                refine lv_iload hx hb dX5_loses_109 (lv_at hl 4 rfl) ?_
                obtain ⟨hi, h⟩ := h
                refine va_iald hx hb hK hP 4 0 rfl rfl hi dX5_loses_111 ?_
                refine lv_iconst (v := 2) hx hb dX5_loses_112 (by decide) ?_
                refine lv_idiv hx hb dX5_loses_113 (by decide) ?_
                refine lv_isub hx hb dX5_loses_114 ?_
                obtain ⟨J_123, hJi_123, h⟩ := jnE1 h
                have hJ_123 : ∀ (w_12 : Int32), J_123 w_12 → ∀ (H : Heap) (locs : List Loc), va_P (dC, dI) vwCl (wM m0 m1 m2 m3 m4 m5 m6 m7 m8 m9 cI cZ u_8) H → va_S A s.heap H locs → ∀ (ls : Array Slot), lv_has ls 8 [(1, .int x1)] → W p l e (headSpec wsX5_loses ({ frames := 2, cells := 0, slots := 0, locals := 47 } : Room)).room s m ([.ref m0, .int x1, .int x2, .int x3, .int x4] : List Value).toArray below meth c H locs 0 0 (MQ below (va_Qi post (fun (u2 : St) (t : State) => va_P (dC, dI) vwCl (wM m0 m1 m2 m3 m4 m5 m6 m7 m8 m9 cI cZ u2) t.heap) A) ([.ref m0, .int x1, .int x2, .int x3, .int x4] : List Value).toArray s 0 0 A) (F0 m 123 ls [.int w_12]) := by
                  intro w_12 h H locs hP hS ls hl
                  have h := hJi_123 _ h
                  refine lv_istore (lv' := [(7, .int w_12), (1, .int x1)]) hx hb dX5_loses_123 hl (by decide) rfl (fun ls hl => ?_)
                  refine lv_iload_n hx hb dX5_loses_125 rfl (lv_at hl 1 rfl) ?_
                  refine lv_if_ne (tgt := 134) hx hb dX5_loses_126 (by decide) (fun c_126 => ?_) (fun c_126 => ?_)
                  · have h := br2 h c_126
                    refine lv_iload hx hb dX5_loses_134 (lv_at hl 0 rfl) ?_
                    refine lv_if_ne (tgt := 143) hx hb dX5_loses_136 (by decide) (fun c_136 => ?_) (fun c_136 => ?_)
                    · have h := br2 h c_136
                      refine lv_iconst (v := 0) hx hb dX5_loses_143 (by decide) ?_
                      exact W.zret (ty := .boolean) hx hb hr rfl (fun t ht _ => ⟨⟨_, u_8, rfl, h, hPr ht hP⟩, hS.F ht⟩) hS.2.2 dX5_loses_144
                    · have h := br1 h c_136
                      refine lv_iconst (v := 1) hx hb dX5_loses_139 (by decide) ?_
                      refine lv_goto (tgt := 144) hx hb dX5_loses_140 (by decide) ?_
                      exact W.zret (ty := .boolean) hx hb hr rfl (fun t ht _ => ⟨⟨_, u_8, rfl, h, hPr ht hP⟩, hS.F ht⟩) hS.2.2 dX5_loses_144
                  · have h := br1 h c_126
                    refine lv_iload hx hb dX5_loses_129 (lv_at hl 0 rfl) ?_
                    refine lv_goto (tgt := 144) hx hb dX5_loses_131 (by decide) ?_
                    obtain ⟨hn, h⟩ := h
                    exact W.zret (ty := .boolean) hx hb hr hn (fun t ht _ => ⟨⟨_, u_8, rfl, h, hPr ht hP⟩, hS.F ht⟩) hS.2.2 dX5_loses_144
                refine lv_icmp_lt (tgt := 122) hx hb dX5_loses_115 (by decide) (fun c_115 => ?_) (fun c_115 => ?_)
                · have h := br1 h c_115
                  refine lv_iconst (v := 0) hx hb dX5_loses_122 (by decide) ?_
                  exact hJ_123 _ h _ _ hP hS _ (lv_sub hl [1] rfl)
                · have h := br2 h c_115
                  refine lv_iconst (v := 1) hx hb dX5_loses_118 (by decide) ?_
                  refine lv_goto (tgt := 123) hx hb dX5_loses_119 (by decide) ?_
                  exact hJ_123 _ h _ _ hP hS _ (lv_sub hl [1] rfl)
        exact loop_46 n _ h _ _ hP hS _ (lv_sub hl [2, 3, 4, 1, 0] rfl)
      refine lv_if_ne (tgt := 35) hx hb dX5_loses_23 (by decide) (fun c_23 => ?_) (fun c_23 => ?_)
      · have h := br2 h c_23
        refine lv_aload_n hx hb dX5_loses_35 rfl (lv_at hl 0 rfl) ?_
        refine lv_iload_n hx hb dX5_loses_36 rfl (lv_at hl 3 rfl) ?_
        refine lv_iload_n hx hb dX5_loses_37 rfl (lv_at hl 2 rfl) ?_
        have hFc := fr_all (ws := wM m0 m1 m2 m3 m4 m5 m6 m7 m8 m9 cI cZ u) (hD u) hS hA
        refine va_calli (va_runV (As := [.int _, .int _]) (rest := []) ⟨hx, hb, hml, hown, hts⟩ (c_X5_findRuns l dC dI m0 m1 m2 m3 m4 m5 m6 m7 m8 m9 cI cZ (s.heap).size h) (cwV 2 hts gX5_loses_X5_findRuns rfl rfl rfl (by decide +kernel) ⟨Nat.le_of_ble_eq_true rfl, Nat.le_of_ble_eq_true rfl⟩) ⟨fbM, va_recv hK hP (ci := 3) (q0 := 0) rfl rfl, fun U hU hW => ⟨rfl, by rw [hU], by rw [hU]; exact hP, va_K.moved hW.alike hK, (hD u).weaken (fun _ _ _ _ => trivial)⟩⟩ rfl rfl hl.1 rfl (lv_room (Nat.le_of_ble_eq_true rfl)) dX5_loses_38 ⟨Nat.zero_le _, Nat.zero_le _⟩) hS (fun q _ h => hFc q h) hFc (fun r_3 u_4 t H locs ht _ h hP1 _ hk1 hS => ?_)
        have hP : va_P (dC, dI) vwCl (wM m0 m1 m2 m3 m4 m5 m6 m7 m8 m9 cI cZ u_4) H := by rw [← ht]; exact hP1
        exact hJ_41 _ _ h _ _ hP hS _ (lv_sub hl [0, 1, 4] rfl)
      · have h := br1 h c_23
        refine lv_aload_n hx hb dX5_loses_26 rfl (lv_at hl 0 rfl) ?_
        refine lv_iload_n hx hb dX5_loses_27 rfl (lv_at hl 2 rfl) ?_
        refine lv_iload_n hx hb dX5_loses_28 rfl (lv_at hl 3 rfl) ?_
        have hFc := fr_all (ws := wM m0 m1 m2 m3 m4 m5 m6 m7 m8 m9 cI cZ u) (hD u) hS hA
        refine va_calli (va_runV (As := [.int _, .int _]) (rest := []) ⟨hx, hb, hml, hown, hts⟩ (c_X5_findRuns l dC dI m0 m1 m2 m3 m4 m5 m6 m7 m8 m9 cI cZ (s.heap).size h) (cwV 2 hts gX5_loses_X5_findRuns rfl rfl rfl (by decide +kernel) ⟨Nat.le_of_ble_eq_true rfl, Nat.le_of_ble_eq_true rfl⟩) ⟨fbM, va_recv hK hP (ci := 3) (q0 := 0) rfl rfl, fun U hU hW => ⟨rfl, by rw [hU], by rw [hU]; exact hP, va_K.moved hW.alike hK, (hD u).weaken (fun _ _ _ _ => trivial)⟩⟩ rfl rfl hl.1 rfl (lv_room (Nat.le_of_ble_eq_true rfl)) dX5_loses_29 ⟨Nat.zero_le _, Nat.zero_le _⟩) hS (fun q _ h => hFc q h) hFc (fun r_5 u_6 t H locs ht _ h hP1 _ hk1 hS => ?_)
        have hP : va_P (dC, dI) vwCl (wM m0 m1 m2 m3 m4 m5 m6 m7 m8 m9 cI cZ u_6) H := by rw [← ht]; exact hP1
        refine lv_goto (tgt := 41) hx hb dX5_loses_32 (by decide) ?_
        exact hJ_41 _ _ h _ _ hP hS _ (lv_sub hl [0, 1, 4] rfl)
    · have h := br1 h c_17
      refine lv_iconst (v := 0) hx hb dX5_loses_20 (by decide) ?_
      exact W.zret (ty := .boolean) hx hb hr rfl (fun t ht _ => ⟨⟨_, u, rfl, h, hPr ht hP⟩, hS.F ht⟩) hS.2.2 dX5_loses_21
set_option maxHeartbeats 4000000 in
set_option maxRecDepth 100000 in
theorem c_X5_isIn (l : Launch) (dC : Nat → ClassId) (dI : Nat → Nat → Nat) (m0 m1 m2 m3 m4 m5 m6 m7 m8 m9 : Nat) (cI cZ : ClassId) (sz : Nat) {u : St} {x1 : Int32} {x2 : Int32} {x3 : Int32} {x4 : Int32} {x5 : Int32} {post : Int32 → St → Prop} (h : P_X5_isIn u x1 x2 x3 x4 x5 post) : Met l yX5_isIn wsX5_isIn ({ frames := 3, cells := 0, slots := 0, locals := 74 } : Room) (MPre (dC, dI) vwCl (wM m0 m1 m2 m3 m4 m5 m6 m7 m8 m9 cI cZ u) [(cI, .int), (cZ, .boolean)] sz [.ref m0, .int x1, .int x2, .int x3, .int x4, .int x5]) (va_Qi post (fun (u2 : St) (t : State) => va_P (dC, dI) vwCl (wM m0 m1 m2 m3 m4 m5 m6 m7 m8 m9 cI cZ u2) t.heap) (va_A (wM m0 m1 m2 m3 m4 m5 m6 m7 m8 m9 cI cZ u) sz)) 0 0 (va_A (wM m0 m1 m2 m3 m4 m5 m6 m7 m8 m9 cI cZ u) sz) := by
  refine Met.ofW (cc := cX5_isIn) (maxL := 6) (ret := (some .boolean)) (by decide) rfl ?_
  intro p e s m args below meth c s₁ B hml hv
  obtain ⟨rfl, hsz, hP, hK, hD0⟩ := hv
  have hx := B.exec
  have hb := B.bytes
  have hr := B.returns
  have hts := atoms_spec (ws := wsX5_isIn) B.pre
  have hown : s.vm.findClass RX5 = some m.cls := findClass_of_methodNamed B.named
  have hlocks := B.notSynchronized
  subst hsz
  have hD1 := hD0.self (sz := s.heap.size)
  generalize hAe : va_A (wM m0 m1 m2 m3 m4 m5 m6 m7 m8 m9 cI cZ u) s.heap.size = A at hD1 ⊢
  have hA : ∀ q : Nat, s.heap.size ≤ q → A q := fun q h => by rw [← hAe]; exact Or.inr h
  have hD : ∀ z, va_D A (wM m0 m1 m2 m3 m4 m5 m6 m7 m8 m9 cI cZ z) := fun z => va_Dsame hD1 rfl
  have hS : va_S A s.heap s.heap [] := va_S.rf
  have hl := lv_entry ([.ref m0, .int x1, .int x2, .int x3, .int x4, .int x5]) (n := 6) (Nat.le_of_ble_eq_true rfl)
  rw [lg_entry_eq]
  generalize (lg_sl ([.ref m0, .int x1, .int x2, .int x3, .int x4, .int x5]) ++ List.replicate (6 - (lg_sl ([.ref m0, .int x1, .int x2, .int x3, .int x4, .int x5])).length) Slot.unset).toArray = ls at hl ⊢
  have hl : lv_has ls 6 [(0, .ref m0), (1, .int x1), (2, .int x2), (3, .int x3), (4, .int x4), (5, .int x5)] := hl
  unfold P_X5_isIn at h
  refine lv_aload_n hx hb dX5_isIn_0 rfl (lv_at hl 0 rfl) ?_
  refine lv_iload_n hx hb dX5_isIn_1 rfl (lv_at hl 1 rfl) ?_
  refine lv_iload_n hx hb dX5_isIn_2 rfl (lv_at hl 2 rfl) ?_
  refine lv_iload_n hx hb dX5_isIn_3 rfl (lv_at hl 3 rfl) ?_
  refine lv_iload hx hb dX5_isIn_4 (lv_at hl 4 rfl) ?_
  refine vp_callSi (W.runV (As := [.int _, .int _, .int _, .int _]) (rest := []) ⟨hx, hb, hml, hown, hts⟩ (c_X5_hasIn l dC dI m0 m1 m2 m3 m4 m5 m6 m7 m8 m9 cI cZ h) (cwV 4 hts gX5_isIn_X5_hasIn rfl rfl rfl (by decide +kernel) ⟨Nat.le_of_ble_eq_true rfl, Nat.le_of_ble_eq_true rfl⟩) ⟨fbR, va_recv hK hP (ci := 3) (q0 := 0) rfl rfl, fun U hU hW => ⟨rfl, by rw [hU]; exact hP, va_K.moved hW.alike hK⟩⟩ rfl rfl hl.1 rfl (lv_room (Nat.le_of_ble_eq_true rfl)) dX5_isIn_6 ⟨Nat.zero_le _, Nat.zero_le _⟩) (fun r_1 h => ?_)
  refine lv_if_eq (tgt := 33) hx hb dX5_isIn_9 (by decide) (fun c_9 => ?_) (fun c_9 => ?_)
  · have h := br1 h c_9
    refine lv_iconst (v := 0) hx hb dX5_isIn_33 (by decide) ?_
    exact W.zret (ty := .boolean) hx hb hr rfl (fun t ht _ => ⟨⟨_, u, rfl, h, hPr ht hP⟩, hS.F ht⟩) hS.2.2 dX5_isIn_34
  · have h := br2 h c_9
    refine lv_iload hx hb dX5_isIn_12 (lv_at hl 5 rfl) ?_
    obtain ⟨J_29, hJi_29, h⟩ := jnE1 h
    have hJ_29 : ∀ (u_4 : St), J_29 u_4 → ∀ (H : Heap) (locs : List Loc), va_P (dC, dI) vwCl (wM m0 m1 m2 m3 m4 m5 m6 m7 m8 m9 cI cZ u_4) H → va_S A s.heap H locs → ∀ (ls : Array Slot), lv_has ls 6 [] → W p l e (headSpec wsX5_isIn ({ frames := 3, cells := 0, slots := 0, locals := 74 } : Room)).room s m ([.ref m0, .int x1, .int x2, .int x3, .int x4, .int x5] : List Value).toArray below meth c H locs 0 0 (MQ below (va_Qi post (fun (u2 : St) (t : State) => va_P (dC, dI) vwCl (wM m0 m1 m2 m3 m4 m5 m6 m7 m8 m9 cI cZ u2) t.heap) A) ([.ref m0, .int x1, .int x2, .int x3, .int x4, .int x5] : List Value).toArray s 0 0 A) (F0 m 29 ls []) := by
      intro u_4 h H locs hP hS ls hl
      have h := hJi_29 _ h
      refine lv_iconst (v := 1) hx hb dX5_isIn_29 (by decide) ?_
      refine lv_goto (tgt := 34) hx hb dX5_isIn_30 (by decide) ?_
      exact W.zret (ty := .boolean) hx hb hr rfl (fun t ht _ => ⟨⟨_, u_4, rfl, h, hPr ht hP⟩, hS.F ht⟩) hS.2.2 dX5_isIn_34
    refine lv_if_eq (tgt := 29) hx hb dX5_isIn_14 (by decide) (fun c_14 => ?_) (fun c_14 => ?_)
    · have h := br1 h c_14
      exact hJ_29 _ h _ _ hP hS _ (lv_sub hl [] rfl)
    · have h := br2 h c_14
      refine lv_aload_n hx hb dX5_isIn_17 rfl (lv_at hl 0 rfl) ?_
      refine lv_iload_n hx hb dX5_isIn_18 rfl (lv_at hl 1 rfl) ?_
      refine lv_iload_n hx hb dX5_isIn_19 rfl (lv_at hl 2 rfl) ?_
      refine lv_iload_n hx hb dX5_isIn_20 rfl (lv_at hl 3 rfl) ?_
      refine lv_iload hx hb dX5_isIn_21 (lv_at hl 4 rfl) ?_
      have hFc := fr_all (ws := wM m0 m1 m2 m3 m4 m5 m6 m7 m8 m9 cI cZ u) (hD u) hS hA
      refine va_calli (va_runV (As := [.int _, .int _, .int _, .int _]) (rest := []) ⟨hx, hb, hml, hown, hts⟩ (c_X5_loses l dC dI m0 m1 m2 m3 m4 m5 m6 m7 m8 m9 cI cZ (s.heap).size h) (cwV 4 hts gX5_isIn_X5_loses rfl rfl rfl (by decide +kernel) ⟨Nat.le_of_ble_eq_true rfl, Nat.le_of_ble_eq_true rfl⟩) ⟨fbM, va_recv hK hP (ci := 3) (q0 := 0) rfl rfl, fun U hU hW => ⟨rfl, by rw [hU], by rw [hU]; exact hP, va_K.moved hW.alike hK, (hD u).weaken (fun _ _ _ _ => trivial)⟩⟩ rfl rfl hl.1 rfl (lv_room (Nat.le_of_ble_eq_true rfl)) dX5_isIn_23 ⟨Nat.zero_le _, Nat.zero_le _⟩) hS (fun q _ h => hFc q h) hFc (fun r_2 u_3 t H locs ht _ h hP1 _ hk1 hS => ?_)
      have hP : va_P (dC, dI) vwCl (wM m0 m1 m2 m3 m4 m5 m6 m7 m8 m9 cI cZ u_3) H := by rw [← ht]; exact hP1
      refine lv_if_ne (tgt := 33) hx hb dX5_isIn_26 (by decide) (fun c_26 => ?_) (fun c_26 => ?_)
      · have h := br2 h c_26
        refine lv_iconst (v := 0) hx hb dX5_isIn_33 (by decide) ?_
        exact W.zret (ty := .boolean) hx hb hr rfl (fun t ht _ => ⟨⟨_, u_3, rfl, h, hPr ht hP⟩, hS.F ht⟩) hS.2.2 dX5_isIn_34
      · have h := br1 h c_26
        exact hJ_29 _ h _ _ hP hS _ (lv_sub hl [] rfl)
set_option maxHeartbeats 4000000 in
set_option maxRecDepth 100000 in
theorem c_X5_figure (l : Launch) (dC : Nat → ClassId) (dI : Nat → Nat → Nat) (m0 m1 m2 m3 m4 m5 m6 m7 m8 m9 : Nat) (cI cZ : ClassId) (sz : Nat) {u : St} {x1 : Int32} {x2 : Int32} {x3 : Int32} {x4 : Int32} {x5 : Int32} {post : Int32 → St → Prop} (h : P_X5_figure u x1 x2 x3 x4 x5 post) : Met l yX5_figure wsX5_figure ({ frames := 4, cells := 0, slots := 0, locals := 99 } : Room) (MPre (dC, dI) vwCl (wM m0 m1 m2 m3 m4 m5 m6 m7 m8 m9 cI cZ u) [(cI, .int), (cZ, .boolean)] sz [.ref m0, .int x1, .int x2, .int x3, .int x4, .int x5]) (va_Qi post (fun (u2 : St) (t : State) => va_P (dC, dI) vwCl (wM m0 m1 m2 m3 m4 m5 m6 m7 m8 m9 cI cZ u2) t.heap) (va_A (wM m0 m1 m2 m3 m4 m5 m6 m7 m8 m9 cI cZ u) sz)) 0 0 (va_A (wM m0 m1 m2 m3 m4 m5 m6 m7 m8 m9 cI cZ u) sz) := by
  refine Met.ofW (cc := cX5_figure) (maxL := 6) (ret := (some .int)) (by decide) rfl ?_
  intro p e s m args below meth c s₁ B hml hv
  obtain ⟨rfl, hsz, hP, hK, hD0⟩ := hv
  have hx := B.exec
  have hb := B.bytes
  have hr := B.returns
  have hts := atoms_spec (ws := wsX5_figure) B.pre
  have hown : s.vm.findClass RX5 = some m.cls := findClass_of_methodNamed B.named
  have hlocks := B.notSynchronized
  subst hsz
  have hD1 := hD0.self (sz := s.heap.size)
  generalize hAe : va_A (wM m0 m1 m2 m3 m4 m5 m6 m7 m8 m9 cI cZ u) s.heap.size = A at hD1 ⊢
  have hA : ∀ q : Nat, s.heap.size ≤ q → A q := fun q h => by rw [← hAe]; exact Or.inr h
  have hD : ∀ z, va_D A (wM m0 m1 m2 m3 m4 m5 m6 m7 m8 m9 cI cZ z) := fun z => va_Dsame hD1 rfl
  have hS : va_S A s.heap s.heap [] := va_S.rf
  have hl := lv_entry ([.ref m0, .int x1, .int x2, .int x3, .int x4, .int x5]) (n := 6) (Nat.le_of_ble_eq_true rfl)
  rw [lg_entry_eq]
  generalize (lg_sl ([.ref m0, .int x1, .int x2, .int x3, .int x4, .int x5]) ++ List.replicate (6 - (lg_sl ([.ref m0, .int x1, .int x2, .int x3, .int x4, .int x5])).length) Slot.unset).toArray = ls at hl ⊢
  have hl : lv_has ls 6 [(0, .ref m0), (1, .int x1), (2, .int x2), (3, .int x3), (4, .int x4), (5, .int x5)] := hl
  have i_X5 : ∀ w ∈ u_ws RX5 TX5 17, w ∈ wsX5_figure := by decide +kernel
  have f_16 := hts (.fieldLink RX5 16 "SliceBodyModel" "wideZ" "I") (by decide +kernel)
  unfold P_X5_figure at h
  refine lv_aload_n hx hb dX5_figure_0 rfl (lv_at hl 0 rfl) ?_
  refine lv_iload_n hx hb dX5_figure_1 rfl (lv_at hl 1 rfl) ?_
  refine lv_iload_n hx hb dX5_figure_2 rfl (lv_at hl 2 rfl) ?_
  refine vp_callSi (W.runV (As := [.int _, .int _]) (rest := []) ⟨hx, hb, hml, hown, hts⟩ (c_X5_isRib l dC dI m0 m1 m2 m3 m4 m5 m6 m7 m8 m9 cI cZ h) (cwV 2 hts gX5_figure_X5_isRib rfl rfl rfl (by decide +kernel) ⟨Nat.le_of_ble_eq_true rfl, Nat.le_of_ble_eq_true rfl⟩) ⟨fbR, va_recv hK hP (ci := 3) (q0 := 0) rfl rfl, fun U hU hW => ⟨rfl, by rw [hU]; exact hP, va_K.moved hW.alike hK⟩⟩ rfl rfl hl.1 rfl (lv_room (Nat.le_of_ble_eq_true rfl)) dX5_figure_3 ⟨Nat.zero_le _, Nat.zero_le _⟩) (fun r_1 h => ?_)
  refine lv_if_eq (tgt := 45) hx hb dX5_figure_6 (by decide) (fun c_6 => ?_) (fun c_6 => ?_)
  · have h := br1 h c_6
    refine lv_iconst (v := (-1)) hx hb dX5_figure_45 (by decide) ?_
    exact W.iret hx hb hr (fun t ht _ => ⟨⟨_, u, rfl, h, hPr ht hP⟩, hS.F ht⟩) hS.2.2 dX5_figure_46
  · have h := br2 h c_6
    refine lv_iload_n hx hb dX5_figure_9 rfl (lv_at hl 3 rfl) ?_
    refine lv_i2l hx hb dX5_figure_10 rfl ?_
    refine lv_lconst (v := 0) hx hb dX5_figure_11 (by decide) ?_
    refine lv_aload_n hx hb dX5_figure_12 rfl (lv_at hl 0 rfl) ?_
    refine lv_iconst (v := 1) hx hb dX5_figure_13 (by decide) ?_
    refine lv_iload_n hx hb dX5_figure_14 rfl (lv_at hl 1 rfl) ?_
    refine lv_isub hx hb dX5_figure_15 ?_
    refine vp_callSi (W.runV (As := [.int _]) (rest := [.long _, .long _]) ⟨hx, hb, hml, hown, hts⟩ (c_X5_places l dC dI m0 m1 m2 m3 m4 m5 m6 m7 m8 m9 cI cZ h) (cwV 1 hts gX5_figure_X5_places rfl rfl rfl (by decide +kernel) ⟨Nat.le_of_ble_eq_true rfl, Nat.le_of_ble_eq_true rfl⟩) ⟨fbR, va_recv hK hP (ci := 3) (q0 := 0) rfl rfl, fun U hU hW => ⟨rfl, by rw [hU]; exact hP, va_K.moved hW.alike hK⟩⟩ rfl rfl hl.1 rfl (lv_room (Nat.le_of_ble_eq_true rfl)) dX5_figure_16 ⟨Nat.zero_le _, Nat.zero_le _⟩) (fun r_2 h => ?_)
    refine lv_iconst (v := 1) hx hb dX5_figure_19 (by decide) ?_
    refine lv_isub hx hb dX5_figure_20 ?_
    refine lv_i2l hx hb dX5_figure_21 rfl ?_
    refine vp_callSi (W.runS (As := [.long _, .long _, .long _]) (rest := []) ⟨hx, hb, hml, hown, hts⟩ (c_X5_in l h) (va_cwS 3 hts gX5_figure_X5_in rfl rfl rfl (by decide +kernel) ⟨Nat.le_of_ble_eq_true rfl, Nat.le_of_ble_eq_true rfl⟩) ⟨fun _ _ _ _ q => q, fun _ _ _ => ⟨rfl, trivial⟩⟩ rfl rfl hl.1 rfl (lv_room (Nat.le_of_ble_eq_true rfl)) dX5_figure_22 ⟨Nat.zero_le _, Nat.zero_le _⟩) (fun r_3 h => ?_)
    refine lv_if_eq (tgt := 45) hx hb dX5_figure_25 (by decide) (fun c_25 => ?_) (fun c_25 => ?_)
    · have h := br1 h c_25
      refine lv_iconst (v := (-1)) hx hb dX5_figure_45 (by decide) ?_
      exact W.iret hx hb hr (fun t ht _ => ⟨⟨_, u, rfl, h, hPr ht hP⟩, hS.F ht⟩) hS.2.2 dX5_figure_46
    · have h := br2 h c_25
      refine lv_iload hx hb dX5_figure_28 (lv_at hl 4 rfl) ?_
      refine lv_i2l hx hb dX5_figure_30 rfl ?_
      refine lv_lconst (v := 0) hx hb dX5_figure_31 (by decide) ?_
      refine lv_aload_n hx hb dX5_figure_32 rfl (lv_at hl 0 rfl) ?_
      refine va_get (D := (dC, dI)) (ci := 3) (v := .int (u.1 2)) (C := RX5) (T := TX5) (N := 17) hx hb hts i_X5 hown hK hP 0 rfl rfl 2 (by decide) f_16 (fun _ h9 => h9) rfl dX5_figure_33 ?_
      refine lv_iconst (v := 1) hx hb dX5_figure_36 (by decide) ?_
      refine lv_isub hx hb dX5_figure_37 ?_
      refine lv_i2l hx hb dX5_figure_38 rfl ?_
      refine vp_callSi (W.runS (As := [.long _, .long _, .long _]) (rest := []) ⟨hx, hb, hml, hown, hts⟩ (c_X5_in l h) (va_cwS 3 hts gX5_figure_X5_in rfl rfl rfl (by decide +kernel) ⟨Nat.le_of_ble_eq_true rfl, Nat.le_of_ble_eq_true rfl⟩) ⟨fun _ _ _ _ q => q, fun _ _ _ => ⟨rfl, trivial⟩⟩ rfl rfl hl.1 rfl (lv_room (Nat.le_of_ble_eq_true rfl)) dX5_figure_39 ⟨Nat.zero_le _, Nat.zero_le _⟩) (fun r_4 h => ?_)
      refine lv_if_ne (tgt := 47) hx hb dX5_figure_42 (by decide) (fun c_42 => ?_) (fun c_42 => ?_)
      · have h := br2 h c_42
        refine lv_aload_n hx hb dX5_figure_47 rfl (lv_at hl 0 rfl) ?_
        refine lv_iload_n hx hb dX5_figure_48 rfl (lv_at hl 1 rfl) ?_
        refine lv_iload_n hx hb dX5_figure_49 rfl (lv_at hl 2 rfl) ?_
        refine lv_iload_n hx hb dX5_figure_50 rfl (lv_at hl 3 rfl) ?_
        refine lv_iload hx hb dX5_figure_51 (lv_at hl 4 rfl) ?_
        refine lv_iload hx hb dX5_figure_53 (lv_at hl 5 rfl) ?_
        have hFc := fr_all (ws := wM m0 m1 m2 m3 m4 m5 m6 m7 m8 m9 cI cZ u) (hD u) hS hA
        refine va_calli (va_runV (As := [.int _, .int _, .int _, .int _, .int _]) (rest := []) ⟨hx, hb, hml, hown, hts⟩ (c_X5_isIn l dC dI m0 m1 m2 m3 m4 m5 m6 m7 m8 m9 cI cZ (s.heap).size h) (cwV 5 hts gX5_figure_X5_isIn rfl rfl rfl (by decide +kernel) ⟨Nat.le_of_ble_eq_true rfl, Nat.le_of_ble_eq_true rfl⟩) ⟨fbM, va_recv hK hP (ci := 3) (q0 := 0) rfl rfl, fun U hU hW => ⟨rfl, by rw [hU], by rw [hU]; exact hP, va_K.moved hW.alike hK, (hD u).weaken (fun _ _ _ _ => trivial)⟩⟩ rfl rfl hl.1 rfl (lv_room (Nat.le_of_ble_eq_true rfl)) dX5_figure_55 ⟨Nat.zero_le _, Nat.zero_le _⟩) hS (fun q _ h => hFc q h) hFc (fun r_5 u_6 t H locs ht _ h hP1 _ hk1 hS => ?_)
        have hP : va_P (dC, dI) vwCl (wM m0 m1 m2 m3 m4 m5 m6 m7 m8 m9 cI cZ u_6) H := by rw [← ht]; exact hP1
        refine lv_if_eq (tgt := 65) hx hb dX5_figure_58 (by decide) (fun c_58 => ?_) (fun c_58 => ?_)
        · have h := br1 h c_58
          refine lv_iconst (v := 0) hx hb dX5_figure_65 (by decide) ?_
          exact W.iret hx hb hr (fun t ht _ => ⟨⟨_, u_6, rfl, h, hPr ht hP⟩, hS.F ht⟩) hS.2.2 dX5_figure_66
        · have h := br2 h c_58
          refine lv_iconst (v := 1) hx hb dX5_figure_61 (by decide) ?_
          refine lv_goto (tgt := 66) hx hb dX5_figure_62 (by decide) ?_
          exact W.iret hx hb hr (fun t ht _ => ⟨⟨_, u_6, rfl, h, hPr ht hP⟩, hS.F ht⟩) hS.2.2 dX5_figure_66
      · have h := br1 h c_42
        refine lv_iconst (v := (-1)) hx hb dX5_figure_45 (by decide) ?_
        exact W.iret hx hb hr (fun t ht _ => ⟨⟨_, u, rfl, h, hPr ht hP⟩, hS.F ht⟩) hS.2.2 dX5_figure_46
set_option maxHeartbeats 4000000 in
set_option maxRecDepth 100000 in
theorem c_X5_meet (l : Launch) (dC : Nat → ClassId) (dI : Nat → Nat → Nat) (m0 m1 m2 m3 m4 m5 m6 m7 m8 m9 : Nat) (cI cZ : ClassId) (sz : Nat) {u : St} {x1 : Int32} {x2 : Int32} {post : Int32 → St → Prop} (h : P_X5_meet u x1 x2 post) : Met l yX5_meet wsX5_meet ({ frames := 0, cells := 0, slots := 0, locals := 0 } : Room) (MPre (dC, dI) vwCl (wM m0 m1 m2 m3 m4 m5 m6 m7 m8 m9 cI cZ u) [(cI, .int), (cZ, .boolean)] sz [.ref m0, .int x1, .int x2]) (va_Qi post (fun (u2 : St) (t : State) => va_P (dC, dI) vwCl (wM m0 m1 m2 m3 m4 m5 m6 m7 m8 m9 cI cZ u2) t.heap) (va_A (wM m0 m1 m2 m3 m4 m5 m6 m7 m8 m9 cI cZ u) sz)) 0 0 (va_A (wM m0 m1 m2 m3 m4 m5 m6 m7 m8 m9 cI cZ u) sz) := by
  refine Met.ofW (cc := cX5_meet) (maxL := 4) (ret := (some .boolean)) (by decide) rfl ?_
  intro p e s m args below meth c s₁ B hml hv
  obtain ⟨rfl, hsz, hP, hK, hD0⟩ := hv
  have hx := B.exec
  have hb := B.bytes
  have hr := B.returns
  have hts := atoms_spec (ws := wsX5_meet) B.pre
  have hown : s.vm.findClass RX5 = some m.cls := findClass_of_methodNamed B.named
  have hlocks := B.notSynchronized
  subst hsz
  have hD1 := hD0.self (sz := s.heap.size)
  generalize hAe : va_A (wM m0 m1 m2 m3 m4 m5 m6 m7 m8 m9 cI cZ u) s.heap.size = A at hD1 ⊢
  have hA : ∀ q : Nat, s.heap.size ≤ q → A q := fun q h => by rw [← hAe]; exact Or.inr h
  have hD : ∀ z, va_D A (wM m0 m1 m2 m3 m4 m5 m6 m7 m8 m9 cI cZ z) := fun z => va_Dsame hD1 rfl
  have hS : va_S A s.heap s.heap [] := va_S.rf
  have hl := lv_entry ([.ref m0, .int x1, .int x2]) (n := 4) (Nat.le_of_ble_eq_true rfl)
  rw [lg_entry_eq]
  generalize (lg_sl ([.ref m0, .int x1, .int x2]) ++ List.replicate (4 - (lg_sl ([.ref m0, .int x1, .int x2])).length) Slot.unset).toArray = ls at hl ⊢
  have hl : lv_has ls 4 [(0, .ref m0), (1, .int x1), (2, .int x2)] := hl
  have i_X5 : ∀ w ∈ u_ws RX5 TX5 17, w ∈ wsX5_meet := by decide +kernel
  have f_33 := hts (.fieldLink RX5 33 "SliceBodyModel" "part" "[I") (by decide +kernel)
  unfold P_X5_meet at h
  refine lv_aload_n hx hb dX5_meet_0 rfl (lv_at hl 0 rfl) ?_
  refine va_get (D := (dC, dI)) (ci := 3) (v := .ref m5) (C := RX5) (T := TX5) (N := 17) hx hb hts i_X5 hown hK hP 0 rfl rfl 8 (by decide) f_33 (fun _ h9 => h9) rfl dX5_meet_1 ?_
  refine lv_iload_n hx hb dX5_meet_4 rfl (lv_at hl 1 rfl) ?_
  obtain ⟨hi, h⟩ := h
  refine va_iald hx hb hK hP 5 0 rfl rfl hi dX5_meet_5 ?_
  refine lv_if_eq (tgt := 33) hx hb dX5_meet_6 (by decide) (fun c_6 => ?_) (fun c_6 => ?_)
  · have h := br1 h c_6
    refine lv_iconst (v := 0) hx hb dX5_meet_33 (by decide) ?_
    exact W.zret (ty := .boolean) hx hb hr rfl (fun t ht _ => ⟨⟨_, u, rfl, h, hPr ht hP⟩, hS.F ht⟩) hS.2.2 dX5_meet_34
  · have h := br2 h c_6
    refine lv_aload_n hx hb dX5_meet_9 rfl (lv_at hl 0 rfl) ?_
    refine va_get (D := (dC, dI)) (ci := 3) (v := .ref m5) (C := RX5) (T := TX5) (N := 17) hx hb hts i_X5 hown hK hP 0 rfl rfl 8 (by decide) f_33 (fun _ h9 => h9) rfl dX5_meet_10 ?_
    refine lv_iload_n hx hb dX5_meet_13 rfl (lv_at hl 2 rfl) ?_
    obtain ⟨hi, h⟩ := h
    refine va_iald hx hb hK hP 5 0 rfl rfl hi dX5_meet_14 ?_
    refine lv_if_eq (tgt := 33) hx hb dX5_meet_15 (by decide) (fun c_15 => ?_) (fun c_15 => ?_)
    · have h := br1 h c_15
      refine lv_iconst (v := 0) hx hb dX5_meet_33 (by decide) ?_
      exact W.zret (ty := .boolean) hx hb hr rfl (fun t ht _ => ⟨⟨_, u, rfl, h, hPr ht hP⟩, hS.F ht⟩) hS.2.2 dX5_meet_34
    · have h := br2 h c_15
      refine lv_aload_n hx hb dX5_meet_18 rfl (lv_at hl 0 rfl) ?_
      refine va_get (D := (dC, dI)) (ci := 3) (v := .ref m5) (C := RX5) (T := TX5) (N := 17) hx hb hts i_X5 hown hK hP 0 rfl rfl 8 (by decide) f_33 (fun _ h9 => h9) rfl dX5_meet_19 ?_
      refine lv_iload_n hx hb dX5_meet_22 rfl (lv_at hl 1 rfl) ?_
      obtain ⟨hi, h⟩ := h
      refine va_iald hx hb hK hP 5 0 rfl rfl hi dX5_meet_23 ?_
      refine lv_aload_n hx hb dX5_meet_24 rfl (lv_at hl 0 rfl) ?_
      refine va_get (D := (dC, dI)) (ci := 3) (v := .ref m5) (C := RX5) (T := TX5) (N := 17) hx hb hts i_X5 hown hK hP 0 rfl rfl 8 (by decide) f_33 (fun _ h9 => h9) rfl dX5_meet_25 ?_
      refine lv_iload_n hx hb dX5_meet_28 rfl (lv_at hl 2 rfl) ?_
      obtain ⟨hi, h⟩ := h
      refine va_iald hx hb hK hP 5 0 rfl rfl hi dX5_meet_29 ?_
      refine lv_icmp_ne (tgt := 35) hx hb dX5_meet_30 (by decide) (fun c_30 => ?_) (fun c_30 => ?_)
      · have h := br2 h c_30
        refine lv_aload_n hx hb dX5_meet_35 rfl (lv_at hl 0 rfl) ?_
        refine va_get (D := (dC, dI)) (ci := 3) (v := .ref m5) (C := RX5) (T := TX5) (N := 17) hx hb hts i_X5 hown hK hP 0 rfl rfl 8 (by decide) f_33 (fun _ h9 => h9) rfl dX5_meet_36 ?_
        refine lv_iload_n hx hb dX5_meet_39 rfl (lv_at hl 1 rfl) ?_
        obtain ⟨hi, h⟩ := h
        refine va_iald hx hb hK hP 5 0 rfl rfl hi dX5_meet_40 ?_
        refine lv_aload_n hx hb dX5_meet_41 rfl (lv_at hl 0 rfl) ?_
        refine va_get (D := (dC, dI)) (ci := 3) (v := .ref m5) (C := RX5) (T := TX5) (N := 17) hx hb hts i_X5 hown hK hP 0 rfl rfl 8 (by decide) f_33 (fun _ h9 => h9) rfl dX5_meet_42 ?_
        refine lv_iload_n hx hb dX5_meet_45 rfl (lv_at hl 2 rfl) ?_
        obtain ⟨hi, h⟩ := h
        refine va_iald hx hb hK hP 5 0 rfl rfl hi dX5_meet_46 ?_
        obtain ⟨J_65, hJi_65, h⟩ := jnE1 h
        have hJ_65 : ∀ (w_1 : Int32), J_65 w_1 → ∀ (H : Heap) (locs : List Loc), va_P (dC, dI) vwCl (wM m0 m1 m2 m3 m4 m5 m6 m7 m8 m9 cI cZ u) H → va_S A s.heap H locs → ∀ (ls : Array Slot), lv_has ls 4 [(0, .ref m0), (1, .int x1), (2, .int x2)] → W p l e (headSpec wsX5_meet ({ frames := 0, cells := 0, slots := 0, locals := 0 } : Room)).room s m ([.ref m0, .int x1, .int x2] : List Value).toArray below meth c H locs 0 0 (MQ below (va_Qi post (fun (u2 : St) (t : State) => va_P (dC, dI) vwCl (wM m0 m1 m2 m3 m4 m5 m6 m7 m8 m9 cI cZ u2) t.heap) A) ([.ref m0, .int x1, .int x2] : List Value).toArray s 0 0 A) (F0 m 65 ls [.int w_1]) := by
          intro w_1 h H locs hP hS ls hl
          have h := hJi_65 _ h
          refine lv_istore_n (lv' := [(3, .int w_1), (0, .ref m0), (1, .int x1), (2, .int x2)]) hx hb dX5_meet_65 rfl hl (by decide) rfl (fun ls hl => ?_)
          refine lv_aload_n hx hb dX5_meet_66 rfl (lv_at hl 1 rfl) ?_
          refine va_get (D := (dC, dI)) (ci := 3) (v := .ref m5) (C := RX5) (T := TX5) (N := 17) hx hb hts i_X5 hown hK hP 0 rfl rfl 8 (by decide) f_33 (fun _ h9 => h9) rfl dX5_meet_67 ?_
          refine lv_iload_n hx hb dX5_meet_70 rfl (lv_at hl 2 rfl) ?_
          refine lv_iload_n hx hb dX5_meet_71 rfl (lv_at hl 0 rfl) ?_
          obtain ⟨hi, h⟩ := h
          refine va_iast hx hb hK hP (hD _) hS 5 0 rfl rfl hi dX5_meet_72 (fun H locs hP _ hS => ?_)
          obtain ⟨u_2, eu_2⟩ : ∃ z : St, z = (u.1, va_up u.2 8 (upd (u.2 8) x1.toNatClampNeg w_1)) := ⟨_, rfl⟩
          have h := h u_2 eu_2
          have hP : va_P (dC, dI) vwCl (wM m0 m1 m2 m3 m4 m5 m6 m7 m8 m9 cI cZ u_2) H := by rw [eu_2]; exact hP
          refine lv_aload_n hx hb dX5_meet_73 rfl (lv_at hl 1 rfl) ?_
          refine va_get (D := (dC, dI)) (ci := 3) (v := .ref m5) (C := RX5) (T := TX5) (N := 17) hx hb hts i_X5 hown hK hP 0 rfl rfl 8 (by decide) f_33 (fun _ h9 => h9) rfl dX5_meet_74 ?_
          refine lv_iload_n hx hb dX5_meet_77 rfl (lv_at hl 3 rfl) ?_
          refine lv_iload_n hx hb dX5_meet_78 rfl (lv_at hl 0 rfl) ?_
          obtain ⟨hi, h⟩ := h
          refine va_iast hx hb hK hP (hD _) hS 5 0 rfl rfl hi dX5_meet_79 (fun H locs hP _ hS => ?_)
          obtain ⟨u_3, eu_3⟩ : ∃ z : St, z = (u_2.1, va_up u_2.2 8 (upd (u_2.2 8) x2.toNatClampNeg w_1)) := ⟨_, rfl⟩
          have h := h u_3 eu_3
          have hP : va_P (dC, dI) vwCl (wM m0 m1 m2 m3 m4 m5 m6 m7 m8 m9 cI cZ u_3) H := by rw [eu_3]; exact hP
          refine lv_iconst (v := 1) hx hb dX5_meet_80 (by decide) ?_
          exact W.zret (ty := .boolean) hx hb hr rfl (fun t ht _ => ⟨⟨_, u_3, rfl, h, hPr ht hP⟩, hS.F ht⟩) hS.2.2 dX5_meet_81
        refine lv_icmp_ge (tgt := 59) hx hb dX5_meet_47 (by decide) (fun c_47 => ?_) (fun c_47 => ?_)
        · have h := br1 h c_47
          refine lv_aload_n hx hb dX5_meet_59 rfl (lv_at hl 0 rfl) ?_
          refine va_get (D := (dC, dI)) (ci := 3) (v := .ref m5) (C := RX5) (T := TX5) (N := 17) hx hb hts i_X5 hown hK hP 0 rfl rfl 8 (by decide) f_33 (fun _ h9 => h9) rfl dX5_meet_60 ?_
          refine lv_iload_n hx hb dX5_meet_63 rfl (lv_at hl 2 rfl) ?_
          obtain ⟨hi, h⟩ := h
          refine va_iald hx hb hK hP 5 0 rfl rfl hi dX5_meet_64 ?_
          exact hJ_65 _ h _ _ hP hS _ (lv_sub hl [0, 1, 2] rfl)
        · have h := br2 h c_47
          refine lv_aload_n hx hb dX5_meet_50 rfl (lv_at hl 0 rfl) ?_
          refine va_get (D := (dC, dI)) (ci := 3) (v := .ref m5) (C := RX5) (T := TX5) (N := 17) hx hb hts i_X5 hown hK hP 0 rfl rfl 8 (by decide) f_33 (fun _ h9 => h9) rfl dX5_meet_51 ?_
          refine lv_iload_n hx hb dX5_meet_54 rfl (lv_at hl 1 rfl) ?_
          obtain ⟨hi, h⟩ := h
          refine va_iald hx hb hK hP 5 0 rfl rfl hi dX5_meet_55 ?_
          refine lv_goto (tgt := 65) hx hb dX5_meet_56 (by decide) ?_
          exact hJ_65 _ h _ _ hP hS _ (lv_sub hl [0, 1, 2] rfl)
      · have h := br1 h c_30
        refine lv_iconst (v := 0) hx hb dX5_meet_33 (by decide) ?_
        exact W.zret (ty := .boolean) hx hb hr rfl (fun t ht _ => ⟨⟨_, u, rfl, h, hPr ht hP⟩, hS.F ht⟩) hS.2.2 dX5_meet_34
set_option maxHeartbeats 4000000 in
set_option maxRecDepth 100000 in
theorem c_X5_findParts (l : Launch) (dC : Nat → ClassId) (dI : Nat → Nat → Nat) (m0 m1 m2 m3 m4 m5 m6 m7 m8 m9 : Nat) (cI cZ : ClassId) (sz : Nat) {u : St} {x1 : Int32} {x2 : Int32} {x3 : Int32} {post : St → Prop} (h : P_X5_findParts u x1 x2 x3 post) : Met l yX5_findParts wsX5_findParts ({ frames := 4, cells := 0, slots := 0, locals := 99 } : Room) (MPre (dC, dI) vwCl (wM m0 m1 m2 m3 m4 m5 m6 m7 m8 m9 cI cZ u) [(cI, .int), (cZ, .boolean)] sz [.ref m0, .int x1, .int x2, .int x3]) (va_Qv post (fun (u2 : St) (t : State) => va_P (dC, dI) vwCl (wM m0 m1 m2 m3 m4 m5 m6 m7 m8 m9 cI cZ u2) t.heap) (va_A (wM m0 m1 m2 m3 m4 m5 m6 m7 m8 m9 cI cZ u) sz)) 0 0 (va_A (wM m0 m1 m2 m3 m4 m5 m6 m7 m8 m9 cI cZ u) sz) := by
  refine Met.ofW (cc := cX5_findParts) (maxL := 7) (ret := none) (by decide) rfl ?_
  intro p e s m args below meth c s₁ B hml hv
  obtain ⟨rfl, hsz, hP, hK, hD0⟩ := hv
  have hx := B.exec
  have hb := B.bytes
  have hr := B.returns
  have hts := atoms_spec (ws := wsX5_findParts) B.pre
  have hown : s.vm.findClass RX5 = some m.cls := findClass_of_methodNamed B.named
  have hlocks := B.notSynchronized
  subst hsz
  have hD1 := hD0.self (sz := s.heap.size)
  generalize hAe : va_A (wM m0 m1 m2 m3 m4 m5 m6 m7 m8 m9 cI cZ u) s.heap.size = A at hD1 ⊢
  have hA : ∀ q : Nat, s.heap.size ≤ q → A q := fun q h => by rw [← hAe]; exact Or.inr h
  have hD : ∀ z, va_D A (wM m0 m1 m2 m3 m4 m5 m6 m7 m8 m9 cI cZ z) := fun z => va_Dsame hD1 rfl
  have hS : va_S A s.heap s.heap [] := va_S.rf
  have hl := lv_entry ([.ref m0, .int x1, .int x2, .int x3]) (n := 7) (Nat.le_of_ble_eq_true rfl)
  rw [lg_entry_eq]
  generalize (lg_sl ([.ref m0, .int x1, .int x2, .int x3]) ++ List.replicate (7 - (lg_sl ([.ref m0, .int x1, .int x2, .int x3])).length) Slot.unset).toArray = ls at hl ⊢
  have hl : lv_has ls 7 [(0, .ref m0), (1, .int x1), (2, .int x2), (3, .int x3)] := hl
  have i_X5 : ∀ w ∈ u_ws RX5 TX5 17, w ∈ wsX5_findParts := by decide +kernel
  have f_16 := hts (.fieldLink RX5 16 "SliceBodyModel" "wideZ" "I") (by decide +kernel)
  have f_33 := hts (.fieldLink RX5 33 "SliceBodyModel" "part" "[I") (by decide +kernel)
  have f_93 := hts (.fieldLink RX5 93 "SliceBodyModel" "cubeMany" "I") (by decide +kernel)
  have f_99 := hts (.fieldLink RX5 99 "SliceBodyModel" "partMany" "I") (by decide +kernel)
  unfold P_X5_findParts at h
  refine lv_aload_n hx hb dX5_findParts_0 rfl (lv_at hl 0 rfl) ?_
  refine lv_iconst (v := 0) hx hb dX5_findParts_1 (by decide) ?_
  refine va_put (D := (dC, dI)) (ci := 3) (v := .int (0 : Int32)) (ty := .int) (C := RX5) (T := TX5) (N := 17) hx hb hts i_X5 tyX5 tyX5_ok nmX5 hown hK hP (hD _) hS 0 rfl rfl 10 (by decide) f_93 (fun _ h9 => h9) rfl (by decide +kernel) rfl rfl (Nat.le_of_ble_eq_true rfl) dX5_findParts_2 (fun H locs hP _ hS => ?_)
  obtain ⟨u_1, eu_1⟩ : ∃ z : St, z = (upd u.1 10 (0 : Int32), u.2) := ⟨_, rfl⟩
  have h := h u_1 eu_1
  have hP : va_P (dC, dI) vwCl (wM m0 m1 m2 m3 m4 m5 m6 m7 m8 m9 cI cZ u_1) H := by rw [eu_1]; exact hP
  refine lv_iconst (v := 0) hx hb dX5_findParts_5 (by decide) ?_
  refine lv_istore (lv' := [(4, .int (0 : Int32)), (0, .ref m0), (1, .int x1), (2, .int x2), (3, .int x3)]) hx hb dX5_findParts_6 hl (by decide) rfl (fun ls hl => ?_)
  obtain ⟨K_8, hKi_8, h⟩ := jnE1 h
  have hK_8 : ∀ (u_20 : St), K_8 u_20 → ∀ (H : Heap) (locs : List Loc), va_P (dC, dI) vwCl (wM m0 m1 m2 m3 m4 m5 m6 m7 m8 m9 cI cZ u_20) H → va_S A s.heap H locs → ∀ (ls : Array Slot), lv_has ls 7 [(0, .ref m0)] → W p l e (headSpec wsX5_findParts ({ frames := 4, cells := 0, slots := 0, locals := 99 } : Room)).room s m ([.ref m0, .int x1, .int x2, .int x3] : List Value).toArray below meth c H locs 0 0 (MQ below (va_Qv post (fun (u2 : St) (t : State) => va_P (dC, dI) vwCl (wM m0 m1 m2 m3 m4 m5 m6 m7 m8 m9 cI cZ u2) t.heap) A) ([.ref m0, .int x1, .int x2, .int x3] : List Value).toArray s 0 0 A) (F0 m 130 ls []) := by
    intro u_20 h H locs hP hS ls hl
    have h := hKi_8 _ h
    refine lv_iconst (v := 1) hx hb dX5_findParts_130 (by decide) ?_
    refine lv_istore (lv' := [(4, .int (1 : Int32)), (0, .ref m0)]) hx hb dX5_findParts_131 hl (by decide) rfl (fun ls hl => ?_)
    obtain ⟨K_133, hKi_133, h⟩ := jnE1 h
    have hK_133 : ∀ (u_41 : St), K_133 u_41 → ∀ (H : Heap) (locs : List Loc), va_P (dC, dI) vwCl (wM m0 m1 m2 m3 m4 m5 m6 m7 m8 m9 cI cZ u_41) H → va_S A s.heap H locs → ∀ (ls : Array Slot), lv_has ls 7 [(0, .ref m0)] → W p l e (headSpec wsX5_findParts ({ frames := 4, cells := 0, slots := 0, locals := 99 } : Room)).room s m ([.ref m0, .int x1, .int x2, .int x3] : List Value).toArray below meth c H locs 0 0 (MQ below (va_Qv post (fun (u2 : St) (t : State) => va_P (dC, dI) vwCl (wM m0 m1 m2 m3 m4 m5 m6 m7 m8 m9 cI cZ u2) t.heap) A) ([.ref m0, .int x1, .int x2, .int x3] : List Value).toArray s 0 0 A) (F0 m 228 ls []) := by
      intro u_41 h H locs hP hS ls hl
      have h := hKi_133 _ h
      refine lv_aload_n hx hb dX5_findParts_228 rfl (lv_at hl 0 rfl) ?_
      refine lv_iconst (v := 0) hx hb dX5_findParts_229 (by decide) ?_
      refine va_put (D := (dC, dI)) (ci := 3) (v := .int (0 : Int32)) (ty := .int) (C := RX5) (T := TX5) (N := 17) hx hb hts i_X5 tyX5 tyX5_ok nmX5 hown hK hP (hD _) hS 0 rfl rfl 9 (by decide) f_99 (fun _ h9 => h9) rfl (by decide +kernel) rfl rfl (Nat.le_of_ble_eq_true rfl) dX5_findParts_230 (fun H locs hP _ hS => ?_)
      obtain ⟨u_42, eu_42⟩ : ∃ z : St, z = (upd u_41.1 9 (0 : Int32), u_41.2) := ⟨_, rfl⟩
      have h := h u_42 eu_42
      have hP : va_P (dC, dI) vwCl (wM m0 m1 m2 m3 m4 m5 m6 m7 m8 m9 cI cZ u_42) H := by rw [eu_42]; exact hP
      refine lv_iconst (v := 0) hx hb dX5_findParts_233 (by decide) ?_
      refine lv_istore (lv' := [(5, .int (0 : Int32)), (0, .ref m0)]) hx hb dX5_findParts_234 hl (by decide) rfl (fun ls hl => ?_)
      obtain ⟨K_236, hKi_236, h⟩ := jnE1 h
      have hK_236 : ∀ (u_49 : St), K_236 u_49 → ∀ (H : Heap) (locs : List Loc), va_P (dC, dI) vwCl (wM m0 m1 m2 m3 m4 m5 m6 m7 m8 m9 cI cZ u_49) H → va_S A s.heap H locs → ∀ (ls : Array Slot), lv_has ls 7 [] → W p l e (headSpec wsX5_findParts ({ frames := 4, cells := 0, slots := 0, locals := 99 } : Room)).room s m ([.ref m0, .int x1, .int x2, .int x3] : List Value).toArray below meth c H locs 0 0 (MQ below (va_Qv post (fun (u2 : St) (t : State) => va_P (dC, dI) vwCl (wM m0 m1 m2 m3 m4 m5 m6 m7 m8 m9 cI cZ u2) t.heap) A) ([.ref m0, .int x1, .int x2, .int x3] : List Value).toArray s 0 0 A) (F0 m 277 ls []) := by
        intro u_49 h H locs hP hS ls hl
        have h := hKi_236 _ h
        exact W.vret hx hb hr (fun t ht _ => ⟨⟨u_49, rfl, h, hPr ht hP⟩, hS.F ht⟩) hS.2.2 dX5_findParts_277
      obtain ⟨n, h⟩ := h
      have loop_236 : ∀ (n : Nat) (v5_43 : Int32) (u_44 : St), L_X5_findParts_236 post K_236 n v5_43 u_44 → ∀ (H : Heap) (locs : List Loc), va_P (dC, dI) vwCl (wM m0 m1 m2 m3 m4 m5 m6 m7 m8 m9 cI cZ u_44) H → va_S A s.heap H locs → ∀ (ls : Array Slot), lv_has ls 7 [(0, .ref m0), (5, .int v5_43)] → W p l e (headSpec wsX5_findParts ({ frames := 4, cells := 0, slots := 0, locals := 99 } : Room)).room s m ([.ref m0, .int x1, .int x2, .int x3] : List Value).toArray below meth c H locs 0 0 (MQ below (va_Qv post (fun (u2 : St) (t : State) => va_P (dC, dI) vwCl (wM m0 m1 m2 m3 m4 m5 m6 m7 m8 m9 cI cZ u2) t.heap) A) ([.ref m0, .int x1, .int x2, .int x3] : List Value).toArray s 0 0 A) (F0 m 236 ls []) := by
        intro n
        induction n with
        | zero => intro v5_43 u_44 h; rw [L_X5_findParts_236] at h; exact h.elim
        | succ n ih_236 =>
          intro v5_43 u_44 h H locs hP hS ls hl
          rw [L_X5_findParts_236] at h
          refine lv_iload hx hb dX5_findParts_236 (lv_at hl 1 rfl) ?_
          refine lv_bipush (v := 64) hx hb dX5_findParts_238 (by decide) ?_
          refine lv_icmp_ge (tgt := 277) hx hb dX5_findParts_240 (by decide) (fun c_240 => ?_) (fun c_240 => ?_)
          · have h := br1 h c_240
            exact hK_236 _ h _ _ hP hS _ (lv_sub hl [] rfl)
          · have h := br2 h c_240
            refine lv_aload_n hx hb dX5_findParts_243 rfl (lv_at hl 0 rfl) ?_
            refine lv_dup hx hb dX5_findParts_244 rfl ?_
            refine va_get (D := (dC, dI)) (ci := 3) (v := .int (u_44.1 9)) (C := RX5) (T := TX5) (N := 17) hx hb hts i_X5 hown hK hP 0 rfl rfl 9 (by decide) f_99 (fun _ h9 => h9) rfl dX5_findParts_245 ?_
            refine lv_aload_n hx hb dX5_findParts_248 rfl (lv_at hl 0 rfl) ?_
            refine va_get (D := (dC, dI)) (ci := 3) (v := .ref m5) (C := RX5) (T := TX5) (N := 17) hx hb hts i_X5 hown hK hP 0 rfl rfl 8 (by decide) f_33 (fun _ h9 => h9) rfl dX5_findParts_249 ?_
            refine lv_iload hx hb dX5_findParts_252 (lv_at hl 1 rfl) ?_
            obtain ⟨hi, h⟩ := h
            refine va_iald hx hb hK hP 5 0 rfl rfl hi dX5_findParts_254 ?_
            refine lv_iload hx hb dX5_findParts_255 (lv_at hl 1 rfl) ?_
            refine lv_iconst (v := 1) hx hb dX5_findParts_257 (by decide) ?_
            refine lv_iadd hx hb dX5_findParts_258 ?_
            obtain ⟨J_267, hJi_267, h⟩ := jnE1 h
            have hJ_267 : ∀ (w_45 : Int32), J_267 w_45 → ∀ (H : Heap) (locs : List Loc), va_P (dC, dI) vwCl (wM m0 m1 m2 m3 m4 m5 m6 m7 m8 m9 cI cZ u_44) H → va_S A s.heap H locs → ∀ (ls : Array Slot), lv_has ls 7 [(0, .ref m0), (5, .int v5_43)] → W p l e (headSpec wsX5_findParts ({ frames := 4, cells := 0, slots := 0, locals := 99 } : Room)).room s m ([.ref m0, .int x1, .int x2, .int x3] : List Value).toArray below meth c H locs 0 0 (MQ below (va_Qv post (fun (u2 : St) (t : State) => va_P (dC, dI) vwCl (wM m0 m1 m2 m3 m4 m5 m6 m7 m8 m9 cI cZ u2) t.heap) A) ([.ref m0, .int x1, .int x2, .int x3] : List Value).toArray s 0 0 A) (F0 m 267 ls [.int w_45, .int (u_44.1 9), .ref m0]) := by
              intro w_45 h H locs hP hS ls hl
              have h := hJi_267 _ h
              refine lv_iadd hx hb dX5_findParts_267 ?_
              refine lv_topi (fun y_46 ey_46 => ?_)
              have h := h y_46 ey_46
              refine va_put (D := (dC, dI)) (ci := 3) (v := .int y_46) (ty := .int) (C := RX5) (T := TX5) (N := 17) hx hb hts i_X5 tyX5 tyX5_ok nmX5 hown hK hP (hD _) hS 0 rfl rfl 9 (by decide) f_99 (fun _ h9 => h9) rfl (by decide +kernel) rfl rfl (Nat.le_of_ble_eq_true rfl) dX5_findParts_268 (fun H locs hP _ hS => ?_)
              obtain ⟨u_47, eu_47⟩ : ∃ z : St, z = (upd u_44.1 9 y_46, u_44.2) := ⟨_, rfl⟩
              have h := h u_47 eu_47
              have hP : va_P (dC, dI) vwCl (wM m0 m1 m2 m3 m4 m5 m6 m7 m8 m9 cI cZ u_47) H := by rw [eu_47]; exact hP
              obtain ⟨y_48, ey_48⟩ : ∃ z : Int32, z = v5_43 + (1 : Int32) := ⟨_, rfl⟩
              have h := h y_48 ey_48
              refine lv_iinc (v := y_48) (lv' := [(5, .int y_48), (0, .ref m0)]) hx hb dX5_findParts_271 hl (k := 1) rfl (by rw [ey_48]; rfl) (by decide) rfl (fun ls hl => ?_)
              refine lv_goto (tgt := 236) hx hb dX5_findParts_274 (by decide) ?_
              exact ih_236 _ _ h _ _ hP hS _ (lv_sub hl [1, 0] rfl)
            refine lv_icmp_ne (tgt := 266) hx hb dX5_findParts_259 (by decide) (fun c_259 => ?_) (fun c_259 => ?_)
            · have h := br2 h c_259
              refine lv_iconst (v := 0) hx hb dX5_findParts_266 (by decide) ?_
              exact hJ_267 _ h _ _ hP hS _ (lv_sub hl [0, 1] rfl)
            · have h := br1 h c_259
              refine lv_iconst (v := 1) hx hb dX5_findParts_262 (by decide) ?_
              refine lv_goto (tgt := 267) hx hb dX5_findParts_263 (by decide) ?_
              exact hJ_267 _ h _ _ hP hS _ (lv_sub hl [0, 1] rfl)
      exact loop_236 n _ _ h _ _ hP hS _ (lv_sub hl [1, 0] rfl)
    obtain ⟨n, h⟩ := h
    have loop_133 : ∀ (n : Nat) (v4_21 : Int32) (u_22 : St), L_X5_findParts_133 post K_133 n v4_21 u_22 → ∀ (H : Heap) (locs : List Loc), va_P (dC, dI) vwCl (wM m0 m1 m2 m3 m4 m5 m6 m7 m8 m9 cI cZ u_22) H → va_S A s.heap H locs → ∀ (ls : Array Slot), lv_has ls 7 [(0, .ref m0), (4, .int v4_21)] → W p l e (headSpec wsX5_findParts ({ frames := 4, cells := 0, slots := 0, locals := 99 } : Room)).room s m ([.ref m0, .int x1, .int x2, .int x3] : List Value).toArray below meth c H locs 0 0 (MQ below (va_Qv post (fun (u2 : St) (t : State) => va_P (dC, dI) vwCl (wM m0 m1 m2 m3 m4 m5 m6 m7 m8 m9 cI cZ u2) t.heap) A) ([.ref m0, .int x1, .int x2, .int x3] : List Value).toArray s 0 0 A) (F0 m 133 ls []) := by
      intro n
      induction n with
      | zero => intro v4_21 u_22 h; rw [L_X5_findParts_133] at h; exact h.elim
      | succ n ih_133 =>
        intro v4_21 u_22 h H locs hP hS ls hl
        rw [L_X5_findParts_133] at h
        refine lv_iload hx hb dX5_findParts_133 (lv_at hl 1 rfl) ?_
        refine lv_if_eq (tgt := 228) hx hb dX5_findParts_135 (by decide) (fun c_135 => ?_) (fun c_135 => ?_)
        · have h := br1 h c_135
          exact hK_133 _ h _ _ hP hS _ (lv_sub hl [0] rfl)
        · have h := br2 h c_135
          refine lv_iconst (v := 0) hx hb dX5_findParts_138 (by decide) ?_
          refine lv_istore (lv' := [(4, .int (0 : Int32)), (0, .ref m0)]) hx hb dX5_findParts_139 hl (by decide) rfl (fun ls hl => ?_)
          refine lv_iconst (v := 0) hx hb dX5_findParts_141 (by decide) ?_
          refine lv_istore (lv' := [(5, .int (0 : Int32)), (4, .int (0 : Int32)), (0, .ref m0)]) hx hb dX5_findParts_142 hl (by decide) rfl (fun ls hl => ?_)
          obtain ⟨K_144, hKi_144, h⟩ := jnE2 h
          have hK_144 : ∀ (v4_39 : Int32) (u_40 : St), K_144 v4_39 u_40 → ∀ (H : Heap) (locs : List Loc), va_P (dC, dI) vwCl (wM m0 m1 m2 m3 m4 m5 m6 m7 m8 m9 cI cZ u_40) H → va_S A s.heap H locs → ∀ (ls : Array Slot), lv_has ls 7 [(0, .ref m0), (4, .int v4_39)] → W p l e (headSpec wsX5_findParts ({ frames := 4, cells := 0, slots := 0, locals := 99 } : Room)).room s m ([.ref m0, .int x1, .int x2, .int x3] : List Value).toArray below meth c H locs 0 0 (MQ below (va_Qv post (fun (u2 : St) (t : State) => va_P (dC, dI) vwCl (wM m0 m1 m2 m3 m4 m5 m6 m7 m8 m9 cI cZ u2) t.heap) A) ([.ref m0, .int x1, .int x2, .int x3] : List Value).toArray s 0 0 A) (F0 m 225 ls []) := by
            intro v4_39 u_40 h H locs hP hS ls hl
            have h := hKi_144 _ _ h
            refine lv_goto (tgt := 133) hx hb dX5_findParts_225 (by decide) ?_
            exact ih_133 _ _ h _ _ hP hS _ (lv_sub hl [0, 1] rfl)
          obtain ⟨n, h⟩ := h
          have loop_144 : ∀ (n : Nat) (v4_23 : Int32) (v5_24 : Int32) (u_25 : St), L_X5_findParts_144 post K_144 n v4_23 v5_24 u_25 → ∀ (H : Heap) (locs : List Loc), va_P (dC, dI) vwCl (wM m0 m1 m2 m3 m4 m5 m6 m7 m8 m9 cI cZ u_25) H → va_S A s.heap H locs → ∀ (ls : Array Slot), lv_has ls 7 [(0, .ref m0), (4, .int v4_23), (5, .int v5_24)] → W p l e (headSpec wsX5_findParts ({ frames := 4, cells := 0, slots := 0, locals := 99 } : Room)).room s m ([.ref m0, .int x1, .int x2, .int x3] : List Value).toArray below meth c H locs 0 0 (MQ below (va_Qv post (fun (u2 : St) (t : State) => va_P (dC, dI) vwCl (wM m0 m1 m2 m3 m4 m5 m6 m7 m8 m9 cI cZ u2) t.heap) A) ([.ref m0, .int x1, .int x2, .int x3] : List Value).toArray s 0 0 A) (F0 m 144 ls []) := by
            intro n
            induction n with
            | zero => intro v4_23 v5_24 u_25 h; rw [L_X5_findParts_144] at h; exact h.elim
            | succ n ih_144 =>
              intro v4_23 v5_24 u_25 h H locs hP hS ls hl
              rw [L_X5_findParts_144] at h
              refine lv_iload hx hb dX5_findParts_144 (lv_at hl 2 rfl) ?_
              refine lv_bipush (v := 64) hx hb dX5_findParts_146 (by decide) ?_
              refine lv_icmp_ge (tgt := 225) hx hb dX5_findParts_148 (by decide) (fun c_148 => ?_) (fun c_148 => ?_)
              · have h := br1 h c_148
                exact hK_144 _ _ h _ _ hP hS _ (lv_sub hl [0, 1] rfl)
              · have h := br2 h c_148
                refine lv_iload hx hb dX5_findParts_151 (lv_at hl 2 rfl) ?_
                refine lv_bipush (v := 8) hx hb dX5_findParts_153 (by decide) ?_
                refine lv_irem hx hb dX5_findParts_155 (by decide) ?_
                refine lv_bipush (v := 7) hx hb dX5_findParts_156 (by decide) ?_
                obtain ⟨J_184, hJi_184, h⟩ := jnE2 h
                have hJ_184 : ∀ (w_30 : Int32) (u_31 : St), J_184 w_30 u_31 → ∀ (H : Heap) (locs : List Loc), va_P (dC, dI) vwCl (wM m0 m1 m2 m3 m4 m5 m6 m7 m8 m9 cI cZ u_31) H → va_S A s.heap H locs → ∀ (ls : Array Slot), lv_has ls 7 [(0, .ref m0), (5, .int v5_24)] → W p l e (headSpec wsX5_findParts ({ frames := 4, cells := 0, slots := 0, locals := 99 } : Room)).room s m ([.ref m0, .int x1, .int x2, .int x3] : List Value).toArray below meth c H locs 0 0 (MQ below (va_Qv post (fun (u2 : St) (t : State) => va_P (dC, dI) vwCl (wM m0 m1 m2 m3 m4 m5 m6 m7 m8 m9 cI cZ u2) t.heap) A) ([.ref m0, .int x1, .int x2, .int x3] : List Value).toArray s 0 0 A) (F0 m 184 ls [.int w_30]) := by
                  intro w_30 u_31 h H locs hP hS ls hl
                  have h := hJi_184 _ _ h
                  refine lv_istore (lv' := [(4, .int w_30), (0, .ref m0), (5, .int v5_24)]) hx hb dX5_findParts_184 hl (by decide) rfl (fun ls hl => ?_)
                  refine lv_iload hx hb dX5_findParts_186 (lv_at hl 2 rfl) ?_
                  refine lv_bipush (v := 56) hx hb dX5_findParts_188 (by decide) ?_
                  obtain ⟨J_217, hJi_217, h⟩ := jnE2 h
                  have hJ_217 : ∀ (w_36 : Int32) (u_37 : St), J_217 w_36 u_37 → ∀ (H : Heap) (locs : List Loc), va_P (dC, dI) vwCl (wM m0 m1 m2 m3 m4 m5 m6 m7 m8 m9 cI cZ u_37) H → va_S A s.heap H locs → ∀ (ls : Array Slot), lv_has ls 7 [(0, .ref m0), (5, .int v5_24)] → W p l e (headSpec wsX5_findParts ({ frames := 4, cells := 0, slots := 0, locals := 99 } : Room)).room s m ([.ref m0, .int x1, .int x2, .int x3] : List Value).toArray below meth c H locs 0 0 (MQ below (va_Qv post (fun (u2 : St) (t : State) => va_P (dC, dI) vwCl (wM m0 m1 m2 m3 m4 m5 m6 m7 m8 m9 cI cZ u2) t.heap) A) ([.ref m0, .int x1, .int x2, .int x3] : List Value).toArray s 0 0 A) (F0 m 217 ls [.int w_36]) := by
                    intro w_36 u_37 h H locs hP hS ls hl
                    have h := hJi_217 _ _ h
                    refine lv_istore (lv' := [(4, .int w_36), (0, .ref m0), (5, .int v5_24)]) hx hb dX5_findParts_217 hl (by decide) rfl (fun ls hl => ?_)
                    obtain ⟨y_38, ey_38⟩ : ∃ z : Int32, z = v5_24 + (1 : Int32) := ⟨_, rfl⟩
                    have h := h y_38 ey_38
                    refine lv_iinc (v := y_38) (lv' := [(5, .int y_38), (4, .int w_36), (0, .ref m0)]) hx hb dX5_findParts_219 hl (k := 2) rfl (by rw [ey_38]; rfl) (by decide) rfl (fun ls hl => ?_)
                    refine lv_goto (tgt := 144) hx hb dX5_findParts_222 (by decide) ?_
                    exact ih_144 _ _ _ h _ _ hP hS _ (lv_sub hl [2, 1, 0] rfl)
                  obtain ⟨J_212, hJi_212, h⟩ := jnE1 h
                  have hJ_212 : ∀ (u_35 : St), J_212 u_35 → ∀ (H : Heap) (locs : List Loc), va_P (dC, dI) vwCl (wM m0 m1 m2 m3 m4 m5 m6 m7 m8 m9 cI cZ u_35) H → va_S A s.heap H locs → ∀ (ls : Array Slot), lv_has ls 7 [(0, .ref m0), (5, .int v5_24)] → W p l e (headSpec wsX5_findParts ({ frames := 4, cells := 0, slots := 0, locals := 99 } : Room)).room s m ([.ref m0, .int x1, .int x2, .int x3] : List Value).toArray below meth c H locs 0 0 (MQ below (va_Qv post (fun (u2 : St) (t : State) => va_P (dC, dI) vwCl (wM m0 m1 m2 m3 m4 m5 m6 m7 m8 m9 cI cZ u2) t.heap) A) ([.ref m0, .int x1, .int x2, .int x3] : List Value).toArray s 0 0 A) (F0 m 212 ls []) := by
                    intro u_35 h H locs hP hS ls hl
                    have h := hJi_212 _ h
                    refine lv_iconst (v := 1) hx hb dX5_findParts_212 (by decide) ?_
                    refine lv_goto (tgt := 217) hx hb dX5_findParts_213 (by decide) ?_
                    exact hJ_217 _ _ h _ _ hP hS _ (lv_sub hl [0, 1] rfl)
                  obtain ⟨J_207, hJi_207, h⟩ := jnE1 h
                  have hJ_207 : ∀ (u_34 : St), J_207 u_34 → ∀ (H : Heap) (locs : List Loc), va_P (dC, dI) vwCl (wM m0 m1 m2 m3 m4 m5 m6 m7 m8 m9 cI cZ u_34) H → va_S A s.heap H locs → ∀ (ls : Array Slot), lv_has ls 7 [(0, .ref m0), (4, .int w_30), (5, .int v5_24)] → W p l e (headSpec wsX5_findParts ({ frames := 4, cells := 0, slots := 0, locals := 99 } : Room)).room s m ([.ref m0, .int x1, .int x2, .int x3] : List Value).toArray below meth c H locs 0 0 (MQ below (va_Qv post (fun (u2 : St) (t : State) => va_P (dC, dI) vwCl (wM m0 m1 m2 m3 m4 m5 m6 m7 m8 m9 cI cZ u2) t.heap) A) ([.ref m0, .int x1, .int x2, .int x3] : List Value).toArray s 0 0 A) (F0 m 207 ls []) := by
                    intro u_34 h H locs hP hS ls hl
                    have h := hJi_207 _ h
                    refine lv_iload hx hb dX5_findParts_207 (lv_at hl 1 rfl) ?_
                    refine lv_if_eq (tgt := 216) hx hb dX5_findParts_209 (by decide) (fun c_209 => ?_) (fun c_209 => ?_)
                    · have h := br1 h c_209
                      refine lv_iconst (v := 0) hx hb dX5_findParts_216 (by decide) ?_
                      exact hJ_217 _ _ h _ _ hP hS _ (lv_sub hl [0, 2] rfl)
                    · have h := br2 h c_209
                      exact hJ_212 _ h _ _ hP hS _ (lv_sub hl [0, 2] rfl)
                  refine lv_icmp_ge (tgt := 207) hx hb dX5_findParts_190 (by decide) (fun c_190 => ?_) (fun c_190 => ?_)
                  · have h := br1 h c_190
                    exact hJ_207 _ h _ _ hP hS _ (lv_sub hl [1, 0, 2] rfl)
                  · have h := br2 h c_190
                    refine lv_aload_n hx hb dX5_findParts_193 rfl (lv_at hl 1 rfl) ?_
                    refine lv_iload hx hb dX5_findParts_194 (lv_at hl 2 rfl) ?_
                    refine lv_iload hx hb dX5_findParts_196 (lv_at hl 2 rfl) ?_
                    refine lv_bipush (v := 8) hx hb dX5_findParts_198 (by decide) ?_
                    refine lv_iadd hx hb dX5_findParts_200 ?_
                    have hFc := fr_all (ws := wM m0 m1 m2 m3 m4 m5 m6 m7 m8 m9 cI cZ u_31) (hD u_31) hS hA
                    refine va_calli (va_runV (As := [.int _, .int _]) (rest := []) ⟨hx, hb, hml, hown, hts⟩ (c_X5_meet l dC dI m0 m1 m2 m3 m4 m5 m6 m7 m8 m9 cI cZ (H).size h) (cwV 2 hts gX5_findParts_X5_meet rfl rfl rfl (by decide +kernel) ⟨Nat.le_of_ble_eq_true rfl, Nat.le_of_ble_eq_true rfl⟩) ⟨fbM, va_recv hK hP (ci := 3) (q0 := 0) rfl rfl, fun U hU hW => ⟨rfl, by rw [hU], by rw [hU]; exact hP, va_K.moved hW.alike hK, (hD u_31).weaken (fun _ _ _ _ => trivial)⟩⟩ rfl rfl hl.1 rfl (lv_room (Nat.le_of_ble_eq_true rfl)) dX5_findParts_201 ⟨Nat.zero_le _, Nat.zero_le _⟩) hS (fun q _ h => hFc q h) hFc (fun r_32 u_33 t H locs ht _ h hP1 _ hk1 hS => ?_)
                    have hP : va_P (dC, dI) vwCl (wM m0 m1 m2 m3 m4 m5 m6 m7 m8 m9 cI cZ u_33) H := by rw [← ht]; exact hP1
                    refine lv_if_ne (tgt := 212) hx hb dX5_findParts_204 (by decide) (fun c_204 => ?_) (fun c_204 => ?_)
                    · have h := br2 h c_204
                      exact hJ_212 _ h _ _ hP hS _ (lv_sub hl [1, 2] rfl)
                    · have h := br1 h c_204
                      exact hJ_207 _ h _ _ hP hS _ (lv_sub hl [1, 0, 2] rfl)
                obtain ⟨J_179, hJi_179, h⟩ := jnE1 h
                have hJ_179 : ∀ (u_29 : St), J_179 u_29 → ∀ (H : Heap) (locs : List Loc), va_P (dC, dI) vwCl (wM m0 m1 m2 m3 m4 m5 m6 m7 m8 m9 cI cZ u_29) H → va_S A s.heap H locs → ∀ (ls : Array Slot), lv_has ls 7 [(0, .ref m0), (5, .int v5_24)] → W p l e (headSpec wsX5_findParts ({ frames := 4, cells := 0, slots := 0, locals := 99 } : Room)).room s m ([.ref m0, .int x1, .int x2, .int x3] : List Value).toArray below meth c H locs 0 0 (MQ below (va_Qv post (fun (u2 : St) (t : State) => va_P (dC, dI) vwCl (wM m0 m1 m2 m3 m4 m5 m6 m7 m8 m9 cI cZ u2) t.heap) A) ([.ref m0, .int x1, .int x2, .int x3] : List Value).toArray s 0 0 A) (F0 m 179 ls []) := by
                  intro u_29 h H locs hP hS ls hl
                  have h := hJi_179 _ h
                  refine lv_iconst (v := 1) hx hb dX5_findParts_179 (by decide) ?_
                  refine lv_goto (tgt := 184) hx hb dX5_findParts_180 (by decide) ?_
                  exact hJ_184 _ _ h _ _ hP hS _ (lv_sub hl [0, 1] rfl)
                obtain ⟨J_174, hJi_174, h⟩ := jnE1 h
                have hJ_174 : ∀ (u_28 : St), J_174 u_28 → ∀ (H : Heap) (locs : List Loc), va_P (dC, dI) vwCl (wM m0 m1 m2 m3 m4 m5 m6 m7 m8 m9 cI cZ u_28) H → va_S A s.heap H locs → ∀ (ls : Array Slot), lv_has ls 7 [(0, .ref m0), (4, .int v4_23), (5, .int v5_24)] → W p l e (headSpec wsX5_findParts ({ frames := 4, cells := 0, slots := 0, locals := 99 } : Room)).room s m ([.ref m0, .int x1, .int x2, .int x3] : List Value).toArray below meth c H locs 0 0 (MQ below (va_Qv post (fun (u2 : St) (t : State) => va_P (dC, dI) vwCl (wM m0 m1 m2 m3 m4 m5 m6 m7 m8 m9 cI cZ u2) t.heap) A) ([.ref m0, .int x1, .int x2, .int x3] : List Value).toArray s 0 0 A) (F0 m 174 ls []) := by
                  intro u_28 h H locs hP hS ls hl
                  have h := hJi_174 _ h
                  refine lv_iload hx hb dX5_findParts_174 (lv_at hl 1 rfl) ?_
                  refine lv_if_eq (tgt := 183) hx hb dX5_findParts_176 (by decide) (fun c_176 => ?_) (fun c_176 => ?_)
                  · have h := br1 h c_176
                    refine lv_iconst (v := 0) hx hb dX5_findParts_183 (by decide) ?_
                    exact hJ_184 _ _ h _ _ hP hS _ (lv_sub hl [0, 2] rfl)
                  · have h := br2 h c_176
                    exact hJ_179 _ h _ _ hP hS _ (lv_sub hl [0, 2] rfl)
                refine lv_icmp_ge (tgt := 174) hx hb dX5_findParts_158 (by decide) (fun c_158 => ?_) (fun c_158 => ?_)
                · have h := br1 h c_158
                  exact hJ_174 _ h _ _ hP hS _ (lv_sub hl [0, 1, 2] rfl)
                · have h := br2 h c_158
                  refine lv_aload_n hx hb dX5_findParts_161 rfl (lv_at hl 0 rfl) ?_
                  refine lv_iload hx hb dX5_findParts_162 (lv_at hl 2 rfl) ?_
                  refine lv_iload hx hb dX5_findParts_164 (lv_at hl 2 rfl) ?_
                  refine lv_iconst (v := 1) hx hb dX5_findParts_166 (by decide) ?_
                  refine lv_iadd hx hb dX5_findParts_167 ?_
                  have hFc := fr_all (ws := wM m0 m1 m2 m3 m4 m5 m6 m7 m8 m9 cI cZ u_25) (hD u_25) hS hA
                  refine va_calli (va_runV (As := [.int _, .int _]) (rest := []) ⟨hx, hb, hml, hown, hts⟩ (c_X5_meet l dC dI m0 m1 m2 m3 m4 m5 m6 m7 m8 m9 cI cZ (H).size h) (cwV 2 hts gX5_findParts_X5_meet rfl rfl rfl (by decide +kernel) ⟨Nat.le_of_ble_eq_true rfl, Nat.le_of_ble_eq_true rfl⟩) ⟨fbM, va_recv hK hP (ci := 3) (q0 := 0) rfl rfl, fun U hU hW => ⟨rfl, by rw [hU], by rw [hU]; exact hP, va_K.moved hW.alike hK, (hD u_25).weaken (fun _ _ _ _ => trivial)⟩⟩ rfl rfl hl.1 rfl (lv_room (Nat.le_of_ble_eq_true rfl)) dX5_findParts_168 ⟨Nat.zero_le _, Nat.zero_le _⟩) hS (fun q _ h => hFc q h) hFc (fun r_26 u_27 t H locs ht _ h hP1 _ hk1 hS => ?_)
                  have hP : va_P (dC, dI) vwCl (wM m0 m1 m2 m3 m4 m5 m6 m7 m8 m9 cI cZ u_27) H := by rw [← ht]; exact hP1
                  refine lv_if_ne (tgt := 179) hx hb dX5_findParts_171 (by decide) (fun c_171 => ?_) (fun c_171 => ?_)
                  · have h := br2 h c_171
                    exact hJ_179 _ h _ _ hP hS _ (lv_sub hl [0, 2] rfl)
                  · have h := br1 h c_171
                    exact hJ_174 _ h _ _ hP hS _ (lv_sub hl [0, 1, 2] rfl)
          exact loop_144 n _ _ _ h _ _ hP hS _ (lv_sub hl [2, 1, 0] rfl)
    exact loop_133 n _ _ h _ _ hP hS _ (lv_sub hl [1, 0] rfl)
  obtain ⟨n, h⟩ := h
  have loop_8 : ∀ (n : Nat) (v4_2 : Int32) (u_3 : St), L_X5_findParts_8 post K_8 x1 x2 x3 n v4_2 u_3 → ∀ (H : Heap) (locs : List Loc), va_P (dC, dI) vwCl (wM m0 m1 m2 m3 m4 m5 m6 m7 m8 m9 cI cZ u_3) H → va_S A s.heap H locs → ∀ (ls : Array Slot), lv_has ls 7 [(0, .ref m0), (1, .int x1), (2, .int x2), (3, .int x3), (4, .int v4_2)] → W p l e (headSpec wsX5_findParts ({ frames := 4, cells := 0, slots := 0, locals := 99 } : Room)).room s m ([.ref m0, .int x1, .int x2, .int x3] : List Value).toArray below meth c H locs 0 0 (MQ below (va_Qv post (fun (u2 : St) (t : State) => va_P (dC, dI) vwCl (wM m0 m1 m2 m3 m4 m5 m6 m7 m8 m9 cI cZ u2) t.heap) A) ([.ref m0, .int x1, .int x2, .int x3] : List Value).toArray s 0 0 A) (F0 m 8 ls []) := by
    intro n
    induction n with
    | zero => intro v4_2 u_3 h; rw [L_X5_findParts_8] at h; exact h.elim
    | succ n ih_8 =>
      intro v4_2 u_3 h H locs hP hS ls hl
      rw [L_X5_findParts_8] at h
      refine lv_iload hx hb dX5_findParts_8 (lv_at hl 4 rfl) ?_
      refine lv_bipush (v := 8) hx hb dX5_findParts_10 (by decide) ?_
      refine lv_icmp_ge (tgt := 130) hx hb dX5_findParts_12 (by decide) (fun c_12 => ?_) (fun c_12 => ?_)
      · have h := br1 h c_12
        exact hK_8 _ h _ _ hP hS _ (lv_sub hl [0] rfl)
      · have h := br2 h c_12
        refine lv_iconst (v := 0) hx hb dX5_findParts_15 (by decide) ?_
        refine lv_istore (lv' := [(5, .int (0 : Int32)), (0, .ref m0), (1, .int x1), (2, .int x2), (3, .int x3), (4, .int v4_2)]) hx hb dX5_findParts_16 hl (by decide) rfl (fun ls hl => ?_)
        obtain ⟨K_18, hKi_18, h⟩ := jnE1 h
        have hK_18 : ∀ (u_18 : St), K_18 u_18 → ∀ (H : Heap) (locs : List Loc), va_P (dC, dI) vwCl (wM m0 m1 m2 m3 m4 m5 m6 m7 m8 m9 cI cZ u_18) H → va_S A s.heap H locs → ∀ (ls : Array Slot), lv_has ls 7 [(0, .ref m0), (1, .int x1), (2, .int x2), (3, .int x3), (4, .int v4_2)] → W p l e (headSpec wsX5_findParts ({ frames := 4, cells := 0, slots := 0, locals := 99 } : Room)).room s m ([.ref m0, .int x1, .int x2, .int x3] : List Value).toArray below meth c H locs 0 0 (MQ below (va_Qv post (fun (u2 : St) (t : State) => va_P (dC, dI) vwCl (wM m0 m1 m2 m3 m4 m5 m6 m7 m8 m9 cI cZ u2) t.heap) A) ([.ref m0, .int x1, .int x2, .int x3] : List Value).toArray s 0 0 A) (F0 m 124 ls []) := by
          intro u_18 h H locs hP hS ls hl
          have h := hKi_18 _ h
          obtain ⟨y_19, ey_19⟩ : ∃ z : Int32, z = v4_2 + (1 : Int32) := ⟨_, rfl⟩
          have h := h y_19 ey_19
          refine lv_iinc (v := y_19) (lv' := [(4, .int y_19), (0, .ref m0), (1, .int x1), (2, .int x2), (3, .int x3)]) hx hb dX5_findParts_124 hl (k := 4) rfl (by rw [ey_19]; rfl) (by decide) rfl (fun ls hl => ?_)
          refine lv_goto (tgt := 8) hx hb dX5_findParts_127 (by decide) ?_
          exact ih_8 _ _ h _ _ hP hS _ (lv_sub hl [1, 2, 3, 4, 0] rfl)
        obtain ⟨n, h⟩ := h
        have loop_18 : ∀ (n : Nat) (v5_4 : Int32) (u_5 : St), L_X5_findParts_18 post K_18 x1 x2 x3 v4_2 n v5_4 u_5 → ∀ (H : Heap) (locs : List Loc), va_P (dC, dI) vwCl (wM m0 m1 m2 m3 m4 m5 m6 m7 m8 m9 cI cZ u_5) H → va_S A s.heap H locs → ∀ (ls : Array Slot), lv_has ls 7 [(0, .ref m0), (1, .int x1), (2, .int x2), (3, .int x3), (4, .int v4_2), (5, .int v5_4)] → W p l e (headSpec wsX5_findParts ({ frames := 4, cells := 0, slots := 0, locals := 99 } : Room)).room s m ([.ref m0, .int x1, .int x2, .int x3] : List Value).toArray below meth c H locs 0 0 (MQ below (va_Qv post (fun (u2 : St) (t : State) => va_P (dC, dI) vwCl (wM m0 m1 m2 m3 m4 m5 m6 m7 m8 m9 cI cZ u2) t.heap) A) ([.ref m0, .int x1, .int x2, .int x3] : List Value).toArray s 0 0 A) (F0 m 18 ls []) := by
          intro n
          induction n with
          | zero => intro v5_4 u_5 h; rw [L_X5_findParts_18] at h; exact h.elim
          | succ n ih_18 =>
            intro v5_4 u_5 h H locs hP hS ls hl
            rw [L_X5_findParts_18] at h
            refine lv_iload hx hb dX5_findParts_18 (lv_at hl 5 rfl) ?_
            refine lv_bipush (v := 8) hx hb dX5_findParts_20 (by decide) ?_
            refine lv_icmp_ge (tgt := 124) hx hb dX5_findParts_22 (by decide) (fun c_22 => ?_) (fun c_22 => ?_)
            · have h := br1 h c_22
              exact hK_18 _ h _ _ hP hS _ (lv_sub hl [0, 1, 2, 3, 4] rfl)
            · have h := br2 h c_22
              refine lv_iload hx hb dX5_findParts_25 (lv_at hl 4 rfl) ?_
              refine lv_aload_n hx hb dX5_findParts_27 rfl (lv_at hl 0 rfl) ?_
              refine lv_iconst (v := 1) hx hb dX5_findParts_28 (by decide) ?_
              refine lv_iload_n hx hb dX5_findParts_29 rfl (lv_at hl 1 rfl) ?_
              refine lv_isub hx hb dX5_findParts_30 ?_
              refine vp_callSi (W.runV (As := [.int _]) (rest := [.int _]) ⟨hx, hb, hml, hown, hts⟩ (c_X5_places l dC dI m0 m1 m2 m3 m4 m5 m6 m7 m8 m9 cI cZ h) (cwV 1 hts gX5_findParts_X5_places rfl rfl rfl (by decide +kernel) ⟨Nat.le_of_ble_eq_true rfl, Nat.le_of_ble_eq_true rfl⟩) ⟨fbR, va_recv hK hP (ci := 3) (q0 := 0) rfl rfl, fun U hU hW => ⟨rfl, by rw [hU]; exact hP, va_K.moved hW.alike hK⟩⟩ rfl rfl hl.1 rfl (lv_room (Nat.le_of_ble_eq_true rfl)) dX5_findParts_31 ⟨Nat.zero_le _, Nat.zero_le _⟩) (fun r_6 h => ?_)
              obtain ⟨J_65, hJi_65, h⟩ := jnE2 h
              have hJ_65 : ∀ (w_10 : Int32) (u_11 : St), J_65 w_10 u_11 → ∀ (H : Heap) (locs : List Loc), va_P (dC, dI) vwCl (wM m0 m1 m2 m3 m4 m5 m6 m7 m8 m9 cI cZ u_11) H → va_S A s.heap H locs → ∀ (ls : Array Slot), lv_has ls 7 [(0, .ref m0), (1, .int x1), (2, .int x2), (3, .int x3), (4, .int v4_2), (5, .int v5_4)] → W p l e (headSpec wsX5_findParts ({ frames := 4, cells := 0, slots := 0, locals := 99 } : Room)).room s m ([.ref m0, .int x1, .int x2, .int x3] : List Value).toArray below meth c H locs 0 0 (MQ below (va_Qv post (fun (u2 : St) (t : State) => va_P (dC, dI) vwCl (wM m0 m1 m2 m3 m4 m5 m6 m7 m8 m9 cI cZ u2) t.heap) A) ([.ref m0, .int x1, .int x2, .int x3] : List Value).toArray s 0 0 A) (F0 m 65 ls [.int w_10]) := by
                intro w_10 u_11 h H locs hP hS ls hl
                have h := hJi_65 _ _ h
                refine lv_istore (lv' := [(6, .int w_10), (0, .ref m0), (1, .int x1), (2, .int x2), (3, .int x3), (4, .int v4_2), (5, .int v5_4)]) hx hb dX5_findParts_65 hl (by decide) rfl (fun ls hl => ?_)
                refine lv_aload_n hx hb dX5_findParts_67 rfl (lv_at hl 1 rfl) ?_
                refine va_get (D := (dC, dI)) (ci := 3) (v := .ref m5) (C := RX5) (T := TX5) (N := 17) hx hb hts i_X5 hown hK hP 0 rfl rfl 8 (by decide) f_33 (fun _ h9 => h9) rfl dX5_findParts_68 ?_
                refine lv_bipush (v := 8) hx hb dX5_findParts_71 (by decide) ?_
                refine lv_iload hx hb dX5_findParts_73 (lv_at hl 5 rfl) ?_
                refine lv_imul hx hb dX5_findParts_75 ?_
                refine lv_iload hx hb dX5_findParts_76 (lv_at hl 6 rfl) ?_
                refine lv_iadd hx hb dX5_findParts_78 ?_
                refine lv_iload hx hb dX5_findParts_79 (lv_at hl 0 rfl) ?_
                obtain ⟨J_98, hJi_98, h⟩ := jnE1 h
                have hJ_98 : ∀ (w_12 : Int32), J_98 w_12 → ∀ (H : Heap) (locs : List Loc), va_P (dC, dI) vwCl (wM m0 m1 m2 m3 m4 m5 m6 m7 m8 m9 cI cZ u_11) H → va_S A s.heap H locs → ∀ (ls : Array Slot), lv_has ls 7 [(0, .ref m0), (1, .int x1), (2, .int x2), (3, .int x3), (4, .int v4_2), (5, .int v5_4), (6, .int w_10)] → W p l e (headSpec wsX5_findParts ({ frames := 4, cells := 0, slots := 0, locals := 99 } : Room)).room s m ([.ref m0, .int x1, .int x2, .int x3] : List Value).toArray below meth c H locs 0 0 (MQ below (va_Qv post (fun (u2 : St) (t : State) => va_P (dC, dI) vwCl (wM m0 m1 m2 m3 m4 m5 m6 m7 m8 m9 cI cZ u2) t.heap) A) ([.ref m0, .int x1, .int x2, .int x3] : List Value).toArray s 0 0 A) (F0 m 98 ls [.int w_12, .int (((8 : Int32) * v4_2) + v5_4), .ref m5]) := by
                  intro w_12 h H locs hP hS ls hl
                  have h := hJi_98 _ h
                  obtain ⟨hi, h⟩ := h
                  refine va_iast hx hb hK hP (hD _) hS 5 0 rfl rfl hi dX5_findParts_98 (fun H locs hP _ hS => ?_)
                  obtain ⟨u_13, eu_13⟩ : ∃ z : St, z = (u_11.1, va_up u_11.2 8 (upd (u_11.2 8) (((8 : Int32) * v4_2) + v5_4).toNatClampNeg w_12)) := ⟨_, rfl⟩
                  have h := h u_13 eu_13
                  have hP : va_P (dC, dI) vwCl (wM m0 m1 m2 m3 m4 m5 m6 m7 m8 m9 cI cZ u_13) H := by rw [eu_13]; exact hP
                  refine lv_aload_n hx hb dX5_findParts_99 rfl (lv_at hl 0 rfl) ?_
                  refine lv_dup hx hb dX5_findParts_100 rfl ?_
                  refine va_get (D := (dC, dI)) (ci := 3) (v := .int (u_13.1 10)) (C := RX5) (T := TX5) (N := 17) hx hb hts i_X5 hown hK hP 0 rfl rfl 10 (by decide) f_93 (fun _ h9 => h9) rfl dX5_findParts_101 ?_
                  refine lv_iload hx hb dX5_findParts_104 (lv_at hl 6 rfl) ?_
                  obtain ⟨J_114, hJi_114, h⟩ := jnE1 h
                  have hJ_114 : ∀ (w_14 : Int32), J_114 w_14 → ∀ (H : Heap) (locs : List Loc), va_P (dC, dI) vwCl (wM m0 m1 m2 m3 m4 m5 m6 m7 m8 m9 cI cZ u_13) H → va_S A s.heap H locs → ∀ (ls : Array Slot), lv_has ls 7 [(0, .ref m0), (1, .int x1), (2, .int x2), (3, .int x3), (4, .int v4_2), (5, .int v5_4)] → W p l e (headSpec wsX5_findParts ({ frames := 4, cells := 0, slots := 0, locals := 99 } : Room)).room s m ([.ref m0, .int x1, .int x2, .int x3] : List Value).toArray below meth c H locs 0 0 (MQ below (va_Qv post (fun (u2 : St) (t : State) => va_P (dC, dI) vwCl (wM m0 m1 m2 m3 m4 m5 m6 m7 m8 m9 cI cZ u2) t.heap) A) ([.ref m0, .int x1, .int x2, .int x3] : List Value).toArray s 0 0 A) (F0 m 114 ls [.int w_14, .int (u_13.1 10), .ref m0]) := by
                    intro w_14 h H locs hP hS ls hl
                    have h := hJi_114 _ h
                    refine lv_iadd hx hb dX5_findParts_114 ?_
                    refine lv_topi (fun y_15 ey_15 => ?_)
                    have h := h y_15 ey_15
                    refine va_put (D := (dC, dI)) (ci := 3) (v := .int y_15) (ty := .int) (C := RX5) (T := TX5) (N := 17) hx hb hts i_X5 tyX5 tyX5_ok nmX5 hown hK hP (hD _) hS 0 rfl rfl 10 (by decide) f_93 (fun _ h9 => h9) rfl (by decide +kernel) rfl rfl (Nat.le_of_ble_eq_true rfl) dX5_findParts_115 (fun H locs hP _ hS => ?_)
                    obtain ⟨u_16, eu_16⟩ : ∃ z : St, z = (upd u_13.1 10 y_15, u_13.2) := ⟨_, rfl⟩
                    have h := h u_16 eu_16
                    have hP : va_P (dC, dI) vwCl (wM m0 m1 m2 m3 m4 m5 m6 m7 m8 m9 cI cZ u_16) H := by rw [eu_16]; exact hP
                    obtain ⟨y_17, ey_17⟩ : ∃ z : Int32, z = v5_4 + (1 : Int32) := ⟨_, rfl⟩
                    have h := h y_17 ey_17
                    refine lv_iinc (v := y_17) (lv' := [(5, .int y_17), (0, .ref m0), (1, .int x1), (2, .int x2), (3, .int x3), (4, .int v4_2)]) hx hb dX5_findParts_118 hl (k := 5) rfl (by rw [ey_17]; rfl) (by decide) rfl (fun ls hl => ?_)
                    refine lv_goto (tgt := 18) hx hb dX5_findParts_121 (by decide) ?_
                    exact ih_18 _ _ h _ _ hP hS _ (lv_sub hl [1, 2, 3, 4, 5, 0] rfl)
                  refine lv_if_eq (tgt := 113) hx hb dX5_findParts_106 (by decide) (fun c_106 => ?_) (fun c_106 => ?_)
                  · have h := br1 h c_106
                    refine lv_iconst (v := 0) hx hb dX5_findParts_113 (by decide) ?_
                    exact hJ_114 _ h _ _ hP hS _ (lv_sub hl [0, 1, 2, 3, 4, 5] rfl)
                  · have h := br2 h c_106
                    refine lv_iconst (v := 1) hx hb dX5_findParts_109 (by decide) ?_
                    refine lv_goto (tgt := 114) hx hb dX5_findParts_110 (by decide) ?_
                    exact hJ_114 _ h _ _ hP hS _ (lv_sub hl [0, 1, 2, 3, 4, 5] rfl)
                refine lv_if_eq (tgt := 97) hx hb dX5_findParts_81 (by decide) (fun c_81 => ?_) (fun c_81 => ?_)
                · have h := br1 h c_81
                  refine lv_iconst (v := 0) hx hb dX5_findParts_97 (by decide) ?_
                  exact hJ_98 _ h _ _ hP hS _ (lv_sub hl [1, 2, 3, 4, 5, 6, 0] rfl)
                · have h := br2 h c_81
                  refine lv_bipush (v := 8) hx hb dX5_findParts_84 (by decide) ?_
                  refine lv_iload hx hb dX5_findParts_86 (lv_at hl 5 rfl) ?_
                  refine lv_imul hx hb dX5_findParts_88 ?_
                  refine lv_iload hx hb dX5_findParts_89 (lv_at hl 6 rfl) ?_
                  refine lv_iadd hx hb dX5_findParts_91 ?_
                  refine lv_iconst (v := 1) hx hb dX5_findParts_92 (by decide) ?_
                  refine lv_iadd hx hb dX5_findParts_93 ?_
                  refine lv_goto (tgt := 98) hx hb dX5_findParts_94 (by decide) ?_
                  exact hJ_98 _ h _ _ hP hS _ (lv_sub hl [1, 2, 3, 4, 5, 6, 0] rfl)
              obtain ⟨J_64, hJi_64, h⟩ := jnE1 h
              have hJ_64 : ∀ (u_9 : St), J_64 u_9 → ∀ (H : Heap) (locs : List Loc), va_P (dC, dI) vwCl (wM m0 m1 m2 m3 m4 m5 m6 m7 m8 m9 cI cZ u_9) H → va_S A s.heap H locs → ∀ (ls : Array Slot), lv_has ls 7 [(0, .ref m0), (1, .int x1), (2, .int x2), (3, .int x3), (4, .int v4_2), (5, .int v5_4)] → W p l e (headSpec wsX5_findParts ({ frames := 4, cells := 0, slots := 0, locals := 99 } : Room)).room s m ([.ref m0, .int x1, .int x2, .int x3] : List Value).toArray below meth c H locs 0 0 (MQ below (va_Qv post (fun (u2 : St) (t : State) => va_P (dC, dI) vwCl (wM m0 m1 m2 m3 m4 m5 m6 m7 m8 m9 cI cZ u2) t.heap) A) ([.ref m0, .int x1, .int x2, .int x3] : List Value).toArray s 0 0 A) (F0 m 64 ls []) := by
                intro u_9 h H locs hP hS ls hl
                have h := hJi_64 _ h
                refine lv_iconst (v := 0) hx hb dX5_findParts_64 (by decide) ?_
                exact hJ_65 _ _ h _ _ hP hS _ (lv_sub hl [0, 1, 2, 3, 4, 5] rfl)
              refine lv_icmp_ge (tgt := 64) hx hb dX5_findParts_34 (by decide) (fun c_34 => ?_) (fun c_34 => ?_)
              · have h := br1 h c_34
                exact hJ_64 _ h _ _ hP hS _ (lv_sub hl [0, 1, 2, 3, 4, 5] rfl)
              · have h := br2 h c_34
                refine lv_iload hx hb dX5_findParts_37 (lv_at hl 5 rfl) ?_
                refine lv_aload_n hx hb dX5_findParts_39 rfl (lv_at hl 0 rfl) ?_
                refine va_get (D := (dC, dI)) (ci := 3) (v := .int (u_5.1 2)) (C := RX5) (T := TX5) (N := 17) hx hb hts i_X5 hown hK hP 0 rfl rfl 2 (by decide) f_16 (fun _ h9 => h9) rfl dX5_findParts_40 ?_
                refine lv_icmp_ge (tgt := 64) hx hb dX5_findParts_43 (by decide) (fun c_43 => ?_) (fun c_43 => ?_)
                · have h := br1 h c_43
                  exact hJ_64 _ h _ _ hP hS _ (lv_sub hl [0, 1, 2, 3, 4, 5] rfl)
                · have h := br2 h c_43
                  refine lv_aload_n hx hb dX5_findParts_46 rfl (lv_at hl 0 rfl) ?_
                  refine lv_iload_n hx hb dX5_findParts_47 rfl (lv_at hl 1 rfl) ?_
                  refine lv_iload_n hx hb dX5_findParts_48 rfl (lv_at hl 2 rfl) ?_
                  refine lv_iload hx hb dX5_findParts_49 (lv_at hl 4 rfl) ?_
                  refine lv_iload hx hb dX5_findParts_51 (lv_at hl 5 rfl) ?_
                  refine lv_iload_n hx hb dX5_findParts_53 rfl (lv_at hl 3 rfl) ?_
                  have hFc := fr_all (ws := wM m0 m1 m2 m3 m4 m5 m6 m7 m8 m9 cI cZ u_5) (hD u_5) hS hA
                  refine va_calli (va_runV (As := [.int _, .int _, .int _, .int _, .int _]) (rest := []) ⟨hx, hb, hml, hown, hts⟩ (c_X5_isIn l dC dI m0 m1 m2 m3 m4 m5 m6 m7 m8 m9 cI cZ (H).size h) (cwV 5 hts gX5_findParts_X5_isIn rfl rfl rfl (by decide +kernel) ⟨Nat.le_of_ble_eq_true rfl, Nat.le_of_ble_eq_true rfl⟩) ⟨fbM, va_recv hK hP (ci := 3) (q0 := 0) rfl rfl, fun U hU hW => ⟨rfl, by rw [hU], by rw [hU]; exact hP, va_K.moved hW.alike hK, (hD u_5).weaken (fun _ _ _ _ => trivial)⟩⟩ rfl rfl hl.1 rfl (lv_room (Nat.le_of_ble_eq_true rfl)) dX5_findParts_54 ⟨Nat.zero_le _, Nat.zero_le _⟩) hS (fun q _ h => hFc q h) hFc (fun r_7 u_8 t H locs ht _ h hP1 _ hk1 hS => ?_)
                  have hP : va_P (dC, dI) vwCl (wM m0 m1 m2 m3 m4 m5 m6 m7 m8 m9 cI cZ u_8) H := by rw [← ht]; exact hP1
                  refine lv_if_eq (tgt := 64) hx hb dX5_findParts_57 (by decide) (fun c_57 => ?_) (fun c_57 => ?_)
                  · have h := br1 h c_57
                    exact hJ_64 _ h _ _ hP hS _ (lv_sub hl [0, 1, 2, 3, 4, 5] rfl)
                  · have h := br2 h c_57
                    refine lv_iconst (v := 1) hx hb dX5_findParts_60 (by decide) ?_
                    refine lv_goto (tgt := 65) hx hb dX5_findParts_61 (by decide) ?_
                    exact hJ_65 _ _ h _ _ hP hS _ (lv_sub hl [0, 1, 2, 3, 4, 5] rfl)
        exact loop_18 n _ _ h _ _ hP hS _ (lv_sub hl [1, 2, 3, 4, 5, 0] rfl)
  exact loop_8 n _ _ h _ _ hP hS _ (lv_sub hl [1, 2, 3, 4, 0] rfl)
set_option maxHeartbeats 4000000 in
set_option maxRecDepth 100000 in
theorem c_X5_looseOf (l : Launch) (dC : Nat → ClassId) (dI : Nat → Nat → Nat) (m0 m1 m2 m3 m4 m5 m6 m7 m8 m9 : Nat) (cI cZ : ClassId) (sz : Nat) {u : St} {x1 : Int32} {x2 : Int32} {post : Int32 → St → Prop} (h : P_X5_looseOf u x1 x2 post) : Met l yX5_looseOf wsX5_looseOf ({ frames := 5, cells := 0, slots := 0, locals := 125 } : Room) (MPre (dC, dI) vwCl (wM m0 m1 m2 m3 m4 m5 m6 m7 m8 m9 cI cZ u) [(cI, .int), (cZ, .boolean)] sz [.ref m0, .int x1, .int x2]) (va_Qi post (fun (u2 : St) (t : State) => va_P (dC, dI) vwCl (wM m0 m1 m2 m3 m4 m5 m6 m7 m8 m9 cI cZ u2) t.heap) (va_A (wM m0 m1 m2 m3 m4 m5 m6 m7 m8 m9 cI cZ u) sz)) 0 0 (va_A (wM m0 m1 m2 m3 m4 m5 m6 m7 m8 m9 cI cZ u) sz) := by
  refine Met.ofW (cc := cX5_looseOf) (maxL := 7) (ret := (some .int)) (by decide) rfl ?_
  intro p e s m args below meth c s₁ B hml hv
  obtain ⟨rfl, hsz, hP, hK, hD0⟩ := hv
  have hx := B.exec
  have hb := B.bytes
  have hr := B.returns
  have hts := atoms_spec (ws := wsX5_looseOf) B.pre
  have hown : s.vm.findClass RX5 = some m.cls := findClass_of_methodNamed B.named
  have hlocks := B.notSynchronized
  subst hsz
  have hD1 := hD0.self (sz := s.heap.size)
  generalize hAe : va_A (wM m0 m1 m2 m3 m4 m5 m6 m7 m8 m9 cI cZ u) s.heap.size = A at hD1 ⊢
  have hA : ∀ q : Nat, s.heap.size ≤ q → A q := fun q h => by rw [← hAe]; exact Or.inr h
  have hD : ∀ z, va_D A (wM m0 m1 m2 m3 m4 m5 m6 m7 m8 m9 cI cZ z) := fun z => va_Dsame hD1 rfl
  have hS : va_S A s.heap s.heap [] := va_S.rf
  have hl := lv_entry ([.ref m0, .int x1, .int x2]) (n := 7) (Nat.le_of_ble_eq_true rfl)
  rw [lg_entry_eq]
  generalize (lg_sl ([.ref m0, .int x1, .int x2]) ++ List.replicate (7 - (lg_sl ([.ref m0, .int x1, .int x2])).length) Slot.unset).toArray = ls at hl ⊢
  have hl : lv_has ls 7 [(0, .ref m0), (1, .int x1), (2, .int x2)] := hl
  have i_X5 : ∀ w ∈ u_ws RX5 TX5 17, w ∈ wsX5_looseOf := by decide +kernel
  have f_33 := hts (.fieldLink RX5 33 "SliceBodyModel" "part" "[I") (by decide +kernel)
  unfold P_X5_looseOf at h
  refine lv_aload_n hx hb dX5_looseOf_0 rfl (lv_at hl 0 rfl) ?_
  refine lv_iload_n hx hb dX5_looseOf_1 rfl (lv_at hl 1 rfl) ?_
  refine lv_iload_n hx hb dX5_looseOf_2 rfl (lv_at hl 2 rfl) ?_
  refine lv_iconst (v := 1) hx hb dX5_looseOf_3 (by decide) ?_
  have hFc := fr_all (ws := wM m0 m1 m2 m3 m4 m5 m6 m7 m8 m9 cI cZ u) (hD u) hS hA
  refine va_callv (va_runV (As := [.int _, .int _, .int _]) (rest := []) ⟨hx, hb, hml, hown, hts⟩ (c_X5_findParts l dC dI m0 m1 m2 m3 m4 m5 m6 m7 m8 m9 cI cZ (s.heap).size h) (cwV 3 hts gX5_looseOf_X5_findParts rfl rfl rfl (by decide +kernel) ⟨Nat.le_of_ble_eq_true rfl, Nat.le_of_ble_eq_true rfl⟩) ⟨fbM, va_recv hK hP (ci := 3) (q0 := 0) rfl rfl, fun U hU hW => ⟨rfl, by rw [hU], by rw [hU]; exact hP, va_K.moved hW.alike hK, (hD u).weaken (fun _ _ _ _ => trivial)⟩⟩ rfl rfl hl.1 rfl (lv_room (Nat.le_of_ble_eq_true rfl)) dX5_looseOf_4 ⟨Nat.zero_le _, Nat.zero_le _⟩) hS (fun q _ h => hFc q h) hFc (fun u_2 t H locs ht _ h hP1 _ hk1 hS => ?_)
  have hP : va_P (dC, dI) vwCl (wM m0 m1 m2 m3 m4 m5 m6 m7 m8 m9 cI cZ u_2) H := by rw [← ht]; exact hP1
  refine lv_iconst (v := 0) hx hb dX5_looseOf_7 (by decide) ?_
  refine lv_istore_n (lv' := [(3, .int (0 : Int32)), (0, .ref m0), (1, .int x1), (2, .int x2)]) hx hb dX5_looseOf_8 rfl hl (by decide) rfl (fun ls hl => ?_)
  refine lv_iconst (v := 0) hx hb dX5_looseOf_9 (by decide) ?_
  refine lv_istore (lv' := [(4, .int (0 : Int32)), (3, .int (0 : Int32)), (0, .ref m0), (1, .int x1), (2, .int x2)]) hx hb dX5_looseOf_10 hl (by decide) rfl (fun ls hl => ?_)
  obtain ⟨K_12, hKi_12, h⟩ := jnE1 h
  have hK_12 : ∀ (v3_16 : Int32), K_12 v3_16 → ∀ (H : Heap) (locs : List Loc), va_P (dC, dI) vwCl (wM m0 m1 m2 m3 m4 m5 m6 m7 m8 m9 cI cZ u_2) H → va_S A s.heap H locs → ∀ (ls : Array Slot), lv_has ls 7 [(3, .int v3_16)] → W p l e (headSpec wsX5_looseOf ({ frames := 5, cells := 0, slots := 0, locals := 125 } : Room)).room s m ([.ref m0, .int x1, .int x2] : List Value).toArray below meth c H locs 0 0 (MQ below (va_Qi post (fun (u2 : St) (t : State) => va_P (dC, dI) vwCl (wM m0 m1 m2 m3 m4 m5 m6 m7 m8 m9 cI cZ u2) t.heap) A) ([.ref m0, .int x1, .int x2] : List Value).toArray s 0 0 A) (F0 m 121 ls []) := by
    intro v3_16 h H locs hP hS ls hl
    have h := hKi_12 _ h
    refine lv_iload_n hx hb dX5_looseOf_121 rfl (lv_at hl 0 rfl) ?_
    exact W.iret hx hb hr (fun t ht _ => ⟨⟨_, u_2, rfl, h, hPr ht hP⟩, hS.F ht⟩) hS.2.2 dX5_looseOf_122
  obtain ⟨n, h⟩ := h
  have loop_12 : ∀ (n : Nat) (v3_3 : Int32) (v4_4 : Int32), L_X5_looseOf_12 post K_12 x1 x2 u_2 n v3_3 v4_4 → ∀ (H : Heap) (locs : List Loc), va_P (dC, dI) vwCl (wM m0 m1 m2 m3 m4 m5 m6 m7 m8 m9 cI cZ u_2) H → va_S A s.heap H locs → ∀ (ls : Array Slot), lv_has ls 7 [(0, .ref m0), (1, .int x1), (2, .int x2), (3, .int v3_3), (4, .int v4_4)] → W p l e (headSpec wsX5_looseOf ({ frames := 5, cells := 0, slots := 0, locals := 125 } : Room)).room s m ([.ref m0, .int x1, .int x2] : List Value).toArray below meth c H locs 0 0 (MQ below (va_Qi post (fun (u2 : St) (t : State) => va_P (dC, dI) vwCl (wM m0 m1 m2 m3 m4 m5 m6 m7 m8 m9 cI cZ u2) t.heap) A) ([.ref m0, .int x1, .int x2] : List Value).toArray s 0 0 A) (F0 m 12 ls []) := by
    intro n
    induction n with
    | zero => intro v3_3 v4_4 h; rw [L_X5_looseOf_12] at h; exact h.elim
    | succ n ih_12 =>
      intro v3_3 v4_4 h H locs hP hS ls hl
      rw [L_X5_looseOf_12] at h
      refine lv_iload hx hb dX5_looseOf_12 (lv_at hl 4 rfl) ?_
      refine lv_bipush (v := 64) hx hb dX5_looseOf_14 (by decide) ?_
      refine lv_icmp_ge (tgt := 121) hx hb dX5_looseOf_16 (by decide) (fun c_16 => ?_) (fun c_16 => ?_)
      · have h := br1 h c_16
        exact hK_12 _ h _ _ hP hS _ (lv_sub hl [3] rfl)
      · have h := br2 h c_16
        refine lv_aload_n hx hb dX5_looseOf_19 rfl (lv_at hl 0 rfl) ?_
        refine va_get (D := (dC, dI)) (ci := 3) (v := .ref m5) (C := RX5) (T := TX5) (N := 17) hx hb hts i_X5 hown hK hP 0 rfl rfl 8 (by decide) f_33 (fun _ h9 => h9) rfl dX5_looseOf_20 ?_
        refine lv_iload hx hb dX5_looseOf_23 (lv_at hl 4 rfl) ?_
        obtain ⟨hi, h⟩ := h
        refine va_iald hx hb hK hP 5 0 rfl rfl hi dX5_looseOf_25 ?_
        refine lv_iload hx hb dX5_looseOf_26 (lv_at hl 4 rfl) ?_
        refine lv_iconst (v := 1) hx hb dX5_looseOf_28 (by decide) ?_
        refine lv_iadd hx hb dX5_looseOf_29 ?_
        obtain ⟨J_115, hJi_115, h⟩ := jnE1 h
        have hJ_115 : ∀ (v3_14 : Int32), J_115 v3_14 → ∀ (H : Heap) (locs : List Loc), va_P (dC, dI) vwCl (wM m0 m1 m2 m3 m4 m5 m6 m7 m8 m9 cI cZ u_2) H → va_S A s.heap H locs → ∀ (ls : Array Slot), lv_has ls 7 [(0, .ref m0), (1, .int x1), (2, .int x2), (3, .int v3_14), (4, .int v4_4)] → W p l e (headSpec wsX5_looseOf ({ frames := 5, cells := 0, slots := 0, locals := 125 } : Room)).room s m ([.ref m0, .int x1, .int x2] : List Value).toArray below meth c H locs 0 0 (MQ below (va_Qi post (fun (u2 : St) (t : State) => va_P (dC, dI) vwCl (wM m0 m1 m2 m3 m4 m5 m6 m7 m8 m9 cI cZ u2) t.heap) A) ([.ref m0, .int x1, .int x2] : List Value).toArray s 0 0 A) (F0 m 115 ls []) := by
          intro v3_14 h H locs hP hS ls hl
          have h := hJi_115 _ h
          obtain ⟨y_15, ey_15⟩ : ∃ z : Int32, z = v4_4 + (1 : Int32) := ⟨_, rfl⟩
          have h := h y_15 ey_15
          refine lv_iinc (v := y_15) (lv' := [(4, .int y_15), (0, .ref m0), (1, .int x1), (2, .int x2), (3, .int v3_14)]) hx hb dX5_looseOf_115 hl (k := 4) rfl (by rw [ey_15]; rfl) (by decide) rfl (fun ls hl => ?_)
          refine lv_goto (tgt := 12) hx hb dX5_looseOf_118 (by decide) ?_
          exact ih_12 _ _ h _ _ hP hS _ (lv_sub hl [1, 2, 3, 4, 0] rfl)
        refine lv_icmp_ne (tgt := 115) hx hb dX5_looseOf_30 (by decide) (fun c_30 => ?_) (fun c_30 => ?_)
        · have h := br2 h c_30
          exact hJ_115 _ h _ _ hP hS _ (lv_sub hl [0, 1, 2, 3, 4] rfl)
        · have h := br1 h c_30
          refine lv_iconst (v := 0) hx hb dX5_looseOf_33 (by decide) ?_
          refine lv_istore (lv' := [(5, .int (0 : Int32)), (0, .ref m0), (1, .int x1), (2, .int x2), (3, .int v3_3), (4, .int v4_4)]) hx hb dX5_looseOf_34 hl (by decide) rfl (fun ls hl => ?_)
          refine lv_iconst (v := 0) hx hb dX5_looseOf_36 (by decide) ?_
          refine lv_istore (lv' := [(6, .int (0 : Int32)), (5, .int (0 : Int32)), (0, .ref m0), (1, .int x1), (2, .int x2), (3, .int v3_3), (4, .int v4_4)]) hx hb dX5_looseOf_37 hl (by decide) rfl (fun ls hl => ?_)
          obtain ⟨K_39, hKi_39, h⟩ := jnE1 h
          have hK_39 : ∀ (v5_11 : Int32), K_39 v5_11 → ∀ (H : Heap) (locs : List Loc), va_P (dC, dI) vwCl (wM m0 m1 m2 m3 m4 m5 m6 m7 m8 m9 cI cZ u_2) H → va_S A s.heap H locs → ∀ (ls : Array Slot), lv_has ls 7 [(0, .ref m0), (1, .int x1), (2, .int x2), (3, .int v3_3), (4, .int v4_4), (5, .int v5_11)] → W p l e (headSpec wsX5_looseOf ({ frames := 5, cells := 0, slots := 0, locals := 125 } : Room)).room s m ([.ref m0, .int x1, .int x2] : List Value).toArray below meth c H locs 0 0 (MQ below (va_Qi post (fun (u2 : St) (t : State) => va_P (dC, dI) vwCl (wM m0 m1 m2 m3 m4 m5 m6 m7 m8 m9 cI cZ u2) t.heap) A) ([.ref m0, .int x1, .int x2] : List Value).toArray s 0 0 A) (F0 m 102 ls []) := by
            intro v5_11 h H locs hP hS ls hl
            have h := hKi_39 _ h
            refine lv_iload_n hx hb dX5_looseOf_102 rfl (lv_at hl 3 rfl) ?_
            refine lv_iload hx hb dX5_looseOf_103 (lv_at hl 5 rfl) ?_
            obtain ⟨J_113, hJi_113, h⟩ := jnE1 h
            have hJ_113 : ∀ (w_12 : Int32), J_113 w_12 → ∀ (H : Heap) (locs : List Loc), va_P (dC, dI) vwCl (wM m0 m1 m2 m3 m4 m5 m6 m7 m8 m9 cI cZ u_2) H → va_S A s.heap H locs → ∀ (ls : Array Slot), lv_has ls 7 [(0, .ref m0), (1, .int x1), (2, .int x2), (4, .int v4_4)] → W p l e (headSpec wsX5_looseOf ({ frames := 5, cells := 0, slots := 0, locals := 125 } : Room)).room s m ([.ref m0, .int x1, .int x2] : List Value).toArray below meth c H locs 0 0 (MQ below (va_Qi post (fun (u2 : St) (t : State) => va_P (dC, dI) vwCl (wM m0 m1 m2 m3 m4 m5 m6 m7 m8 m9 cI cZ u2) t.heap) A) ([.ref m0, .int x1, .int x2] : List Value).toArray s 0 0 A) (F0 m 113 ls [.int w_12, .int v3_3]) := by
              intro w_12 h H locs hP hS ls hl
              have h := hJi_113 _ h
              refine lv_iadd hx hb dX5_looseOf_113 ?_
              refine lv_topi (fun y_13 ey_13 => ?_)
              have h := h y_13 ey_13
              refine lv_istore_n (lv' := [(3, .int y_13), (0, .ref m0), (1, .int x1), (2, .int x2), (4, .int v4_4)]) hx hb dX5_looseOf_114 rfl hl (by decide) rfl (fun ls hl => ?_)
              exact hJ_115 _ h _ _ hP hS _ (lv_sub hl [1, 2, 3, 0, 4] rfl)
            refine lv_if_eq (tgt := 112) hx hb dX5_looseOf_105 (by decide) (fun c_105 => ?_) (fun c_105 => ?_)
            · have h := br1 h c_105
              refine lv_iconst (v := 1) hx hb dX5_looseOf_112 (by decide) ?_
              exact hJ_113 _ h _ _ hP hS _ (lv_sub hl [0, 1, 2, 4] rfl)
            · have h := br2 h c_105
              refine lv_iconst (v := 0) hx hb dX5_looseOf_108 (by decide) ?_
              refine lv_goto (tgt := 113) hx hb dX5_looseOf_109 (by decide) ?_
              exact hJ_113 _ h _ _ hP hS _ (lv_sub hl [0, 1, 2, 4] rfl)
          obtain ⟨n, h⟩ := h
          have loop_39 : ∀ (n : Nat) (v5_5 : Int32) (v6_6 : Int32), L_X5_looseOf_39 post K_39 x1 x2 u_2 v4_4 n v5_5 v6_6 → ∀ (H : Heap) (locs : List Loc), va_P (dC, dI) vwCl (wM m0 m1 m2 m3 m4 m5 m6 m7 m8 m9 cI cZ u_2) H → va_S A s.heap H locs → ∀ (ls : Array Slot), lv_has ls 7 [(0, .ref m0), (1, .int x1), (2, .int x2), (3, .int v3_3), (4, .int v4_4), (5, .int v5_5), (6, .int v6_6)] → W p l e (headSpec wsX5_looseOf ({ frames := 5, cells := 0, slots := 0, locals := 125 } : Room)).room s m ([.ref m0, .int x1, .int x2] : List Value).toArray below meth c H locs 0 0 (MQ below (va_Qi post (fun (u2 : St) (t : State) => va_P (dC, dI) vwCl (wM m0 m1 m2 m3 m4 m5 m6 m7 m8 m9 cI cZ u2) t.heap) A) ([.ref m0, .int x1, .int x2] : List Value).toArray s 0 0 A) (F0 m 39 ls []) := by
            intro n
            induction n with
            | zero => intro v5_5 v6_6 h; rw [L_X5_looseOf_39] at h; exact h.elim
            | succ n ih_39 =>
              intro v5_5 v6_6 h H locs hP hS ls hl
              rw [L_X5_looseOf_39] at h
              refine lv_iload hx hb dX5_looseOf_39 (lv_at hl 6 rfl) ?_
              refine lv_bipush (v := 64) hx hb dX5_looseOf_41 (by decide) ?_
              refine lv_icmp_ge (tgt := 102) hx hb dX5_looseOf_43 (by decide) (fun c_43 => ?_) (fun c_43 => ?_)
              · have h := br1 h c_43
                exact hK_39 _ h _ _ hP hS _ (lv_sub hl [0, 1, 2, 3, 4, 5] rfl)
              · have h := br2 h c_43
                refine lv_iload hx hb dX5_looseOf_46 (lv_at hl 5 rfl) ?_
                obtain ⟨J_94, hJi_94, h⟩ := jnE1 h
                have hJ_94 : ∀ (w_9 : Int32), J_94 w_9 → ∀ (H : Heap) (locs : List Loc), va_P (dC, dI) vwCl (wM m0 m1 m2 m3 m4 m5 m6 m7 m8 m9 cI cZ u_2) H → va_S A s.heap H locs → ∀ (ls : Array Slot), lv_has ls 7 [(0, .ref m0), (1, .int x1), (2, .int x2), (3, .int v3_3), (4, .int v4_4), (6, .int v6_6)] → W p l e (headSpec wsX5_looseOf ({ frames := 5, cells := 0, slots := 0, locals := 125 } : Room)).room s m ([.ref m0, .int x1, .int x2] : List Value).toArray below meth c H locs 0 0 (MQ below (va_Qi post (fun (u2 : St) (t : State) => va_P (dC, dI) vwCl (wM m0 m1 m2 m3 m4 m5 m6 m7 m8 m9 cI cZ u2) t.heap) A) ([.ref m0, .int x1, .int x2] : List Value).toArray s 0 0 A) (F0 m 94 ls [.int w_9]) := by
                  intro w_9 h H locs hP hS ls hl
                  have h := hJi_94 _ h
                  refine lv_istore (lv' := [(5, .int w_9), (0, .ref m0), (1, .int x1), (2, .int x2), (3, .int v3_3), (4, .int v4_4), (6, .int v6_6)]) hx hb dX5_looseOf_94 hl (by decide) rfl (fun ls hl => ?_)
                  obtain ⟨y_10, ey_10⟩ : ∃ z : Int32, z = v6_6 + (1 : Int32) := ⟨_, rfl⟩
                  have h := h y_10 ey_10
                  refine lv_iinc (v := y_10) (lv' := [(6, .int y_10), (5, .int w_9), (0, .ref m0), (1, .int x1), (2, .int x2), (3, .int v3_3), (4, .int v4_4)]) hx hb dX5_looseOf_96 hl (k := 6) rfl (by rw [ey_10]; rfl) (by decide) rfl (fun ls hl => ?_)
                  refine lv_goto (tgt := 39) hx hb dX5_looseOf_99 (by decide) ?_
                  exact ih_39 _ _ h _ _ hP hS _ (lv_sub hl [2, 3, 4, 5, 6, 1, 0] rfl)
                obtain ⟨J_89, hJi_89, h⟩ := jnE0 h
                have hJ_89 : J_89 → ∀ (H : Heap) (locs : List Loc), va_P (dC, dI) vwCl (wM m0 m1 m2 m3 m4 m5 m6 m7 m8 m9 cI cZ u_2) H → va_S A s.heap H locs → ∀ (ls : Array Slot), lv_has ls 7 [(0, .ref m0), (1, .int x1), (2, .int x2), (3, .int v3_3), (4, .int v4_4), (6, .int v6_6)] → W p l e (headSpec wsX5_looseOf ({ frames := 5, cells := 0, slots := 0, locals := 125 } : Room)).room s m ([.ref m0, .int x1, .int x2] : List Value).toArray below meth c H locs 0 0 (MQ below (va_Qi post (fun (u2 : St) (t : State) => va_P (dC, dI) vwCl (wM m0 m1 m2 m3 m4 m5 m6 m7 m8 m9 cI cZ u2) t.heap) A) ([.ref m0, .int x1, .int x2] : List Value).toArray s 0 0 A) (F0 m 89 ls []) := by
                  intro  h H locs hP hS ls hl
                  have h := hJi_89 h
                  refine lv_iconst (v := 1) hx hb dX5_looseOf_89 (by decide) ?_
                  refine lv_goto (tgt := 94) hx hb dX5_looseOf_90 (by decide) ?_
                  exact hJ_94 _ h _ _ hP hS _ (lv_sub hl [0, 1, 2, 3, 4, 5] rfl)
                refine lv_if_ne (tgt := 89) hx hb dX5_looseOf_48 (by decide) (fun c_48 => ?_) (fun c_48 => ?_)
                · have h := br2 h c_48
                  exact hJ_89 h _ _ hP hS _ (lv_sub hl [0, 1, 2, 3, 4, 6] rfl)
                · have h := br1 h c_48
                  refine lv_aload_n hx hb dX5_looseOf_51 rfl (lv_at hl 0 rfl) ?_
                  refine va_get (D := (dC, dI)) (ci := 3) (v := .ref m5) (C := RX5) (T := TX5) (N := 17) hx hb hts i_X5 hown hK hP 0 rfl rfl 8 (by decide) f_33 (fun _ h9 => h9) rfl dX5_looseOf_52 ?_
                  refine lv_iload hx hb dX5_looseOf_55 (lv_at hl 6 rfl) ?_
                  obtain ⟨hi, h⟩ := h
                  refine va_iald hx hb hK hP 5 0 rfl rfl hi dX5_looseOf_57 ?_
                  refine lv_iload hx hb dX5_looseOf_58 (lv_at hl 4 rfl) ?_
                  refine lv_iconst (v := 1) hx hb dX5_looseOf_60 (by decide) ?_
                  refine lv_iadd hx hb dX5_looseOf_61 ?_
                  obtain ⟨J_93, hJi_93, h⟩ := jnE0 h
                  have hJ_93 : J_93 → ∀ (H : Heap) (locs : List Loc), va_P (dC, dI) vwCl (wM m0 m1 m2 m3 m4 m5 m6 m7 m8 m9 cI cZ u_2) H → va_S A s.heap H locs → ∀ (ls : Array Slot), lv_has ls 7 [(0, .ref m0), (1, .int x1), (2, .int x2), (3, .int v3_3), (4, .int v4_4), (6, .int v6_6)] → W p l e (headSpec wsX5_looseOf ({ frames := 5, cells := 0, slots := 0, locals := 125 } : Room)).room s m ([.ref m0, .int x1, .int x2] : List Value).toArray below meth c H locs 0 0 (MQ below (va_Qi post (fun (u2 : St) (t : State) => va_P (dC, dI) vwCl (wM m0 m1 m2 m3 m4 m5 m6 m7 m8 m9 cI cZ u2) t.heap) A) ([.ref m0, .int x1, .int x2] : List Value).toArray s 0 0 A) (F0 m 93 ls []) := by
                    intro  h H locs hP hS ls hl
                    have h := hJi_93 h
                    refine lv_iconst (v := 0) hx hb dX5_looseOf_93 (by decide) ?_
                    exact hJ_94 _ h _ _ hP hS _ (lv_sub hl [0, 1, 2, 3, 4, 5] rfl)
                  refine lv_icmp_ne (tgt := 93) hx hb dX5_looseOf_62 (by decide) (fun c_62 => ?_) (fun c_62 => ?_)
                  · have h := br2 h c_62
                    exact hJ_93 h _ _ hP hS _ (lv_sub hl [0, 1, 2, 3, 4, 6] rfl)
                  · have h := br1 h c_62
                    refine lv_aload_n hx hb dX5_looseOf_65 rfl (lv_at hl 0 rfl) ?_
                    refine lv_iload_n hx hb dX5_looseOf_66 rfl (lv_at hl 1 rfl) ?_
                    refine lv_iload_n hx hb dX5_looseOf_67 rfl (lv_at hl 2 rfl) ?_
                    refine vp_callSi (W.runV (As := [.int _, .int _]) (rest := []) ⟨hx, hb, hml, hown, hts⟩ (c_X5_isChosen l dC dI m0 m1 m2 m3 m4 m5 m6 m7 m8 m9 cI cZ h) (cwV 2 hts gX5_looseOf_X5_isChosen rfl rfl rfl (by decide +kernel) ⟨Nat.le_of_ble_eq_true rfl, Nat.le_of_ble_eq_true rfl⟩) ⟨fbR, va_recv hK hP (ci := 3) (q0 := 0) rfl rfl, fun U hU hW => ⟨rfl, by rw [hU]; exact hP, va_K.moved hW.alike hK⟩⟩ rfl rfl hl.1 rfl (lv_room (Nat.le_of_ble_eq_true rfl)) dX5_looseOf_68 ⟨Nat.zero_le _, Nat.zero_le _⟩) (fun r_7 h => ?_)
                    refine lv_if_eq (tgt := 93) hx hb dX5_looseOf_71 (by decide) (fun c_71 => ?_) (fun c_71 => ?_)
                    · have h := br1 h c_71
                      exact hJ_93 h _ _ hP hS _ (lv_sub hl [0, 1, 2, 3, 4, 6] rfl)
                    · have h := br2 h c_71
                      refine lv_aload_n hx hb dX5_looseOf_74 rfl (lv_at hl 0 rfl) ?_
                      refine lv_iconst (v := 1) hx hb dX5_looseOf_75 (by decide) ?_
                      refine lv_iload_n hx hb dX5_looseOf_76 rfl (lv_at hl 1 rfl) ?_
                      refine lv_isub hx hb dX5_looseOf_77 ?_
                      refine lv_iload hx hb dX5_looseOf_78 (lv_at hl 6 rfl) ?_
                      refine lv_bipush (v := 8) hx hb dX5_looseOf_80 (by decide) ?_
                      refine lv_idiv hx hb dX5_looseOf_82 (by decide) ?_
                      refine vp_callSi (W.runV (As := [.int _, .int _]) (rest := []) ⟨hx, hb, hml, hown, hts⟩ (c_X5_isChosen l dC dI m0 m1 m2 m3 m4 m5 m6 m7 m8 m9 cI cZ h) (cwV 2 hts gX5_looseOf_X5_isChosen rfl rfl rfl (by decide +kernel) ⟨Nat.le_of_ble_eq_true rfl, Nat.le_of_ble_eq_true rfl⟩) ⟨fbR, va_recv hK hP (ci := 3) (q0 := 0) rfl rfl, fun U hU hW => ⟨rfl, by rw [hU]; exact hP, va_K.moved hW.alike hK⟩⟩ rfl rfl hl.1 rfl (lv_room (Nat.le_of_ble_eq_true rfl)) dX5_looseOf_83 ⟨Nat.zero_le _, Nat.zero_le _⟩) (fun r_8 h => ?_)
                      refine lv_if_eq (tgt := 93) hx hb dX5_looseOf_86 (by decide) (fun c_86 => ?_) (fun c_86 => ?_)
                      · have h := br1 h c_86
                        exact hJ_93 h _ _ hP hS _ (lv_sub hl [0, 1, 2, 3, 4, 6] rfl)
                      · have h := br2 h c_86
                        exact hJ_89 h _ _ hP hS _ (lv_sub hl [0, 1, 2, 3, 4, 6] rfl)
          exact loop_39 n _ _ h _ _ hP hS _ (lv_sub hl [2, 3, 4, 5, 6, 1, 0] rfl)
  exact loop_12 n _ _ h _ _ hP hS _ (lv_sub hl [2, 3, 4, 1, 0] rfl)
set_option maxHeartbeats 4000000 in
set_option maxRecDepth 100000 in
theorem c_X5_crossings (l : Launch) (dC : Nat → ClassId) (dI : Nat → Nat → Nat) (m0 m1 m2 m3 m4 m5 m6 m7 m8 m9 : Nat) (cI cZ : ClassId) (sz : Nat) {u : St} {x1 : Int32} {x2 : Int32} {x3 : Int32} {post : Int32 → St → Prop} (h : P_X5_crossings u x1 x2 x3 post) : Met l yX5_crossings wsX5_crossings ({ frames := 2, cells := 0, slots := 0, locals := 47 } : Room) (MPre (dC, dI) vwCl (wM m0 m1 m2 m3 m4 m5 m6 m7 m8 m9 cI cZ u) [(cI, .int), (cZ, .boolean)] sz [.ref m0, .int x1, .int x2, .int x3]) (va_Qi post (fun (u2 : St) (t : State) => va_P (dC, dI) vwCl (wM m0 m1 m2 m3 m4 m5 m6 m7 m8 m9 cI cZ u2) t.heap) (va_A (wM m0 m1 m2 m3 m4 m5 m6 m7 m8 m9 cI cZ u) sz)) 0 0 (va_A (wM m0 m1 m2 m3 m4 m5 m6 m7 m8 m9 cI cZ u) sz) := by
  refine Met.ofW (cc := cX5_crossings) (maxL := 7) (ret := (some .int)) (by decide) rfl ?_
  intro p e s m args below meth c s₁ B hml hv
  obtain ⟨rfl, hsz, hP, hK, hD0⟩ := hv
  have hx := B.exec
  have hb := B.bytes
  have hr := B.returns
  have hts := atoms_spec (ws := wsX5_crossings) B.pre
  have hown : s.vm.findClass RX5 = some m.cls := findClass_of_methodNamed B.named
  have hlocks := B.notSynchronized
  subst hsz
  have hD1 := hD0.self (sz := s.heap.size)
  generalize hAe : va_A (wM m0 m1 m2 m3 m4 m5 m6 m7 m8 m9 cI cZ u) s.heap.size = A at hD1 ⊢
  have hA : ∀ q : Nat, s.heap.size ≤ q → A q := fun q h => by rw [← hAe]; exact Or.inr h
  have hD : ∀ z, va_D A (wM m0 m1 m2 m3 m4 m5 m6 m7 m8 m9 cI cZ z) := fun z => va_Dsame hD1 rfl
  have hS : va_S A s.heap s.heap [] := va_S.rf
  have hl := lv_entry ([.ref m0, .int x1, .int x2, .int x3]) (n := 7) (Nat.le_of_ble_eq_true rfl)
  rw [lg_entry_eq]
  generalize (lg_sl ([.ref m0, .int x1, .int x2, .int x3]) ++ List.replicate (7 - (lg_sl ([.ref m0, .int x1, .int x2, .int x3])).length) Slot.unset).toArray = ls at hl ⊢
  have hl : lv_has ls 7 [(0, .ref m0), (1, .int x1), (2, .int x2), (3, .int x3)] := hl
  unfold P_X5_crossings at h
  refine lv_iconst (v := 0) hx hb dX5_crossings_0 (by decide) ?_
  refine lv_istore (lv' := [(4, .int (0 : Int32)), (0, .ref m0), (1, .int x1), (2, .int x2), (3, .int x3)]) hx hb dX5_crossings_1 hl (by decide) rfl (fun ls hl => ?_)
  refine lv_iconst (v := 0) hx hb dX5_crossings_3 (by decide) ?_
  refine lv_istore (lv' := [(5, .int (0 : Int32)), (4, .int (0 : Int32)), (0, .ref m0), (1, .int x1), (2, .int x2), (3, .int x3)]) hx hb dX5_crossings_4 hl (by decide) rfl (fun ls hl => ?_)
  obtain ⟨K_6, hKi_6, h⟩ := jnE2 h
  have hK_6 : ∀ (v4_18 : Int32) (u_19 : St), K_6 v4_18 u_19 → ∀ (H : Heap) (locs : List Loc), va_P (dC, dI) vwCl (wM m0 m1 m2 m3 m4 m5 m6 m7 m8 m9 cI cZ u_19) H → va_S A s.heap H locs → ∀ (ls : Array Slot), lv_has ls 7 [(4, .int v4_18)] → W p l e (headSpec wsX5_crossings ({ frames := 2, cells := 0, slots := 0, locals := 47 } : Room)).room s m ([.ref m0, .int x1, .int x2, .int x3] : List Value).toArray below meth c H locs 0 0 (MQ below (va_Qi post (fun (u2 : St) (t : State) => va_P (dC, dI) vwCl (wM m0 m1 m2 m3 m4 m5 m6 m7 m8 m9 cI cZ u2) t.heap) A) ([.ref m0, .int x1, .int x2, .int x3] : List Value).toArray s 0 0 A) (F0 m 92 ls []) := by
    intro v4_18 u_19 h H locs hP hS ls hl
    have h := hKi_6 _ _ h
    refine lv_iload hx hb dX5_crossings_92 (lv_at hl 0 rfl) ?_
    exact W.iret hx hb hr (fun t ht _ => ⟨⟨_, u_19, rfl, h, hPr ht hP⟩, hS.F ht⟩) hS.2.2 dX5_crossings_94
  obtain ⟨n, h⟩ := h
  have loop_6 : ∀ (n : Nat) (v4_1 : Int32) (v5_2 : Int32) (u_3 : St), L_X5_crossings_6 post K_6 x1 x2 x3 n v4_1 v5_2 u_3 → ∀ (H : Heap) (locs : List Loc), va_P (dC, dI) vwCl (wM m0 m1 m2 m3 m4 m5 m6 m7 m8 m9 cI cZ u_3) H → va_S A s.heap H locs → ∀ (ls : Array Slot), lv_has ls 7 [(0, .ref m0), (1, .int x1), (2, .int x2), (3, .int x3), (4, .int v4_1), (5, .int v5_2)] → W p l e (headSpec wsX5_crossings ({ frames := 2, cells := 0, slots := 0, locals := 47 } : Room)).room s m ([.ref m0, .int x1, .int x2, .int x3] : List Value).toArray below meth c H locs 0 0 (MQ below (va_Qi post (fun (u2 : St) (t : State) => va_P (dC, dI) vwCl (wM m0 m1 m2 m3 m4 m5 m6 m7 m8 m9 cI cZ u2) t.heap) A) ([.ref m0, .int x1, .int x2, .int x3] : List Value).toArray s 0 0 A) (F0 m 6 ls []) := by
    intro n
    induction n with
    | zero => intro v4_1 v5_2 u_3 h; rw [L_X5_crossings_6] at h; exact h.elim
    | succ n ih_6 =>
      intro v4_1 v5_2 u_3 h H locs hP hS ls hl
      rw [L_X5_crossings_6] at h
      refine lv_iload hx hb dX5_crossings_6 (lv_at hl 5 rfl) ?_
      refine lv_aload_n hx hb dX5_crossings_8 rfl (lv_at hl 0 rfl) ?_
      refine lv_iconst (v := 1) hx hb dX5_crossings_9 (by decide) ?_
      refine lv_iload_n hx hb dX5_crossings_10 rfl (lv_at hl 1 rfl) ?_
      refine lv_isub hx hb dX5_crossings_11 ?_
      refine vp_callSi (W.runV (As := [.int _]) (rest := [.int _]) ⟨hx, hb, hml, hown, hts⟩ (c_X5_places l dC dI m0 m1 m2 m3 m4 m5 m6 m7 m8 m9 cI cZ h) (cwV 1 hts gX5_crossings_X5_places rfl rfl rfl (by decide +kernel) ⟨Nat.le_of_ble_eq_true rfl, Nat.le_of_ble_eq_true rfl⟩) ⟨fbR, va_recv hK hP (ci := 3) (q0 := 0) rfl rfl, fun U hU hW => ⟨rfl, by rw [hU]; exact hP, va_K.moved hW.alike hK⟩⟩ rfl rfl hl.1 rfl (lv_room (Nat.le_of_ble_eq_true rfl)) dX5_crossings_12 ⟨Nat.zero_le _, Nat.zero_le _⟩) (fun r_4 h => ?_)
      refine lv_icmp_ge (tgt := 92) hx hb dX5_crossings_15 (by decide) (fun c_15 => ?_) (fun c_15 => ?_)
      · have h := br1 h c_15
        exact hK_6 _ _ h _ _ hP hS _ (lv_sub hl [4] rfl)
      · have h := br2 h c_15
        refine lv_aload_n hx hb dX5_crossings_18 rfl (lv_at hl 0 rfl) ?_
        refine lv_iload_n hx hb dX5_crossings_19 rfl (lv_at hl 1 rfl) ?_
        refine lv_iload_n hx hb dX5_crossings_20 rfl (lv_at hl 2 rfl) ?_
        refine vp_callSi (W.runV (As := [.int _, .int _]) (rest := []) ⟨hx, hb, hml, hown, hts⟩ (c_X5_isChosen l dC dI m0 m1 m2 m3 m4 m5 m6 m7 m8 m9 cI cZ h) (cwV 2 hts gX5_crossings_X5_isChosen rfl rfl rfl (by decide +kernel) ⟨Nat.le_of_ble_eq_true rfl, Nat.le_of_ble_eq_true rfl⟩) ⟨fbR, va_recv hK hP (ci := 3) (q0 := 0) rfl rfl, fun U hU hW => ⟨rfl, by rw [hU]; exact hP, va_K.moved hW.alike hK⟩⟩ rfl rfl hl.1 rfl (lv_room (Nat.le_of_ble_eq_true rfl)) dX5_crossings_21 ⟨Nat.zero_le _, Nat.zero_le _⟩) (fun r_5 h => ?_)
        refine lv_if_eq (tgt := 92) hx hb dX5_crossings_24 (by decide) (fun c_24 => ?_) (fun c_24 => ?_)
        · have h := br1 h c_24
          exact hK_6 _ _ h _ _ hP hS _ (lv_sub hl [4] rfl)
        · have h := br2 h c_24
          refine lv_aload_n hx hb dX5_crossings_27 rfl (lv_at hl 0 rfl) ?_
          refine lv_iconst (v := 1) hx hb dX5_crossings_28 (by decide) ?_
          refine lv_iload_n hx hb dX5_crossings_29 rfl (lv_at hl 1 rfl) ?_
          refine lv_isub hx hb dX5_crossings_30 ?_
          refine lv_iload hx hb dX5_crossings_31 (lv_at hl 5 rfl) ?_
          refine vp_callSi (W.runV (As := [.int _, .int _]) (rest := []) ⟨hx, hb, hml, hown, hts⟩ (c_X5_isChosen l dC dI m0 m1 m2 m3 m4 m5 m6 m7 m8 m9 cI cZ h) (cwV 2 hts gX5_crossings_X5_isChosen rfl rfl rfl (by decide +kernel) ⟨Nat.le_of_ble_eq_true rfl, Nat.le_of_ble_eq_true rfl⟩) ⟨fbR, va_recv hK hP (ci := 3) (q0 := 0) rfl rfl, fun U hU hW => ⟨rfl, by rw [hU]; exact hP, va_K.moved hW.alike hK⟩⟩ rfl rfl hl.1 rfl (lv_room (Nat.le_of_ble_eq_true rfl)) dX5_crossings_33 ⟨Nat.zero_le _, Nat.zero_le _⟩) (fun r_6 h => ?_)
          obtain ⟨J_86, hJi_86, h⟩ := jnE2 h
          have hJ_86 : ∀ (v4_15 : Int32) (u_16 : St), J_86 v4_15 u_16 → ∀ (H : Heap) (locs : List Loc), va_P (dC, dI) vwCl (wM m0 m1 m2 m3 m4 m5 m6 m7 m8 m9 cI cZ u_16) H → va_S A s.heap H locs → ∀ (ls : Array Slot), lv_has ls 7 [(0, .ref m0), (1, .int x1), (2, .int x2), (3, .int x3), (4, .int v4_15), (5, .int v5_2)] → W p l e (headSpec wsX5_crossings ({ frames := 2, cells := 0, slots := 0, locals := 47 } : Room)).room s m ([.ref m0, .int x1, .int x2, .int x3] : List Value).toArray below meth c H locs 0 0 (MQ below (va_Qi post (fun (u2 : St) (t : State) => va_P (dC, dI) vwCl (wM m0 m1 m2 m3 m4 m5 m6 m7 m8 m9 cI cZ u2) t.heap) A) ([.ref m0, .int x1, .int x2, .int x3] : List Value).toArray s 0 0 A) (F0 m 86 ls []) := by
            intro v4_15 u_16 h H locs hP hS ls hl
            have h := hJi_86 _ _ h
            obtain ⟨y_17, ey_17⟩ : ∃ z : Int32, z = v5_2 + (1 : Int32) := ⟨_, rfl⟩
            have h := h y_17 ey_17
            refine lv_iinc (v := y_17) (lv' := [(5, .int y_17), (0, .ref m0), (1, .int x1), (2, .int x2), (3, .int x3), (4, .int v4_15)]) hx hb dX5_crossings_86 hl (k := 5) rfl (by rw [ey_17]; rfl) (by decide) rfl (fun ls hl => ?_)
            refine lv_goto (tgt := 6) hx hb dX5_crossings_89 (by decide) ?_
            exact ih_6 _ _ _ h _ _ hP hS _ (lv_sub hl [1, 2, 3, 4, 5, 0] rfl)
          refine lv_if_eq (tgt := 86) hx hb dX5_crossings_36 (by decide) (fun c_36 => ?_) (fun c_36 => ?_)
          · have h := br1 h c_36
            exact hJ_86 _ _ h _ _ hP hS _ (lv_sub hl [0, 1, 2, 3, 4, 5] rfl)
          · have h := br2 h c_36
            refine lv_iload_n hx hb dX5_crossings_39 rfl (lv_at hl 1 rfl) ?_
            obtain ⟨J_60, hJi_60, h⟩ := jnE2 h
            have hJ_60 : ∀ (w_11 : Int32) (u_12 : St), J_60 w_11 u_12 → ∀ (H : Heap) (locs : List Loc), va_P (dC, dI) vwCl (wM m0 m1 m2 m3 m4 m5 m6 m7 m8 m9 cI cZ u_12) H → va_S A s.heap H locs → ∀ (ls : Array Slot), lv_has ls 7 [(0, .ref m0), (1, .int x1), (2, .int x2), (3, .int x3), (4, .int v4_1), (5, .int v5_2)] → W p l e (headSpec wsX5_crossings ({ frames := 2, cells := 0, slots := 0, locals := 47 } : Room)).room s m ([.ref m0, .int x1, .int x2, .int x3] : List Value).toArray below meth c H locs 0 0 (MQ below (va_Qi post (fun (u2 : St) (t : State) => va_P (dC, dI) vwCl (wM m0 m1 m2 m3 m4 m5 m6 m7 m8 m9 cI cZ u2) t.heap) A) ([.ref m0, .int x1, .int x2, .int x3] : List Value).toArray s 0 0 A) (F0 m 60 ls [.int w_11]) := by
              intro w_11 u_12 h H locs hP hS ls hl
              have h := hJi_60 _ _ h
              refine lv_istore (lv' := [(6, .int w_11), (0, .ref m0), (1, .int x1), (2, .int x2), (3, .int x3), (4, .int v4_1), (5, .int v5_2)]) hx hb dX5_crossings_60 hl (by decide) rfl (fun ls hl => ?_)
              refine lv_iload hx hb dX5_crossings_62 (lv_at hl 5 rfl) ?_
              refine lv_iload_n hx hb dX5_crossings_64 rfl (lv_at hl 4 rfl) ?_
              obtain ⟨J_83, hJi_83, h⟩ := jnE1 h
              have hJ_83 : ∀ (w_13 : Int32), J_83 w_13 → ∀ (H : Heap) (locs : List Loc), va_P (dC, dI) vwCl (wM m0 m1 m2 m3 m4 m5 m6 m7 m8 m9 cI cZ u_12) H → va_S A s.heap H locs → ∀ (ls : Array Slot), lv_has ls 7 [(0, .ref m0), (1, .int x1), (2, .int x2), (3, .int x3), (5, .int v5_2)] → W p l e (headSpec wsX5_crossings ({ frames := 2, cells := 0, slots := 0, locals := 47 } : Room)).room s m ([.ref m0, .int x1, .int x2, .int x3] : List Value).toArray below meth c H locs 0 0 (MQ below (va_Qi post (fun (u2 : St) (t : State) => va_P (dC, dI) vwCl (wM m0 m1 m2 m3 m4 m5 m6 m7 m8 m9 cI cZ u2) t.heap) A) ([.ref m0, .int x1, .int x2, .int x3] : List Value).toArray s 0 0 A) (F0 m 83 ls [.int w_13, .int v4_1]) := by
                intro w_13 h H locs hP hS ls hl
                have h := hJi_83 _ h
                refine lv_iadd hx hb dX5_crossings_83 ?_
                refine lv_topi (fun y_14 ey_14 => ?_)
                have h := h y_14 ey_14
                refine lv_istore (lv' := [(4, .int y_14), (0, .ref m0), (1, .int x1), (2, .int x2), (3, .int x3), (5, .int v5_2)]) hx hb dX5_crossings_84 hl (by decide) rfl (fun ls hl => ?_)
                exact hJ_86 _ _ h _ _ hP hS _ (lv_sub hl [1, 2, 3, 4, 0, 5] rfl)
              refine lv_if_eq (tgt := 73) hx hb dX5_crossings_65 (by decide) (fun c_65 => ?_) (fun c_65 => ?_)
              · have h := br1 h c_65
                refine lv_iload hx hb dX5_crossings_73 (lv_at hl 0 rfl) ?_
                refine lv_if_le (tgt := 82) hx hb dX5_crossings_75 (by decide) (fun c_75 => ?_) (fun c_75 => ?_)
                · have h := br1 h c_75
                  refine lv_iconst (v := 0) hx hb dX5_crossings_82 (by decide) ?_
                  exact hJ_83 _ h _ _ hP hS _ (lv_sub hl [1, 2, 3, 4, 6] rfl)
                · have h := br2 h c_75
                  refine lv_iconst (v := 1) hx hb dX5_crossings_78 (by decide) ?_
                  refine lv_goto (tgt := 83) hx hb dX5_crossings_79 (by decide) ?_
                  exact hJ_83 _ h _ _ hP hS _ (lv_sub hl [1, 2, 3, 4, 6] rfl)
              · have h := br2 h c_65
                refine lv_iload hx hb dX5_crossings_68 (lv_at hl 0 rfl) ?_
                refine lv_goto (tgt := 83) hx hb dX5_crossings_70 (by decide) ?_
                exact hJ_83 _ h _ _ hP hS _ (lv_sub hl [1, 2, 3, 4, 6] rfl)
            refine lv_if_ne (tgt := 53) hx hb dX5_crossings_40 (by decide) (fun c_40 => ?_) (fun c_40 => ?_)
            · have h := br2 h c_40
              refine lv_aload_n hx hb dX5_crossings_53 rfl (lv_at hl 0 rfl) ?_
              refine lv_iload hx hb dX5_crossings_54 (lv_at hl 5 rfl) ?_
              refine lv_iload_n hx hb dX5_crossings_56 rfl (lv_at hl 2 rfl) ?_
              have hFc := fr_all (ws := wM m0 m1 m2 m3 m4 m5 m6 m7 m8 m9 cI cZ u_3) (hD u_3) hS hA
              refine va_calli (va_runV (As := [.int _, .int _]) (rest := []) ⟨hx, hb, hml, hown, hts⟩ (c_X5_findRuns l dC dI m0 m1 m2 m3 m4 m5 m6 m7 m8 m9 cI cZ (H).size h) (cwV 2 hts gX5_crossings_X5_findRuns rfl rfl rfl (by decide +kernel) ⟨Nat.le_of_ble_eq_true rfl, Nat.le_of_ble_eq_true rfl⟩) ⟨fbM, va_recv hK hP (ci := 3) (q0 := 0) rfl rfl, fun U hU hW => ⟨rfl, by rw [hU], by rw [hU]; exact hP, va_K.moved hW.alike hK, (hD u_3).weaken (fun _ _ _ _ => trivial)⟩⟩ rfl rfl hl.1 rfl (lv_room (Nat.le_of_ble_eq_true rfl)) dX5_crossings_57 ⟨Nat.zero_le _, Nat.zero_le _⟩) hS (fun q _ h => hFc q h) hFc (fun r_7 u_8 t H locs ht _ h hP1 _ hk1 hS => ?_)
              have hP : va_P (dC, dI) vwCl (wM m0 m1 m2 m3 m4 m5 m6 m7 m8 m9 cI cZ u_8) H := by rw [← ht]; exact hP1
              exact hJ_60 _ _ h _ _ hP hS _ (lv_sub hl [0, 1, 2, 3, 4, 5] rfl)
            · have h := br1 h c_40
              refine lv_aload_n hx hb dX5_crossings_43 rfl (lv_at hl 0 rfl) ?_
              refine lv_iload_n hx hb dX5_crossings_44 rfl (lv_at hl 2 rfl) ?_
              refine lv_iload hx hb dX5_crossings_45 (lv_at hl 5 rfl) ?_
              have hFc := fr_all (ws := wM m0 m1 m2 m3 m4 m5 m6 m7 m8 m9 cI cZ u_3) (hD u_3) hS hA
              refine va_calli (va_runV (As := [.int _, .int _]) (rest := []) ⟨hx, hb, hml, hown, hts⟩ (c_X5_findRuns l dC dI m0 m1 m2 m3 m4 m5 m6 m7 m8 m9 cI cZ (H).size h) (cwV 2 hts gX5_crossings_X5_findRuns rfl rfl rfl (by decide +kernel) ⟨Nat.le_of_ble_eq_true rfl, Nat.le_of_ble_eq_true rfl⟩) ⟨fbM, va_recv hK hP (ci := 3) (q0 := 0) rfl rfl, fun U hU hW => ⟨rfl, by rw [hU], by rw [hU]; exact hP, va_K.moved hW.alike hK, (hD u_3).weaken (fun _ _ _ _ => trivial)⟩⟩ rfl rfl hl.1 rfl (lv_room (Nat.le_of_ble_eq_true rfl)) dX5_crossings_47 ⟨Nat.zero_le _, Nat.zero_le _⟩) hS (fun q _ h => hFc q h) hFc (fun r_9 u_10 t H locs ht _ h hP1 _ hk1 hS => ?_)
              have hP : va_P (dC, dI) vwCl (wM m0 m1 m2 m3 m4 m5 m6 m7 m8 m9 cI cZ u_10) H := by rw [← ht]; exact hP1
              refine lv_goto (tgt := 60) hx hb dX5_crossings_50 (by decide) ?_
              exact hJ_60 _ _ h _ _ hP hS _ (lv_sub hl [0, 1, 2, 3, 4, 5] rfl)
  exact loop_6 n _ _ _ h _ _ hP hS _ (lv_sub hl [2, 3, 4, 5, 1, 0] rfl)
set_option maxHeartbeats 4000000 in
set_option maxRecDepth 100000 in
theorem c_X5_spanOf (l : Launch) (dC : Nat → ClassId) (dI : Nat → Nat → Nat) (m0 m1 m2 m3 m4 m5 m6 m7 m8 m9 : Nat) (cI cZ : ClassId) {u : St} {x1 : Int32} {x2 : Int32} {x3 : Int32} {post : Int32 → Prop} (h : P_X5_spanOf u x1 x2 x3 post) : Met l yX5_spanOf wsX5_spanOf ({ frames := 2, cells := 0, slots := 0, locals := 47 } : Room) (RPre (dC, dI) vwCl (wM m0 m1 m2 m3 m4 m5 m6 m7 m8 m9 cI cZ u) [(cI, .int), (cZ, .boolean)] [.ref m0, .int x1, .int x2, .int x3]) (vp_Si post) 0 0 (fun _ => False) := by
  refine Met.ofW (cc := cX5_spanOf) (maxL := 9) (ret := (some .int)) (by decide) rfl ?_
  intro p e s m args below meth c s₁ B hml hv
  obtain ⟨rfl, hP, hK⟩ := hv
  have hx := B.exec
  have hb := B.bytes
  have hr := B.returns
  have hts := atoms_spec (ws := wsX5_spanOf) B.pre
  have hown : s.vm.findClass RX5 = some m.cls := findClass_of_methodNamed B.named
  have hlocks := B.notSynchronized
  have hl := lv_entry ([.ref m0, .int x1, .int x2, .int x3]) (n := 9) (Nat.le_of_ble_eq_true rfl)
  rw [lg_entry_eq]
  generalize (lg_sl ([.ref m0, .int x1, .int x2, .int x3]) ++ List.replicate (9 - (lg_sl ([.ref m0, .int x1, .int x2, .int x3])).length) Slot.unset).toArray = ls at hl ⊢
  have hl : lv_has ls 9 [(0, .ref m0), (1, .int x1), (2, .int x2), (3, .int x3)] := hl
  have i_X5 : ∀ w ∈ u_ws RX5 TX5 17, w ∈ wsX5_spanOf := by decide +kernel
  have f_16 := hts (.fieldLink RX5 16 "SliceBodyModel" "wideZ" "I") (by decide +kernel)
  unfold P_X5_spanOf at h
  refine lv_bipush (v := 8) hx hb dX5_spanOf_0 (by decide) ?_
  refine lv_istore (lv' := [(4, .int (8 : Int32)), (0, .ref m0), (1, .int x1), (2, .int x2), (3, .int x3)]) hx hb dX5_spanOf_2 hl (by decide) rfl (fun ls hl => ?_)
  refine lv_iconst (v := (-1)) hx hb dX5_spanOf_4 (by decide) ?_
  refine lv_istore (lv' := [(5, .int (-1 : Int32)), (4, .int (8 : Int32)), (0, .ref m0), (1, .int x1), (2, .int x2), (3, .int x3)]) hx hb dX5_spanOf_5 hl (by decide) rfl (fun ls hl => ?_)
  refine lv_iconst (v := 0) hx hb dX5_spanOf_7 (by decide) ?_
  refine lv_istore (lv' := [(6, .int (0 : Int32)), (5, .int (-1 : Int32)), (4, .int (8 : Int32)), (0, .ref m0), (1, .int x1), (2, .int x2), (3, .int x3)]) hx hb dX5_spanOf_8 hl (by decide) rfl (fun ls hl => ?_)
  obtain ⟨K_10, hKi_10, h⟩ := jnE2 h
  have hK_10 : ∀ (v4_18 : Int32) (v5_19 : Int32), K_10 v4_18 v5_19 → ∀ (ls : Array Slot), lv_has ls 9 [(4, .int v4_18), (5, .int v5_19)] → W p l e (headSpec wsX5_spanOf ({ frames := 2, cells := 0, slots := 0, locals := 47 } : Room)).room s m ([.ref m0, .int x1, .int x2, .int x3] : List Value).toArray below meth c s.heap [] 0 0 (MQ below (vp_Si post) ([.ref m0, .int x1, .int x2, .int x3] : List Value).toArray s 0 0 (fun _ => False)) (F0 m 104 ls []) := by
    intro v4_18 v5_19 h ls hl
    have h := hKi_10 _ _ h
    refine lv_iload hx hb dX5_spanOf_104 (lv_at hl 1 rfl) ?_
    refine lv_if_ge (tgt := 113) hx hb dX5_spanOf_106 (by decide) (fun c_106 => ?_) (fun c_106 => ?_)
    · have h := br1 h c_106
      refine lv_iload hx hb dX5_spanOf_113 (lv_at hl 1 rfl) ?_
      refine lv_iload hx hb dX5_spanOf_115 (lv_at hl 0 rfl) ?_
      refine lv_isub hx hb dX5_spanOf_117 ?_
      refine lv_iconst (v := 1) hx hb dX5_spanOf_118 (by decide) ?_
      refine lv_iadd hx hb dX5_spanOf_119 ?_
      exact W.iret hx hb hr (fun t ht _ => ⟨_, rfl, h, ht⟩) (fun q hq => by cases hq) dX5_spanOf_120
    · have h := br2 h c_106
      refine lv_iconst (v := 0) hx hb dX5_spanOf_109 (by decide) ?_
      refine lv_goto (tgt := 120) hx hb dX5_spanOf_110 (by decide) ?_
      exact W.iret hx hb hr (fun t ht _ => ⟨_, rfl, h, ht⟩) (fun q hq => by cases hq) dX5_spanOf_120
  obtain ⟨n, h⟩ := h
  have loop_10 : ∀ (n : Nat) (v4_1 : Int32) (v5_2 : Int32) (v6_3 : Int32), L_X5_spanOf_10 post K_10 u x1 x2 x3 n v4_1 v5_2 v6_3 → ∀ (ls : Array Slot), lv_has ls 9 [(0, .ref m0), (1, .int x1), (2, .int x2), (3, .int x3), (4, .int v4_1), (5, .int v5_2), (6, .int v6_3)] → W p l e (headSpec wsX5_spanOf ({ frames := 2, cells := 0, slots := 0, locals := 47 } : Room)).room s m ([.ref m0, .int x1, .int x2, .int x3] : List Value).toArray below meth c s.heap [] 0 0 (MQ below (vp_Si post) ([.ref m0, .int x1, .int x2, .int x3] : List Value).toArray s 0 0 (fun _ => False)) (F0 m 10 ls []) := by
    intro n
    induction n with
    | zero => intro v4_1 v5_2 v6_3 h; rw [L_X5_spanOf_10] at h; exact h.elim
    | succ n ih_10 =>
      intro v4_1 v5_2 v6_3 h ls hl
      rw [L_X5_spanOf_10] at h
      refine lv_iload hx hb dX5_spanOf_10 (lv_at hl 6 rfl) ?_
      refine lv_aload_n hx hb dX5_spanOf_12 rfl (lv_at hl 0 rfl) ?_
      refine lv_iconst (v := 1) hx hb dX5_spanOf_13 (by decide) ?_
      refine lv_iload_n hx hb dX5_spanOf_14 rfl (lv_at hl 1 rfl) ?_
      refine lv_isub hx hb dX5_spanOf_15 ?_
      refine vp_callSi (W.runV (As := [.int _]) (rest := [.int _]) ⟨hx, hb, hml, hown, hts⟩ (c_X5_places l dC dI m0 m1 m2 m3 m4 m5 m6 m7 m8 m9 cI cZ h) (cwV 1 hts gX5_spanOf_X5_places rfl rfl rfl (by decide +kernel) ⟨Nat.le_of_ble_eq_true rfl, Nat.le_of_ble_eq_true rfl⟩) ⟨fbR, va_recv hK hP (ci := 3) (q0 := 0) rfl rfl, fun U hU hW => ⟨rfl, by rw [hU]; exact hP, va_K.moved hW.alike hK⟩⟩ rfl rfl hl.1 rfl (lv_room (Nat.le_of_ble_eq_true rfl)) dX5_spanOf_16 ⟨Nat.zero_le _, Nat.zero_le _⟩) (fun r_4 h => ?_)
      refine lv_icmp_ge (tgt := 104) hx hb dX5_spanOf_19 (by decide) (fun c_19 => ?_) (fun c_19 => ?_)
      · have h := br1 h c_19
        exact hK_10 _ _ h _ (lv_sub hl [4, 5] rfl)
      · have h := br2 h c_19
        refine lv_iconst (v := 0) hx hb dX5_spanOf_22 (by decide) ?_
        refine lv_istore (lv' := [(7, .int (0 : Int32)), (0, .ref m0), (1, .int x1), (2, .int x2), (3, .int x3), (4, .int v4_1), (5, .int v5_2), (6, .int v6_3)]) hx hb dX5_spanOf_23 hl (by decide) rfl (fun ls hl => ?_)
        obtain ⟨K_25, hKi_25, h⟩ := jnE2 h
        have hK_25 : ∀ (v4_15 : Int32) (v5_16 : Int32), K_25 v4_15 v5_16 → ∀ (ls : Array Slot), lv_has ls 9 [(0, .ref m0), (1, .int x1), (2, .int x2), (3, .int x3), (4, .int v4_15), (5, .int v5_16), (6, .int v6_3)] → W p l e (headSpec wsX5_spanOf ({ frames := 2, cells := 0, slots := 0, locals := 47 } : Room)).room s m ([.ref m0, .int x1, .int x2, .int x3] : List Value).toArray below meth c s.heap [] 0 0 (MQ below (vp_Si post) ([.ref m0, .int x1, .int x2, .int x3] : List Value).toArray s 0 0 (fun _ => False)) (F0 m 98 ls []) := by
          intro v4_15 v5_16 h ls hl
          have h := hKi_25 _ _ h
          obtain ⟨y_17, ey_17⟩ : ∃ z : Int32, z = v6_3 + (1 : Int32) := ⟨_, rfl⟩
          have h := h y_17 ey_17
          refine lv_iinc (v := y_17) (lv' := [(6, .int y_17), (0, .ref m0), (1, .int x1), (2, .int x2), (3, .int x3), (4, .int v4_15), (5, .int v5_16)]) hx hb dX5_spanOf_98 hl (k := 6) rfl (by rw [ey_17]; rfl) (by decide) rfl (fun ls hl => ?_)
          refine lv_goto (tgt := 10) hx hb dX5_spanOf_101 (by decide) ?_
          exact ih_10 _ _ _ h _ (lv_sub hl [1, 2, 3, 4, 5, 6, 0] rfl)
        obtain ⟨n, h⟩ := h
        have loop_25 : ∀ (n : Nat) (v4_5 : Int32) (v5_6 : Int32) (v7_7 : Int32), L_X5_spanOf_25 post K_25 u x1 x2 x3 v6_3 n v4_5 v5_6 v7_7 → ∀ (ls : Array Slot), lv_has ls 9 [(0, .ref m0), (1, .int x1), (2, .int x2), (3, .int x3), (4, .int v4_5), (5, .int v5_6), (6, .int v6_3), (7, .int v7_7)] → W p l e (headSpec wsX5_spanOf ({ frames := 2, cells := 0, slots := 0, locals := 47 } : Room)).room s m ([.ref m0, .int x1, .int x2, .int x3] : List Value).toArray below meth c s.heap [] 0 0 (MQ below (vp_Si post) ([.ref m0, .int x1, .int x2, .int x3] : List Value).toArray s 0 0 (fun _ => False)) (F0 m 25 ls []) := by
          intro n
          induction n with
          | zero => intro v4_5 v5_6 v7_7 h; rw [L_X5_spanOf_25] at h; exact h.elim
          | succ n ih_25 =>
            intro v4_5 v5_6 v7_7 h ls hl
            rw [L_X5_spanOf_25] at h
            refine lv_iload hx hb dX5_spanOf_25 (lv_at hl 7 rfl) ?_
            refine lv_aload_n hx hb dX5_spanOf_27 rfl (lv_at hl 0 rfl) ?_
            refine va_get (D := (dC, dI)) (ci := 3) (v := .int (u.1 2)) (C := RX5) (T := TX5) (N := 17) hx hb hts i_X5 hown hK hP 0 rfl rfl 2 (by decide) f_16 (fun _ h9 => h9) rfl dX5_spanOf_28 ?_
            refine lv_icmp_ge (tgt := 98) hx hb dX5_spanOf_31 (by decide) (fun c_31 => ?_) (fun c_31 => ?_)
            · have h := br1 h c_31
              exact hK_25 _ _ h _ (lv_sub hl [0, 1, 2, 3, 4, 5, 6] rfl)
            · have h := br2 h c_31
              refine lv_aload_n hx hb dX5_spanOf_34 rfl (lv_at hl 0 rfl) ?_
              refine lv_iload_n hx hb dX5_spanOf_35 rfl (lv_at hl 1 rfl) ?_
              refine lv_iload_n hx hb dX5_spanOf_36 rfl (lv_at hl 2 rfl) ?_
              refine lv_iload hx hb dX5_spanOf_37 (lv_at hl 6 rfl) ?_
              refine lv_iload hx hb dX5_spanOf_39 (lv_at hl 7 rfl) ?_
              refine vp_callSi (W.runV (As := [.int _, .int _, .int _, .int _]) (rest := []) ⟨hx, hb, hml, hown, hts⟩ (c_X5_hasIn l dC dI m0 m1 m2 m3 m4 m5 m6 m7 m8 m9 cI cZ h) (cwV 4 hts gX5_spanOf_X5_hasIn rfl rfl rfl (by decide +kernel) ⟨Nat.le_of_ble_eq_true rfl, Nat.le_of_ble_eq_true rfl⟩) ⟨fbR, va_recv hK hP (ci := 3) (q0 := 0) rfl rfl, fun U hU hW => ⟨rfl, by rw [hU]; exact hP, va_K.moved hW.alike hK⟩⟩ rfl rfl hl.1 rfl (lv_room (Nat.le_of_ble_eq_true rfl)) dX5_spanOf_41 ⟨Nat.zero_le _, Nat.zero_le _⟩) (fun r_8 h => ?_)
              obtain ⟨J_92, hJi_92, h⟩ := jnE2 h
              have hJ_92 : ∀ (v4_12 : Int32) (v5_13 : Int32), J_92 v4_12 v5_13 → ∀ (ls : Array Slot), lv_has ls 9 [(0, .ref m0), (1, .int x1), (2, .int x2), (3, .int x3), (4, .int v4_12), (5, .int v5_13), (6, .int v6_3), (7, .int v7_7)] → W p l e (headSpec wsX5_spanOf ({ frames := 2, cells := 0, slots := 0, locals := 47 } : Room)).room s m ([.ref m0, .int x1, .int x2, .int x3] : List Value).toArray below meth c s.heap [] 0 0 (MQ below (vp_Si post) ([.ref m0, .int x1, .int x2, .int x3] : List Value).toArray s 0 0 (fun _ => False)) (F0 m 92 ls []) := by
                intro v4_12 v5_13 h ls hl
                have h := hJi_92 _ _ h
                obtain ⟨y_14, ey_14⟩ : ∃ z : Int32, z = v7_7 + (1 : Int32) := ⟨_, rfl⟩
                have h := h y_14 ey_14
                refine lv_iinc (v := y_14) (lv' := [(7, .int y_14), (0, .ref m0), (1, .int x1), (2, .int x2), (3, .int x3), (4, .int v4_12), (5, .int v5_13), (6, .int v6_3)]) hx hb dX5_spanOf_92 hl (k := 7) rfl (by rw [ey_14]; rfl) (by decide) rfl (fun ls hl => ?_)
                refine lv_goto (tgt := 25) hx hb dX5_spanOf_95 (by decide) ?_
                exact ih_25 _ _ _ h _ (lv_sub hl [1, 2, 3, 4, 5, 6, 7, 0] rfl)
              refine lv_if_eq (tgt := 92) hx hb dX5_spanOf_44 (by decide) (fun c_44 => ?_) (fun c_44 => ?_)
              · have h := br1 h c_44
                exact hJ_92 _ _ h _ (lv_sub hl [0, 1, 2, 3, 4, 5, 6, 7] rfl)
              · have h := br2 h c_44
                refine lv_iload_n hx hb dX5_spanOf_47 rfl (lv_at hl 3 rfl) ?_
                obtain ⟨J_58, hJi_58, h⟩ := jnE1 h
                have hJ_58 : ∀ (w_9 : Int32), J_58 w_9 → ∀ (ls : Array Slot), lv_has ls 9 [(0, .ref m0), (1, .int x1), (2, .int x2), (3, .int x3), (4, .int v4_5), (5, .int v5_6), (6, .int v6_3), (7, .int v7_7)] → W p l e (headSpec wsX5_spanOf ({ frames := 2, cells := 0, slots := 0, locals := 47 } : Room)).room s m ([.ref m0, .int x1, .int x2, .int x3] : List Value).toArray below meth c s.heap [] 0 0 (MQ below (vp_Si post) ([.ref m0, .int x1, .int x2, .int x3] : List Value).toArray s 0 0 (fun _ => False)) (F0 m 58 ls [.int w_9]) := by
                  intro w_9 h ls hl
                  have h := hJi_58 _ h
                  refine lv_istore (lv' := [(8, .int w_9), (0, .ref m0), (1, .int x1), (2, .int x2), (3, .int x3), (4, .int v4_5), (5, .int v5_6), (6, .int v6_3), (7, .int v7_7)]) hx hb dX5_spanOf_58 hl (by decide) rfl (fun ls hl => ?_)
                  refine lv_iload hx hb dX5_spanOf_60 (lv_at hl 0 rfl) ?_
                  refine lv_iload hx hb dX5_spanOf_62 (lv_at hl 5 rfl) ?_
                  obtain ⟨J_74, hJi_74, h⟩ := jnE1 h
                  have hJ_74 : ∀ (w_10 : Int32), J_74 w_10 → ∀ (ls : Array Slot), lv_has ls 9 [(0, .ref m0), (1, .int x1), (2, .int x2), (3, .int x3), (5, .int v5_6), (6, .int v6_3), (7, .int v7_7), (8, .int w_9)] → W p l e (headSpec wsX5_spanOf ({ frames := 2, cells := 0, slots := 0, locals := 47 } : Room)).room s m ([.ref m0, .int x1, .int x2, .int x3] : List Value).toArray below meth c s.heap [] 0 0 (MQ below (vp_Si post) ([.ref m0, .int x1, .int x2, .int x3] : List Value).toArray s 0 0 (fun _ => False)) (F0 m 74 ls [.int w_10]) := by
                    intro w_10 h ls hl
                    have h := hJi_74 _ h
                    refine lv_istore (lv' := [(4, .int w_10), (0, .ref m0), (1, .int x1), (2, .int x2), (3, .int x3), (5, .int v5_6), (6, .int v6_3), (7, .int v7_7), (8, .int w_9)]) hx hb dX5_spanOf_74 hl (by decide) rfl (fun ls hl => ?_)
                    refine lv_iload hx hb dX5_spanOf_76 (lv_at hl 8 rfl) ?_
                    refine lv_iload hx hb dX5_spanOf_78 (lv_at hl 5 rfl) ?_
                    obtain ⟨J_90, hJi_90, h⟩ := jnE1 h
                    have hJ_90 : ∀ (w_11 : Int32), J_90 w_11 → ∀ (ls : Array Slot), lv_has ls 9 [(0, .ref m0), (1, .int x1), (2, .int x2), (3, .int x3), (4, .int w_10), (6, .int v6_3), (7, .int v7_7)] → W p l e (headSpec wsX5_spanOf ({ frames := 2, cells := 0, slots := 0, locals := 47 } : Room)).room s m ([.ref m0, .int x1, .int x2, .int x3] : List Value).toArray below meth c s.heap [] 0 0 (MQ below (vp_Si post) ([.ref m0, .int x1, .int x2, .int x3] : List Value).toArray s 0 0 (fun _ => False)) (F0 m 90 ls [.int w_11]) := by
                      intro w_11 h ls hl
                      have h := hJi_90 _ h
                      refine lv_istore (lv' := [(5, .int w_11), (0, .ref m0), (1, .int x1), (2, .int x2), (3, .int x3), (4, .int w_10), (6, .int v6_3), (7, .int v7_7)]) hx hb dX5_spanOf_90 hl (by decide) rfl (fun ls hl => ?_)
                      exact hJ_92 _ _ h _ (lv_sub hl [1, 2, 3, 4, 5, 0, 6, 7] rfl)
                    refine lv_icmp_le (tgt := 88) hx hb dX5_spanOf_80 (by decide) (fun c_80 => ?_) (fun c_80 => ?_)
                    · have h := br1 h c_80
                      refine lv_iload hx hb dX5_spanOf_88 (lv_at hl 5 rfl) ?_
                      exact hJ_90 _ h _ (lv_sub hl [1, 2, 3, 4, 0, 6, 7] rfl)
                    · have h := br2 h c_80
                      refine lv_iload hx hb dX5_spanOf_83 (lv_at hl 8 rfl) ?_
                      refine lv_goto (tgt := 90) hx hb dX5_spanOf_85 (by decide) ?_
                      exact hJ_90 _ h _ (lv_sub hl [1, 2, 3, 4, 0, 6, 7] rfl)
                  refine lv_icmp_ge (tgt := 72) hx hb dX5_spanOf_64 (by decide) (fun c_64 => ?_) (fun c_64 => ?_)
                  · have h := br1 h c_64
                    refine lv_iload hx hb dX5_spanOf_72 (lv_at hl 5 rfl) ?_
                    exact hJ_74 _ h _ (lv_sub hl [1, 2, 3, 4, 6, 7, 8, 0] rfl)
                  · have h := br2 h c_64
                    refine lv_iload hx hb dX5_spanOf_67 (lv_at hl 0 rfl) ?_
                    refine lv_goto (tgt := 74) hx hb dX5_spanOf_69 (by decide) ?_
                    exact hJ_74 _ h _ (lv_sub hl [1, 2, 3, 4, 6, 7, 8, 0] rfl)
                refine lv_if_ne (tgt := 56) hx hb dX5_spanOf_48 (by decide) (fun c_48 => ?_) (fun c_48 => ?_)
                · have h := br2 h c_48
                  refine lv_iload hx hb dX5_spanOf_56 (lv_at hl 7 rfl) ?_
                  exact hJ_58 _ h _ (lv_sub hl [0, 1, 2, 3, 4, 5, 6, 7] rfl)
                · have h := br1 h c_48
                  refine lv_iload hx hb dX5_spanOf_51 (lv_at hl 6 rfl) ?_
                  refine lv_goto (tgt := 58) hx hb dX5_spanOf_53 (by decide) ?_
                  exact hJ_58 _ h _ (lv_sub hl [0, 1, 2, 3, 4, 5, 6, 7] rfl)
        exact loop_25 n _ _ _ h _ (lv_sub hl [1, 2, 3, 4, 5, 6, 7, 0] rfl)
  exact loop_10 n _ _ _ h _ (lv_sub hl [3, 4, 5, 6, 2, 1, 0] rfl)
