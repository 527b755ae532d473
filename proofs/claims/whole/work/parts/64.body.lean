set_option maxHeartbeats 4000000 in
set_option maxRecDepth 100000 in
theorem c_X4_space (l : Launch) (dC : Nat → ClassId) (dI : Nat → Nat → Nat) (b0 h0 h1 h2 g0 g1 : Nat) (cI : ClassId) (sz : Nat) {u : St × St} {x1 : Int32} {x2 : Int32} {x3 : Int32} {post : Int32 → (St × St) → Prop} (h : P_X4_space u x1 x2 x3 post) : Met l yX4_space wsX4_space ({ frames := 1, cells := 0, slots := 0, locals := 24 } : Room) (MPre (dC, dI) vwCl (wX b0 h0 h1 h2 g0 g1 cI u) [(cI, .int)] sz [.ref b0, .int x1, .int x2, .int x3]) (va_Qi post (fun (u2 : St × St) (t : State) => va_P (dC, dI) vwCl (wX b0 h0 h1 h2 g0 g1 cI u2) t.heap) (va_A (wX b0 h0 h1 h2 g0 g1 cI u) sz)) 0 0 (va_A (wX b0 h0 h1 h2 g0 g1 cI u) sz) := by
  refine Met.ofW (cc := cX4_space) (maxL := 4) (ret := (some .int)) (by decide) rfl ?_
  intro p e s m args below meth c s₁ B hml hv
  obtain ⟨rfl, hsz, hP, hK, hD0⟩ := hv
  have hx := B.exec
  have hb := B.bytes
  have hr := B.returns
  have hts := atoms_spec (ws := wsX4_space) B.pre
  have hown : s.vm.findClass RX4 = some m.cls := findClass_of_methodNamed B.named
  have hlocks := B.notSynchronized
  subst hsz
  have hD1 := hD0.self (sz := s.heap.size)
  generalize hAe : va_A (wX b0 h0 h1 h2 g0 g1 cI u) s.heap.size = A at hD1 ⊢
  have hA : ∀ q : Nat, s.heap.size ≤ q → A q := fun q h => by rw [← hAe]; exact Or.inr h
  have hD : ∀ z, va_D A (wX b0 h0 h1 h2 g0 g1 cI z) := fun z => va_Dsame hD1 rfl
  have hS : va_S A s.heap s.heap [] := va_S.rf
  have hl := lv_entry ([.ref b0, .int x1, .int x2, .int x3]) (n := 4) (Nat.le_of_ble_eq_true rfl)
  rw [lg_entry_eq]
  generalize (lg_sl ([.ref b0, .int x1, .int x2, .int x3]) ++ List.replicate (4 - (lg_sl ([.ref b0, .int x1, .int x2, .int x3])).length) Slot.unset).toArray = ls at hl ⊢
  have hl : lv_has ls 4 [(0, .ref b0), (1, .int x1), (2, .int x2), (3, .int x3)] := hl
  have i_X4 : ∀ w ∈ u_ws RX4 TX4 2, w ∈ wsX4_space := by decide +kernel
  have f_10 := hts (.fieldLink RX4 10 "SliceBody" "solid" "LSliceBody$Solid;") (by decide +kernel)
  have f_19 := hts (.fieldLink RX4 19 "SliceBody" "boards" "LSliceBody$Boards;") (by decide +kernel)
  unfold P_X4_space at h
  refine lv_iload_n hx hb dX4_space_0 rfl (lv_at hl 1 rfl) ?_
  refine vp_callSi (W.runS (As := [.int _]) (rest := []) ⟨hx, hb, hml, hown, hts⟩ (c_X4_isSize l h) (va_cwS 1 hts gX4_space_X4_isSize rfl rfl rfl (by decide +kernel) ⟨Nat.le_of_ble_eq_true rfl, Nat.le_of_ble_eq_true rfl⟩) ⟨fun _ _ _ _ q => q, fun _ _ _ => ⟨rfl, trivial⟩⟩ rfl rfl hl.1 rfl (lv_room (Nat.le_of_ble_eq_true rfl)) dX4_space_1 ⟨Nat.zero_le _, Nat.zero_le _⟩) (fun r_1 h => ?_)
  refine lv_if_eq (tgt := 21) hx hb dX4_space_4 (by decide) (fun c_4 => ?_) (fun c_4 => ?_)
  · have h := br1 h c_4
    refine lv_bipush (v := (-2)) hx hb dX4_space_21 (by decide) ?_
    exact W.iret hx hb hr (fun t ht _ => ⟨⟨_, u, rfl, h, hPr ht hP⟩, hS.F ht⟩) hS.2.2 dX4_space_23
  · have h := br2 h c_4
    refine lv_iload_n hx hb dX4_space_7 rfl (lv_at hl 2 rfl) ?_
    refine vp_callSi (W.runS (As := [.int _]) (rest := []) ⟨hx, hb, hml, hown, hts⟩ (c_X4_isSize l h) (va_cwS 1 hts gX4_space_X4_isSize rfl rfl rfl (by decide +kernel) ⟨Nat.le_of_ble_eq_true rfl, Nat.le_of_ble_eq_true rfl⟩) ⟨fun _ _ _ _ q => q, fun _ _ _ => ⟨rfl, trivial⟩⟩ rfl rfl hl.1 rfl (lv_room (Nat.le_of_ble_eq_true rfl)) dX4_space_8 ⟨Nat.zero_le _, Nat.zero_le _⟩) (fun r_2 h => ?_)
    refine lv_if_eq (tgt := 21) hx hb dX4_space_11 (by decide) (fun c_11 => ?_) (fun c_11 => ?_)
    · have h := br1 h c_11
      refine lv_bipush (v := (-2)) hx hb dX4_space_21 (by decide) ?_
      exact W.iret hx hb hr (fun t ht _ => ⟨⟨_, u, rfl, h, hPr ht hP⟩, hS.F ht⟩) hS.2.2 dX4_space_23
    · have h := br2 h c_11
      refine lv_iload_n hx hb dX4_space_14 rfl (lv_at hl 3 rfl) ?_
      refine vp_callSi (W.runS (As := [.int _]) (rest := []) ⟨hx, hb, hml, hown, hts⟩ (c_X4_isSize l h) (va_cwS 1 hts gX4_space_X4_isSize rfl rfl rfl (by decide +kernel) ⟨Nat.le_of_ble_eq_true rfl, Nat.le_of_ble_eq_true rfl⟩) ⟨fun _ _ _ _ q => q, fun _ _ _ => ⟨rfl, trivial⟩⟩ rfl rfl hl.1 rfl (lv_room (Nat.le_of_ble_eq_true rfl)) dX4_space_15 ⟨Nat.zero_le _, Nat.zero_le _⟩) (fun r_3 h => ?_)
      refine lv_if_ne (tgt := 24) hx hb dX4_space_18 (by decide) (fun c_18 => ?_) (fun c_18 => ?_)
      · have h := br2 h c_18
        refine lv_aload_n hx hb dX4_space_24 rfl (lv_at hl 0 rfl) ?_
        refine va_get (D := (dC, dI)) (ci := 2) (v := .ref h0) (C := RX4) (T := TX4) (N := 2) hx hb hts i_X4 hown hK hP 0 rfl rfl 0 (by decide) f_10 (fun _ h9 => h9) rfl dX4_space_25 ?_
        refine lv_iload_n hx hb dX4_space_28 rfl (lv_at hl 1 rfl) ?_
        refine lv_iload_n hx hb dX4_space_29 rfl (lv_at hl 2 rfl) ?_
        refine lv_iload_n hx hb dX4_space_30 rfl (lv_at hl 3 rfl) ?_
        have hPs := hP.sub (ws' := wS h0 h1 h2 cI u.1) [1, 2, 3] rfl
        have hDs := (hD u).sub (ws' := wS h0 h1 h2 cI u.1) [1, 2, 3] (by decide) rfl
        have hFc := fr_all (ws := wS h0 h1 h2 cI u.1) (hDs) hS hA
        refine va_callv (va_runV (As := [.int _, .int _, .int _]) (rest := []) ⟨hx, hb, hml, hown, hts⟩ (c_X3_beginAnew l dC dI h0 h1 h2 cI (s.heap).size h) (cwV 3 hts gX4_space_X3_beginAnew rfl rfl rfl (by decide +kernel) ⟨Nat.le_of_ble_eq_true rfl, Nat.le_of_ble_eq_true rfl⟩) ⟨fbM, va_recv hK hPs (ci := 1) (q0 := 0) rfl rfl, fun U hU hW => ⟨rfl, by rw [hU], by rw [hU]; exact hPs, va_K.moved hW.alike hK, (hDs).weaken (fun _ _ _ _ => trivial)⟩⟩ rfl rfl hl.1 rfl (lv_room (Nat.le_of_ble_eq_true rfl)) dX4_space_31 ⟨Nat.zero_le _, Nat.zero_le _⟩) hS (fun q _ h => hFc q h) hFc (fun z_6 t H locs ht _ h hP1 _ hk1 hS => ?_)
        obtain ⟨u_5, eu_5⟩ : ∃ z : St × St, z = (z_6, u.2) := ⟨_, rfl⟩
        have h := h u_5 eu_5
        have hP : va_P (dC, dI) vwCl (wX b0 h0 h1 h2 g0 g1 cI u_5) H := by rw [eu_5]; exact X_joinS hP (hD _) hk1 hFc (by rw [← ht]; exact hP1)
        refine lv_aload_n hx hb dX4_space_34 rfl (lv_at hl 0 rfl) ?_
        refine va_get (D := (dC, dI)) (ci := 2) (v := .ref g0) (C := RX4) (T := TX4) (N := 2) hx hb hts i_X4 hown hK hP 0 rfl rfl 1 (by decide) f_19 (fun _ h9 => h9) rfl dX4_space_35 ?_
        have hPs := hP.sub (ws' := wB g0 g1 cI u_5.2) [4, 5] rfl
        have hDs := (hD u_5).sub (ws' := wB g0 g1 cI u_5.2) [4, 5] (by decide) rfl
        have hFc := fr_all (ws := wB g0 g1 cI u_5.2) (hDs) hS hA
        refine va_callv (va_runV (As := []) (rest := []) ⟨hx, hb, hml, hown, hts⟩ (c_X0_forget l dC dI g0 g1 cI (H).size h) (cwV 0 hts gX4_space_X0_forget rfl rfl rfl (by decide +kernel) ⟨Nat.le_of_ble_eq_true rfl, Nat.le_of_ble_eq_true rfl⟩) ⟨fbM, va_recv hK hPs (ci := 0) (q0 := 0) rfl rfl, fun U hU hW => ⟨rfl, by rw [hU], by rw [hU]; exact hPs, va_K.moved hW.alike hK, (hDs).weaken (fun _ _ _ _ => trivial)⟩⟩ rfl rfl hl.1 rfl (lv_room (Nat.le_of_ble_eq_true rfl)) dX4_space_38 ⟨Nat.zero_le _, Nat.zero_le _⟩) hS (fun q _ h => hFc q h) hFc (fun z_9 t H locs ht _ h hP1 _ hk1 hS => ?_)
        obtain ⟨u_8, eu_8⟩ : ∃ z : St × St, z = (u_5.1, z_9) := ⟨_, rfl⟩
        have h := h u_8 eu_8
        have hP : va_P (dC, dI) vwCl (wX b0 h0 h1 h2 g0 g1 cI u_8) H := by rw [eu_8]; exact X_joinB hP (hD _) hk1 hFc (by rw [← ht]; exact hP1)
        refine lv_iload_n hx hb dX4_space_41 rfl (lv_at hl 1 rfl) ?_
        refine lv_iload_n hx hb dX4_space_42 rfl (lv_at hl 2 rfl) ?_
        refine lv_imul hx hb dX4_space_43 ?_
        refine lv_iload_n hx hb dX4_space_44 rfl (lv_at hl 3 rfl) ?_
        refine lv_imul hx hb dX4_space_45 ?_
        exact W.iret hx hb hr (fun t ht _ => ⟨⟨_, u_8, rfl, h, hPr ht hP⟩, hS.F ht⟩) hS.2.2 dX4_space_46
      · have h := br1 h c_18
        refine lv_bipush (v := (-2)) hx hb dX4_space_21 (by decide) ?_
        exact W.iret hx hb hr (fun t ht _ => ⟨⟨_, u, rfl, h, hPr ht hP⟩, hS.F ht⟩) hS.2.2 dX4_space_23
set_option maxHeartbeats 4000000 in
set_option maxRecDepth 100000 in
theorem c_X4_box (l : Launch) (dC : Nat → ClassId) (dI : Nat → Nat → Nat) (b0 h0 h1 h2 g0 g1 : Nat) (cI : ClassId) (sz : Nat) {u : St × St} {x1 : Int32} {x2 : Int32} {x3 : Int32} {x4 : Int32} {x5 : Int32} {x6 : Int32} {x7 : Int32} {post : Int32 → (St × St) → Prop} (h : P_X4_box u x1 x2 x3 x4 x5 x6 x7 post) : Met l yX4_box wsX4_box ({ frames := 3, cells := 0, slots := 0, locals := 70 } : Room) (MPre (dC, dI) vwCl (wX b0 h0 h1 h2 g0 g1 cI u) [(cI, .int)] sz [.ref b0, .int x1, .int x2, .int x3, .int x4, .int x5, .int x6, .int x7]) (va_Qi post (fun (u2 : St × St) (t : State) => va_P (dC, dI) vwCl (wX b0 h0 h1 h2 g0 g1 cI u2) t.heap) (va_A (wX b0 h0 h1 h2 g0 g1 cI u) sz)) 0 0 (va_A (wX b0 h0 h1 h2 g0 g1 cI u) sz) := by
  refine Met.ofW (cc := cX4_box) (maxL := 14) (ret := (some .int)) (by decide) rfl ?_
  intro p e s m args below meth c s₁ B hml hv
  obtain ⟨rfl, hsz, hP, hK, hD0⟩ := hv
  have hx := B.exec
  have hb := B.bytes
  have hr := B.returns
  have hts := atoms_spec (ws := wsX4_box) B.pre
  have hown : s.vm.findClass RX4 = some m.cls := findClass_of_methodNamed B.named
  have hlocks := B.notSynchronized
  subst hsz
  have hD1 := hD0.self (sz := s.heap.size)
  generalize hAe : va_A (wX b0 h0 h1 h2 g0 g1 cI u) s.heap.size = A at hD1 ⊢
  have hA : ∀ q : Nat, s.heap.size ≤ q → A q := fun q h => by rw [← hAe]; exact Or.inr h
  have hD : ∀ z, va_D A (wX b0 h0 h1 h2 g0 g1 cI z) := fun z => va_Dsame hD1 rfl
  have hS : va_S A s.heap s.heap [] := va_S.rf
  have hl := lv_entry ([.ref b0, .int x1, .int x2, .int x3, .int x4, .int x5, .int x6, .int x7]) (n := 14) (Nat.le_of_ble_eq_true rfl)
  rw [lg_entry_eq]
  generalize (lg_sl ([.ref b0, .int x1, .int x2, .int x3, .int x4, .int x5, .int x6, .int x7]) ++ List.replicate (14 - (lg_sl ([.ref b0, .int x1, .int x2, .int x3, .int x4, .int x5, .int x6, .int x7])).length) Slot.unset).toArray = ls at hl ⊢
  have hl : lv_has ls 14 [(0, .ref b0), (1, .int x1), (2, .int x2), (3, .int x3), (4, .int x4), (5, .int x5), (6, .int x6), (7, .int x7)] := hl
  have i_X3 : ∀ w ∈ u_ws RX3 TX3 7, w ∈ wsX4_box := by decide +kernel
  have i_X4 : ∀ w ∈ u_ws RX4 TX4 2, w ∈ wsX4_box := by decide +kernel
  have f_10 := hts (.fieldLink RX4 10 "SliceBody" "solid" "LSliceBody$Solid;") (by decide +kernel)
  have f_19 := hts (.fieldLink RX4 19 "SliceBody" "boards" "LSliceBody$Boards;") (by decide +kernel)
  have f_37 := hts (.fieldLink RX4 37 "SliceBody$Solid" "high" "I") (by decide +kernel)
  have f_52 := hts (.fieldLink RX4 52 "SliceBody$Solid" "wide" "I") (by decide +kernel)
  have f_55 := hts (.fieldLink RX4 55 "SliceBody$Solid" "deep" "I") (by decide +kernel)
  have k_M41_0 := hts (.methodLink RX4 41 Lib.Math.min.name) (by decide +kernel)
  have k_M41_1 := hts (.static Lib.Math.min.name) (by decide +kernel)
  have k_M41_2 := hts (.initialized "java/lang/Math") (by decide +kernel)
  have k_M41_3 := hts (.code Lib.Math.min.name Lib.Math.min.code 2 (some .int)) (by decide +kernel)
  have k_M58_0 := hts (.methodLink RX4 58 Lib.Math.max.name) (by decide +kernel)
  have k_M58_1 := hts (.static Lib.Math.max.name) (by decide +kernel)
  have k_M58_2 := hts (.initialized "java/lang/Math") (by decide +kernel)
  have k_M58_3 := hts (.code Lib.Math.max.name Lib.Math.max.code 2 (some .int)) (by decide +kernel)
  unfold P_X4_box at h
  refine lv_iload_n hx hb dX4_box_0 rfl (lv_at hl 1 rfl) ?_
  refine vp_callSi (W.runS (As := [.int _]) (rest := []) ⟨hx, hb, hml, hown, hts⟩ (c_X4_isCorner l h) (va_cwS 1 hts gX4_box_X4_isCorner rfl rfl rfl (by decide +kernel) ⟨Nat.le_of_ble_eq_true rfl, Nat.le_of_ble_eq_true rfl⟩) ⟨fun _ _ _ _ q => q, fun _ _ _ => ⟨rfl, trivial⟩⟩ rfl rfl hl.1 rfl (lv_room (Nat.le_of_ble_eq_true rfl)) dX4_box_1 ⟨Nat.zero_le _, Nat.zero_le _⟩) (fun r_1 h => ?_)
  refine lv_if_eq (tgt := 21) hx hb dX4_box_4 (by decide) (fun c_4 => ?_) (fun c_4 => ?_)
  · have h := br1 h c_4
    refine lv_bipush (v := (-2)) hx hb dX4_box_21 (by decide) ?_
    exact W.iret hx hb hr (fun t ht _ => ⟨⟨_, u, rfl, h, hPr ht hP⟩, hS.F ht⟩) hS.2.2 dX4_box_23
  · have h := br2 h c_4
    refine lv_iload_n hx hb dX4_box_7 rfl (lv_at hl 2 rfl) ?_
    refine vp_callSi (W.runS (As := [.int _]) (rest := []) ⟨hx, hb, hml, hown, hts⟩ (c_X4_isCorner l h) (va_cwS 1 hts gX4_box_X4_isCorner rfl rfl rfl (by decide +kernel) ⟨Nat.le_of_ble_eq_true rfl, Nat.le_of_ble_eq_true rfl⟩) ⟨fun _ _ _ _ q => q, fun _ _ _ => ⟨rfl, trivial⟩⟩ rfl rfl hl.1 rfl (lv_room (Nat.le_of_ble_eq_true rfl)) dX4_box_8 ⟨Nat.zero_le _, Nat.zero_le _⟩) (fun r_2 h => ?_)
    refine lv_if_eq (tgt := 21) hx hb dX4_box_11 (by decide) (fun c_11 => ?_) (fun c_11 => ?_)
    · have h := br1 h c_11
      refine lv_bipush (v := (-2)) hx hb dX4_box_21 (by decide) ?_
      exact W.iret hx hb hr (fun t ht _ => ⟨⟨_, u, rfl, h, hPr ht hP⟩, hS.F ht⟩) hS.2.2 dX4_box_23
    · have h := br2 h c_11
      refine lv_iload_n hx hb dX4_box_14 rfl (lv_at hl 3 rfl) ?_
      refine vp_callSi (W.runS (As := [.int _]) (rest := []) ⟨hx, hb, hml, hown, hts⟩ (c_X4_isCorner l h) (va_cwS 1 hts gX4_box_X4_isCorner rfl rfl rfl (by decide +kernel) ⟨Nat.le_of_ble_eq_true rfl, Nat.le_of_ble_eq_true rfl⟩) ⟨fun _ _ _ _ q => q, fun _ _ _ => ⟨rfl, trivial⟩⟩ rfl rfl hl.1 rfl (lv_room (Nat.le_of_ble_eq_true rfl)) dX4_box_15 ⟨Nat.zero_le _, Nat.zero_le _⟩) (fun r_3 h => ?_)
      refine lv_if_ne (tgt := 24) hx hb dX4_box_18 (by decide) (fun c_18 => ?_) (fun c_18 => ?_)
      · have h := br2 h c_18
        refine lv_iload hx hb dX4_box_24 (lv_at hl 4 rfl) ?_
        refine vp_callSi (W.runS (As := [.int _]) (rest := []) ⟨hx, hb, hml, hown, hts⟩ (c_X4_isSize l h) (va_cwS 1 hts gX4_box_X4_isSize rfl rfl rfl (by decide +kernel) ⟨Nat.le_of_ble_eq_true rfl, Nat.le_of_ble_eq_true rfl⟩) ⟨fun _ _ _ _ q => q, fun _ _ _ => ⟨rfl, trivial⟩⟩ rfl rfl hl.1 rfl (lv_room (Nat.le_of_ble_eq_true rfl)) dX4_box_26 ⟨Nat.zero_le _, Nat.zero_le _⟩) (fun r_4 h => ?_)
        refine lv_if_eq (tgt := 48) hx hb dX4_box_29 (by decide) (fun c_29 => ?_) (fun c_29 => ?_)
        · have h := br1 h c_29
          refine lv_bipush (v := (-2)) hx hb dX4_box_48 (by decide) ?_
          exact W.iret hx hb hr (fun t ht _ => ⟨⟨_, u, rfl, h, hPr ht hP⟩, hS.F ht⟩) hS.2.2 dX4_box_50
        · have h := br2 h c_29
          refine lv_iload hx hb dX4_box_32 (lv_at hl 5 rfl) ?_
          refine vp_callSi (W.runS (As := [.int _]) (rest := []) ⟨hx, hb, hml, hown, hts⟩ (c_X4_isSize l h) (va_cwS 1 hts gX4_box_X4_isSize rfl rfl rfl (by decide +kernel) ⟨Nat.le_of_ble_eq_true rfl, Nat.le_of_ble_eq_true rfl⟩) ⟨fun _ _ _ _ q => q, fun _ _ _ => ⟨rfl, trivial⟩⟩ rfl rfl hl.1 rfl (lv_room (Nat.le_of_ble_eq_true rfl)) dX4_box_34 ⟨Nat.zero_le _, Nat.zero_le _⟩) (fun r_5 h => ?_)
          refine lv_if_eq (tgt := 48) hx hb dX4_box_37 (by decide) (fun c_37 => ?_) (fun c_37 => ?_)
          · have h := br1 h c_37
            refine lv_bipush (v := (-2)) hx hb dX4_box_48 (by decide) ?_
            exact W.iret hx hb hr (fun t ht _ => ⟨⟨_, u, rfl, h, hPr ht hP⟩, hS.F ht⟩) hS.2.2 dX4_box_50
          · have h := br2 h c_37
            refine lv_iload hx hb dX4_box_40 (lv_at hl 6 rfl) ?_
            refine vp_callSi (W.runS (As := [.int _]) (rest := []) ⟨hx, hb, hml, hown, hts⟩ (c_X4_isSize l h) (va_cwS 1 hts gX4_box_X4_isSize rfl rfl rfl (by decide +kernel) ⟨Nat.le_of_ble_eq_true rfl, Nat.le_of_ble_eq_true rfl⟩) ⟨fun _ _ _ _ q => q, fun _ _ _ => ⟨rfl, trivial⟩⟩ rfl rfl hl.1 rfl (lv_room (Nat.le_of_ble_eq_true rfl)) dX4_box_42 ⟨Nat.zero_le _, Nat.zero_le _⟩) (fun r_6 h => ?_)
            refine lv_if_ne (tgt := 51) hx hb dX4_box_45 (by decide) (fun c_45 => ?_) (fun c_45 => ?_)
            · have h := br2 h c_45
              refine lv_iload_n hx hb dX4_box_51 rfl (lv_at hl 3 rfl) ?_
              refine lv_iload_n hx hb dX4_box_52 rfl (lv_at hl 3 rfl) ?_
              refine lv_iload hx hb dX4_box_53 (lv_at hl 6 rfl) ?_
              refine lv_iadd hx hb dX4_box_55 ?_
              refine lv_aload_n hx hb dX4_box_56 rfl (lv_at hl 0 rfl) ?_
              refine va_get (D := (dC, dI)) (ci := 2) (v := .ref h0) (C := RX4) (T := TX4) (N := 2) hx hb hts i_X4 hown hK hP 0 rfl rfl 0 (by decide) f_10 (fun _ h9 => h9) rfl dX4_box_57 ?_
              refine va_get (D := (dC, dI)) (ci := 1) (v := .int (u.1.1 4)) (C := RX3) (T := TX3) (N := 7) hx hb hts i_X3 hown hK hP 1 rfl rfl 4 (by decide) f_37 (fun _ h9 => h9) rfl dX4_box_60 ?_
              refine va_mmin hx hb (hml.trans hl.1.symm) hown k_M41_0 k_M41_1 k_M41_2 k_M41_3 (Nat.le_of_ble_eq_true rfl) (Nat.le_of_ble_eq_true rfl) (Nat.zero_le _) (Nat.zero_le _) dX4_box_63 ?_
              refine vp_callSi (W.runS (As := [.int _, .int _]) (rest := []) ⟨hx, hb, hml, hown, hts⟩ (c_X1_bitsBetween l h) (va_cwS 2 hts gX4_box_X1_bitsBetween rfl rfl rfl (by decide +kernel) ⟨Nat.le_of_ble_eq_true rfl, Nat.le_of_ble_eq_true rfl⟩) ⟨fun _ _ _ _ q => q, fun _ _ _ => ⟨rfl, trivial⟩⟩ rfl rfl hl.1 rfl (lv_room (Nat.le_of_ble_eq_true rfl)) dX4_box_66 ⟨Nat.zero_le _, Nat.zero_le _⟩) (fun r_7 h => ?_)
              refine lv_istore (lv' := [(8, .int r_7), (0, .ref b0), (1, .int x1), (2, .int x2), (3, .int x3), (4, .int x4), (5, .int x5), (6, .int x6), (7, .int x7)]) hx hb dX4_box_69 hl (by decide) rfl (fun ls hl => ?_)
              refine lv_iload_n hx hb dX4_box_71 rfl (lv_at hl 2 rfl) ?_
              refine lv_iload hx hb dX4_box_72 (lv_at hl 5 rfl) ?_
              refine lv_iadd hx hb dX4_box_74 ?_
              refine lv_aload_n hx hb dX4_box_75 rfl (lv_at hl 1 rfl) ?_
              refine va_get (D := (dC, dI)) (ci := 2) (v := .ref h0) (C := RX4) (T := TX4) (N := 2) hx hb hts i_X4 hown hK hP 0 rfl rfl 0 (by decide) f_10 (fun _ h9 => h9) rfl dX4_box_76 ?_
              refine va_get (D := (dC, dI)) (ci := 1) (v := .int (u.1.1 2)) (C := RX3) (T := TX3) (N := 7) hx hb hts i_X3 hown hK hP 1 rfl rfl 2 (by decide) f_52 (fun _ h9 => h9) rfl dX4_box_79 ?_
              refine va_mmin hx hb (hml.trans hl.1.symm) hown k_M41_0 k_M41_1 k_M41_2 k_M41_3 (Nat.le_of_ble_eq_true rfl) (Nat.le_of_ble_eq_true rfl) (Nat.zero_le _) (Nat.zero_le _) dX4_box_82 ?_
              refine lv_topi (fun y_8 ey_8 => ?_)
              have h := h y_8 ey_8
              refine lv_istore (lv' := [(9, .int y_8), (8, .int r_7), (0, .ref b0), (1, .int x1), (2, .int x2), (3, .int x3), (4, .int x4), (5, .int x5), (6, .int x6), (7, .int x7)]) hx hb dX4_box_85 hl (by decide) rfl (fun ls hl => ?_)
              refine lv_iload_n hx hb dX4_box_87 rfl (lv_at hl 4 rfl) ?_
              refine lv_iload hx hb dX4_box_88 (lv_at hl 7 rfl) ?_
              refine lv_iadd hx hb dX4_box_90 ?_
              refine lv_aload_n hx hb dX4_box_91 rfl (lv_at hl 2 rfl) ?_
              refine va_get (D := (dC, dI)) (ci := 2) (v := .ref h0) (C := RX4) (T := TX4) (N := 2) hx hb hts i_X4 hown hK hP 0 rfl rfl 0 (by decide) f_10 (fun _ h9 => h9) rfl dX4_box_92 ?_
              refine va_get (D := (dC, dI)) (ci := 1) (v := .int (u.1.1 3)) (C := RX3) (T := TX3) (N := 7) hx hb hts i_X3 hown hK hP 1 rfl rfl 3 (by decide) f_55 (fun _ h9 => h9) rfl dX4_box_95 ?_
              refine va_mmin hx hb (hml.trans hl.1.symm) hown k_M41_0 k_M41_1 k_M41_2 k_M41_3 (Nat.le_of_ble_eq_true rfl) (Nat.le_of_ble_eq_true rfl) (Nat.zero_le _) (Nat.zero_le _) dX4_box_98 ?_
              refine lv_topi (fun y_9 ey_9 => ?_)
              have h := h y_9 ey_9
              refine lv_istore (lv' := [(10, .int y_9), (9, .int y_8), (8, .int r_7), (0, .ref b0), (1, .int x1), (2, .int x2), (3, .int x3), (4, .int x4), (5, .int x5), (6, .int x6), (7, .int x7)]) hx hb dX4_box_101 hl (by decide) rfl (fun ls hl => ?_)
              refine lv_iconst (v := 0) hx hb dX4_box_103 (by decide) ?_
              refine lv_istore (lv' := [(11, .int (0 : Int32)), (10, .int y_9), (9, .int y_8), (8, .int r_7), (0, .ref b0), (1, .int x1), (2, .int x2), (3, .int x3), (4, .int x4), (5, .int x5), (6, .int x6), (7, .int x7)]) hx hb dX4_box_104 hl (by decide) rfl (fun ls hl => ?_)
              refine lv_iload_n hx hb dX4_box_106 rfl (lv_at hl 5 rfl) ?_
              refine lv_iconst (v := 0) hx hb dX4_box_107 (by decide) ?_
              refine va_mmax hx hb (hml.trans hl.1.symm) hown k_M58_0 k_M58_1 k_M58_2 k_M58_3 (Nat.le_of_ble_eq_true rfl) (Nat.le_of_ble_eq_true rfl) (Nat.zero_le _) (Nat.zero_le _) dX4_box_108 ?_
              refine lv_topi (fun y_10 ey_10 => ?_)
              have h := h y_10 ey_10
              refine lv_istore (lv' := [(12, .int y_10), (11, .int (0 : Int32)), (10, .int y_9), (9, .int y_8), (8, .int r_7), (0, .ref b0), (1, .int x1), (2, .int x2), (3, .int x3), (4, .int x4), (5, .int x5), (6, .int x6), (7, .int x7)]) hx hb dX4_box_111 hl (by decide) rfl (fun ls hl => ?_)
              obtain ⟨K_113, hKi_113, h⟩ := jnE2 h
              have hK_113 : ∀ (v11_26 : Int32) (u_27 : St × St), K_113 v11_26 u_27 → ∀ (H : Heap) (locs : List Loc), va_P (dC, dI) vwCl (wX b0 h0 h1 h2 g0 g1 cI u_27) H → va_S A s.heap H locs → ∀ (ls : Array Slot), lv_has ls 14 [(0, .ref b0), (11, .int v11_26)] → W p l e (headSpec wsX4_box ({ frames := 3, cells := 0, slots := 0, locals := 70 } : Room)).room s m ([.ref b0, .int x1, .int x2, .int x3, .int x4, .int x5, .int x6, .int x7] : List Value).toArray below meth c H locs 0 0 (MQ below (va_Qi post (fun (u2 : St × St) (t : State) => va_P (dC, dI) vwCl (wX b0 h0 h1 h2 g0 g1 cI u2) t.heap) A) ([.ref b0, .int x1, .int x2, .int x3, .int x4, .int x5, .int x6, .int x7] : List Value).toArray s 0 0 A) (F0 m 166 ls []) := by
                intro v11_26 u_27 h H locs hP hS ls hl
                have h := hKi_113 _ _ h
                refine lv_aload_n hx hb dX4_box_166 rfl (lv_at hl 0 rfl) ?_
                refine va_get (D := (dC, dI)) (ci := 2) (v := .ref g0) (C := RX4) (T := TX4) (N := 2) hx hb hts i_X4 hown hK hP 0 rfl rfl 1 (by decide) f_19 (fun _ h9 => h9) rfl dX4_box_167 ?_
                have hPs := hP.sub (ws' := wB g0 g1 cI u_27.2) [4, 5] rfl
                have hDs := (hD u_27).sub (ws' := wB g0 g1 cI u_27.2) [4, 5] (by decide) rfl
                have hFc := fr_all (ws := wB g0 g1 cI u_27.2) (hDs) hS hA
                refine va_callv (va_runV (As := []) (rest := []) ⟨hx, hb, hml, hown, hts⟩ (c_X0_forget l dC dI g0 g1 cI (H).size h) (cwV 0 hts gX4_box_X0_forget rfl rfl rfl (by decide +kernel) ⟨Nat.le_of_ble_eq_true rfl, Nat.le_of_ble_eq_true rfl⟩) ⟨fbM, va_recv hK hPs (ci := 0) (q0 := 0) rfl rfl, fun U hU hW => ⟨rfl, by rw [hU], by rw [hU]; exact hPs, va_K.moved hW.alike hK, (hDs).weaken (fun _ _ _ _ => trivial)⟩⟩ rfl rfl hl.1 rfl (lv_room (Nat.le_of_ble_eq_true rfl)) dX4_box_170 ⟨Nat.zero_le _, Nat.zero_le _⟩) hS (fun q _ h => hFc q h) hFc (fun z_30 t H locs ht _ h hP1 _ hk1 hS => ?_)
                obtain ⟨u_29, eu_29⟩ : ∃ z : St × St, z = (u_27.1, z_30) := ⟨_, rfl⟩
                have h := h u_29 eu_29
                have hP : va_P (dC, dI) vwCl (wX b0 h0 h1 h2 g0 g1 cI u_29) H := by rw [eu_29]; exact X_joinB hP (hD _) hk1 hFc (by rw [← ht]; exact hP1)
                refine lv_iload hx hb dX4_box_173 (lv_at hl 1 rfl) ?_
                exact W.iret hx hb hr (fun t ht _ => ⟨⟨_, u_29, rfl, h, hPr ht hP⟩, hS.F ht⟩) hS.2.2 dX4_box_175
              obtain ⟨n, h⟩ := h
              have loop_113 : ∀ (n : Nat) (v11_11 : Int32) (v12_12 : Int32) (u_13 : (St × St)), L_X4_box_113 post K_113 x2 x7 r_7 y_8 y_9 n v11_11 v12_12 u_13 → ∀ (H : Heap) (locs : List Loc), va_P (dC, dI) vwCl (wX b0 h0 h1 h2 g0 g1 cI u_13) H → va_S A s.heap H locs → ∀ (ls : Array Slot), lv_has ls 14 [(0, .ref b0), (2, .int x2), (7, .int x7), (8, .int r_7), (9, .int y_8), (10, .int y_9), (11, .int v11_11), (12, .int v12_12)] → W p l e (headSpec wsX4_box ({ frames := 3, cells := 0, slots := 0, locals := 70 } : Room)).room s m ([.ref b0, .int x1, .int x2, .int x3, .int x4, .int x5, .int x6, .int x7] : List Value).toArray below meth c H locs 0 0 (MQ below (va_Qi post (fun (u2 : St × St) (t : State) => va_P (dC, dI) vwCl (wX b0 h0 h1 h2 g0 g1 cI u2) t.heap) A) ([.ref b0, .int x1, .int x2, .int x3, .int x4, .int x5, .int x6, .int x7] : List Value).toArray s 0 0 A) (F0 m 113 ls []) := by
                intro n
                induction n with
                | zero => intro v11_11 v12_12 u_13 h; rw [L_X4_box_113] at h; exact h.elim
                | succ n ih_113 =>
                  intro v11_11 v12_12 u_13 h H locs hP hS ls hl
                  rw [L_X4_box_113] at h
                  refine lv_iload hx hb dX4_box_113 (lv_at hl 7 rfl) ?_
                  refine lv_iload hx hb dX4_box_115 (lv_at hl 4 rfl) ?_
                  refine lv_icmp_ge (tgt := 166) hx hb dX4_box_117 (by decide) (fun c_117 => ?_) (fun c_117 => ?_)
                  · have h := br1 h c_117
                    exact hK_113 _ _ h _ _ hP hS _ (lv_sub hl [0, 6] rfl)
                  · have h := br2 h c_117
                    refine lv_iload_n hx hb dX4_box_120 rfl (lv_at hl 1 rfl) ?_
                    refine lv_iconst (v := 0) hx hb dX4_box_121 (by decide) ?_
                    refine va_mmax hx hb (hml.trans hl.1.symm) hown k_M58_0 k_M58_1 k_M58_2 k_M58_3 (Nat.le_of_ble_eq_true rfl) (Nat.le_of_ble_eq_true rfl) (Nat.zero_le _) (Nat.zero_le _) dX4_box_122 ?_
                    refine lv_topi (fun y_14 ey_14 => ?_)
                    have h := h y_14 ey_14
                    refine lv_istore (lv' := [(13, .int y_14), (0, .ref b0), (2, .int x2), (7, .int x7), (8, .int r_7), (9, .int y_8), (10, .int y_9), (11, .int v11_11), (12, .int v12_12)]) hx hb dX4_box_125 hl (by decide) rfl (fun ls hl => ?_)
                    obtain ⟨K_127, hKi_127, h⟩ := jnE2 h
                    have hK_127 : ∀ (v11_23 : Int32) (u_24 : St × St), K_127 v11_23 u_24 → ∀ (H : Heap) (locs : List Loc), va_P (dC, dI) vwCl (wX b0 h0 h1 h2 g0 g1 cI u_24) H → va_S A s.heap H locs → ∀ (ls : Array Slot), lv_has ls 14 [(0, .ref b0), (2, .int x2), (7, .int x7), (8, .int r_7), (9, .int y_8), (10, .int y_9), (11, .int v11_23), (12, .int v12_12)] → W p l e (headSpec wsX4_box ({ frames := 3, cells := 0, slots := 0, locals := 70 } : Room)).room s m ([.ref b0, .int x1, .int x2, .int x3, .int x4, .int x5, .int x6, .int x7] : List Value).toArray below meth c H locs 0 0 (MQ below (va_Qi post (fun (u2 : St × St) (t : State) => va_P (dC, dI) vwCl (wX b0 h0 h1 h2 g0 g1 cI u2) t.heap) A) ([.ref b0, .int x1, .int x2, .int x3, .int x4, .int x5, .int x6, .int x7] : List Value).toArray s 0 0 A) (F0 m 160 ls []) := by
                      intro v11_23 u_24 h H locs hP hS ls hl
                      have h := hKi_127 _ _ h
                      obtain ⟨y_25, ey_25⟩ : ∃ z : Int32, z = v12_12 + (1 : Int32) := ⟨_, rfl⟩
                      have h := h y_25 ey_25
                      refine lv_iinc (v := y_25) (lv' := [(12, .int y_25), (0, .ref b0), (2, .int x2), (7, .int x7), (8, .int r_7), (9, .int y_8), (10, .int y_9), (11, .int v11_23)]) hx hb dX4_box_160 hl (k := 7) rfl (by rw [ey_25]; rfl) (by decide) rfl (fun ls hl => ?_)
                      refine lv_goto (tgt := 113) hx hb dX4_box_163 (by decide) ?_
                      exact ih_113 _ _ _ h _ _ hP hS _ (lv_sub hl [1, 2, 3, 4, 5, 6, 7, 0] rfl)
                    obtain ⟨n, h⟩ := h
                    have loop_127 : ∀ (n : Nat) (v11_15 : Int32) (v13_16 : Int32) (u_17 : (St × St)), L_X4_box_127 post K_127 x7 r_7 y_9 v12_12 n v11_15 v13_16 u_17 → ∀ (H : Heap) (locs : List Loc), va_P (dC, dI) vwCl (wX b0 h0 h1 h2 g0 g1 cI u_17) H → va_S A s.heap H locs → ∀ (ls : Array Slot), lv_has ls 14 [(0, .ref b0), (2, .int x2), (7, .int x7), (8, .int r_7), (9, .int y_8), (10, .int y_9), (11, .int v11_15), (12, .int v12_12), (13, .int v13_16)] → W p l e (headSpec wsX4_box ({ frames := 3, cells := 0, slots := 0, locals := 70 } : Room)).room s m ([.ref b0, .int x1, .int x2, .int x3, .int x4, .int x5, .int x6, .int x7] : List Value).toArray below meth c H locs 0 0 (MQ below (va_Qi post (fun (u2 : St × St) (t : State) => va_P (dC, dI) vwCl (wX b0 h0 h1 h2 g0 g1 cI u2) t.heap) A) ([.ref b0, .int x1, .int x2, .int x3, .int x4, .int x5, .int x6, .int x7] : List Value).toArray s 0 0 A) (F0 m 127 ls []) := by
                      intro n
                      induction n with
                      | zero => intro v11_15 v13_16 u_17 h; rw [L_X4_box_127] at h; exact h.elim
                      | succ n ih_127 =>
                        intro v11_15 v13_16 u_17 h H locs hP hS ls hl
                        rw [L_X4_box_127] at h
                        refine lv_iload hx hb dX4_box_127 (lv_at hl 8 rfl) ?_
                        refine lv_iload hx hb dX4_box_129 (lv_at hl 5 rfl) ?_
                        refine lv_icmp_ge (tgt := 160) hx hb dX4_box_131 (by decide) (fun c_131 => ?_) (fun c_131 => ?_)
                        · have h := br1 h c_131
                          exact hK_127 _ _ h _ _ hP hS _ (lv_sub hl [0, 1, 2, 3, 4, 5, 6, 7] rfl)
                        · have h := br2 h c_131
                          refine lv_iload hx hb dX4_box_134 (lv_at hl 6 rfl) ?_
                          refine lv_aload_n hx hb dX4_box_136 rfl (lv_at hl 0 rfl) ?_
                          refine va_get (D := (dC, dI)) (ci := 2) (v := .ref h0) (C := RX4) (T := TX4) (N := 2) hx hb hts i_X4 hown hK hP 0 rfl rfl 0 (by decide) f_10 (fun _ h9 => h9) rfl dX4_box_137 ?_
                          refine lv_iload hx hb dX4_box_140 (lv_at hl 7 rfl) ?_
                          refine lv_iload hx hb dX4_box_142 (lv_at hl 8 rfl) ?_
                          refine lv_iload hx hb dX4_box_144 (lv_at hl 3 rfl) ?_
                          refine lv_iload hx hb dX4_box_146 (lv_at hl 2 rfl) ?_
                          have hPs := hP.sub (ws' := wS h0 h1 h2 cI u_17.1) [1, 2, 3] rfl
                          have hDs := (hD u_17).sub (ws' := wS h0 h1 h2 cI u_17.1) [1, 2, 3] (by decide) rfl
                          have hFc := fr_all (ws := wS h0 h1 h2 cI u_17.1) (hDs) hS hA
                          refine va_calli (va_runV (As := [.int _, .int _, .int _, .int _]) (rest := [.int _]) ⟨hx, hb, hml, hown, hts⟩ (c_X3_changeColumn l dC dI h0 h1 h2 cI (H).size h) (cwV 4 hts gX4_box_X3_changeColumn rfl rfl rfl (by decide +kernel) ⟨Nat.le_of_ble_eq_true rfl, Nat.le_of_ble_eq_true rfl⟩) ⟨fbM, va_recv hK hPs (ci := 1) (q0 := 0) rfl rfl, fun U hU hW => ⟨rfl, by rw [hU], by rw [hU]; exact hPs, va_K.moved hW.alike hK, (hDs).weaken (fun _ _ _ _ => trivial)⟩⟩ rfl rfl hl.1 rfl (lv_room (Nat.le_of_ble_eq_true rfl)) dX4_box_148 ⟨Nat.zero_le _, Nat.zero_le _⟩) hS (fun q _ h => hFc q h) hFc (fun r_18 z_20 t H locs ht _ h hP1 _ hk1 hS => ?_)
                          obtain ⟨u_19, eu_19⟩ : ∃ z : St × St, z = (z_20, u_17.2) := ⟨_, rfl⟩
                          have h := h u_19 eu_19
                          have hP : va_P (dC, dI) vwCl (wX b0 h0 h1 h2 g0 g1 cI u_19) H := by rw [eu_19]; exact X_joinS hP (hD _) hk1 hFc (by rw [← ht]; exact hP1)
                          refine lv_iadd hx hb dX4_box_151 ?_
                          refine lv_topi (fun y_21 ey_21 => ?_)
                          have h := h y_21 ey_21
                          refine lv_istore (lv' := [(11, .int y_21), (0, .ref b0), (2, .int x2), (7, .int x7), (8, .int r_7), (9, .int y_8), (10, .int y_9), (12, .int v12_12), (13, .int v13_16)]) hx hb dX4_box_152 hl (by decide) rfl (fun ls hl => ?_)
                          obtain ⟨y_22, ey_22⟩ : ∃ z : Int32, z = v13_16 + (1 : Int32) := ⟨_, rfl⟩
                          have h := h y_22 ey_22
                          refine lv_iinc (v := y_22) (lv' := [(13, .int y_22), (11, .int y_21), (0, .ref b0), (2, .int x2), (7, .int x7), (8, .int r_7), (9, .int y_8), (10, .int y_9), (12, .int v12_12)]) hx hb dX4_box_154 hl (k := 8) rfl (by rw [ey_22]; rfl) (by decide) rfl (fun ls hl => ?_)
                          refine lv_goto (tgt := 127) hx hb dX4_box_157 (by decide) ?_
                          exact ih_127 _ _ _ h _ _ hP hS _ (lv_sub hl [2, 3, 4, 5, 6, 7, 1, 8, 0] rfl)
                    exact loop_127 n _ _ _ h _ _ hP hS _ (lv_sub hl [1, 2, 3, 4, 5, 6, 7, 8, 0] rfl)
              exact loop_113 n _ _ _ h _ _ hP hS _ (lv_sub hl [5, 7, 12, 4, 3, 2, 1, 0] rfl)
            · have h := br1 h c_45
              refine lv_bipush (v := (-2)) hx hb dX4_box_48 (by decide) ?_
              exact W.iret hx hb hr (fun t ht _ => ⟨⟨_, u, rfl, h, hPr ht hP⟩, hS.F ht⟩) hS.2.2 dX4_box_50
      · have h := br1 h c_18
        refine lv_bipush (v := (-2)) hx hb dX4_box_21 (by decide) ?_
        exact W.iret hx hb hr (fun t ht _ => ⟨⟨_, u, rfl, h, hPr ht hP⟩, hS.F ht⟩) hS.2.2 dX4_box_23
set_option maxHeartbeats 4000000 in
set_option maxRecDepth 100000 in
theorem c_X4_at (l : Launch) (dC : Nat → ClassId) (dI : Nat → Nat → Nat) (b0 h0 h1 h2 g0 g1 : Nat) (cI : ClassId) {u : St × St} {x1 : Int32} {x2 : Int32} {x3 : Int32} {post : Int32 → Prop} (h : P_X4_at u x1 x2 x3 post) : Met l yX4_at wsX4_at ({ frames := 2, cells := 0, slots := 0, locals := 44 } : Room) (RPre (dC, dI) vwCl (wX b0 h0 h1 h2 g0 g1 cI u) [(cI, .int)] [.ref b0, .int x1, .int x2, .int x3]) (vp_Si post) 0 0 (fun _ => False) := by
  refine Met.ofW (cc := cX4_at) (maxL := 4) (ret := (some .int)) (by decide) rfl ?_
  intro p e s m args below meth c s₁ B hml hv
  obtain ⟨rfl, hP, hK⟩ := hv
  have hx := B.exec
  have hb := B.bytes
  have hr := B.returns
  have hts := atoms_spec (ws := wsX4_at) B.pre
  have hown : s.vm.findClass RX4 = some m.cls := findClass_of_methodNamed B.named
  have hlocks := B.notSynchronized
  have hl := lv_entry ([.ref b0, .int x1, .int x2, .int x3]) (n := 4) (Nat.le_of_ble_eq_true rfl)
  rw [lg_entry_eq]
  generalize (lg_sl ([.ref b0, .int x1, .int x2, .int x3]) ++ List.replicate (4 - (lg_sl ([.ref b0, .int x1, .int x2, .int x3])).length) Slot.unset).toArray = ls at hl ⊢
  have hl : lv_has ls 4 [(0, .ref b0), (1, .int x1), (2, .int x2), (3, .int x3)] := hl
  have i_X4 : ∀ w ∈ u_ws RX4 TX4 2, w ∈ wsX4_at := by decide +kernel
  have f_10 := hts (.fieldLink RX4 10 "SliceBody" "solid" "LSliceBody$Solid;") (by decide +kernel)
  unfold P_X4_at at h
  refine lv_aload_n hx hb dX4_at_0 rfl (lv_at hl 0 rfl) ?_
  refine va_get (D := (dC, dI)) (ci := 2) (v := .ref h0) (C := RX4) (T := TX4) (N := 2) hx hb hts i_X4 hown hK hP 0 rfl rfl 0 (by decide) f_10 (fun _ h9 => h9) rfl dX4_at_1 ?_
  refine lv_iload_n hx hb dX4_at_4 rfl (lv_at hl 1 rfl) ?_
  refine lv_iload_n hx hb dX4_at_5 rfl (lv_at hl 2 rfl) ?_
  have hPs := hP.sub (ws' := wS h0 h1 h2 cI u.1) [1, 2, 3] rfl
  refine vp_callSi (W.runV (As := [.int _, .int _]) (rest := []) ⟨hx, hb, hml, hown, hts⟩ (c_X3_hasColumn l dC dI h0 h1 h2 cI h) (cwV 2 hts gX4_at_X3_hasColumn rfl rfl rfl (by decide +kernel) ⟨Nat.le_of_ble_eq_true rfl, Nat.le_of_ble_eq_true rfl⟩) ⟨fbR, va_recv hK hPs (ci := 1) (q0 := 0) rfl rfl, fun U hU hW => ⟨rfl, by rw [hU]; exact hPs, va_K.moved hW.alike hK⟩⟩ rfl rfl hl.1 rfl (lv_room (Nat.le_of_ble_eq_true rfl)) dX4_at_6 ⟨Nat.zero_le _, Nat.zero_le _⟩) (fun r_1 h => ?_)
  refine lv_if_eq (tgt := 23) hx hb dX4_at_9 (by decide) (fun c_9 => ?_) (fun c_9 => ?_)
  · have h := br1 h c_9
    refine lv_iconst (v := (-1)) hx hb dX4_at_23 (by decide) ?_
    exact W.iret hx hb hr (fun t ht _ => ⟨_, rfl, h, ht⟩) (fun q hq => by cases hq) dX4_at_24
  · have h := br2 h c_9
    refine lv_aload_n hx hb dX4_at_12 rfl (lv_at hl 0 rfl) ?_
    refine va_get (D := (dC, dI)) (ci := 2) (v := .ref h0) (C := RX4) (T := TX4) (N := 2) hx hb hts i_X4 hown hK hP 0 rfl rfl 0 (by decide) f_10 (fun _ h9 => h9) rfl dX4_at_13 ?_
    refine lv_iload_n hx hb dX4_at_16 rfl (lv_at hl 3 rfl) ?_
    have hPs := hP.sub (ws' := wS h0 h1 h2 cI u.1) [1, 2, 3] rfl
    refine vp_callSi (W.runV (As := [.int _]) (rest := []) ⟨hx, hb, hml, hown, hts⟩ (c_X3_hasLayer l dC dI h0 h1 h2 cI h) (cwV 1 hts gX4_at_X3_hasLayer rfl rfl rfl (by decide +kernel) ⟨Nat.le_of_ble_eq_true rfl, Nat.le_of_ble_eq_true rfl⟩) ⟨fbR, va_recv hK hPs (ci := 1) (q0 := 0) rfl rfl, fun U hU hW => ⟨rfl, by rw [hU]; exact hPs, va_K.moved hW.alike hK⟩⟩ rfl rfl hl.1 rfl (lv_room (Nat.le_of_ble_eq_true rfl)) dX4_at_17 ⟨Nat.zero_le _, Nat.zero_le _⟩) (fun r_2 h => ?_)
    refine lv_if_ne (tgt := 25) hx hb dX4_at_20 (by decide) (fun c_20 => ?_) (fun c_20 => ?_)
    · have h := br2 h c_20
      refine lv_aload_n hx hb dX4_at_25 rfl (lv_at hl 0 rfl) ?_
      refine va_get (D := (dC, dI)) (ci := 2) (v := .ref h0) (C := RX4) (T := TX4) (N := 2) hx hb hts i_X4 hown hK hP 0 rfl rfl 0 (by decide) f_10 (fun _ h9 => h9) rfl dX4_at_26 ?_
      refine lv_iload_n hx hb dX4_at_29 rfl (lv_at hl 1 rfl) ?_
      refine lv_iload_n hx hb dX4_at_30 rfl (lv_at hl 2 rfl) ?_
      have hPs := hP.sub (ws' := wS h0 h1 h2 cI u.1) [1, 2, 3] rfl
      refine vp_callSi (W.runV (As := [.int _, .int _]) (rest := []) ⟨hx, hb, hml, hown, hts⟩ (c_X3_columnAt l dC dI h0 h1 h2 cI h) (cwV 2 hts gX4_at_X3_columnAt rfl rfl rfl (by decide +kernel) ⟨Nat.le_of_ble_eq_true rfl, Nat.le_of_ble_eq_true rfl⟩) ⟨fbR, va_recv hK hPs (ci := 1) (q0 := 0) rfl rfl, fun U hU hW => ⟨rfl, by rw [hU]; exact hPs, va_K.moved hW.alike hK⟩⟩ rfl rfl hl.1 rfl (lv_room (Nat.le_of_ble_eq_true rfl)) dX4_at_31 ⟨Nat.zero_le _, Nat.zero_le _⟩) (fun r_3 h => ?_)
      refine lv_iload_n hx hb dX4_at_34 rfl (lv_at hl 3 rfl) ?_
      refine vp_callSi (W.runS (As := [.int _, .int _]) (rest := []) ⟨hx, hb, hml, hown, hts⟩ (c_X1_hasBit l h) (va_cwS 2 hts gX4_at_X1_hasBit rfl rfl rfl (by decide +kernel) ⟨Nat.le_of_ble_eq_true rfl, Nat.le_of_ble_eq_true rfl⟩) ⟨fun _ _ _ _ q => q, fun _ _ _ => ⟨rfl, trivial⟩⟩ rfl rfl hl.1 rfl (lv_room (Nat.le_of_ble_eq_true rfl)) dX4_at_35 ⟨Nat.zero_le _, Nat.zero_le _⟩) (fun r_4 h => ?_)
      refine vp_callSi (W.runS (As := [.int _]) (rest := []) ⟨hx, hb, hml, hown, hts⟩ (c_X4_asNumber l h) (va_cwS 1 hts gX4_at_X4_asNumber rfl rfl rfl (by decide +kernel) ⟨Nat.le_of_ble_eq_true rfl, Nat.le_of_ble_eq_true rfl⟩) ⟨fun _ _ _ _ q => q, fun _ _ _ => ⟨rfl, trivial⟩⟩ rfl rfl hl.1 rfl (lv_room (Nat.le_of_ble_eq_true rfl)) dX4_at_38 ⟨Nat.zero_le _, Nat.zero_le _⟩) (fun r_5 h => ?_)
      exact W.iret hx hb hr (fun t ht _ => ⟨_, rfl, h, ht⟩) (fun q hq => by cases hq) dX4_at_41
    · have h := br1 h c_20
      refine lv_iconst (v := (-1)) hx hb dX4_at_23 (by decide) ?_
      exact W.iret hx hb hr (fun t ht _ => ⟨_, rfl, h, ht⟩) (fun q hq => by cases hq) dX4_at_24
set_option maxHeartbeats 4000000 in
set_option maxRecDepth 100000 in
theorem c_X4_rib (l : Launch) (dC : Nat → ClassId) (dI : Nat → Nat → Nat) (b0 h0 h1 h2 g0 g1 : Nat) (cI : ClassId) (sz : Nat) {u : St × St} {x1 : Int32} {x2 : Int32} {x3 : Int32} {post : Int32 → (St × St) → Prop} (h : P_X4_rib u x1 x2 x3 post) : Met l yX4_rib wsX4_rib ({ frames := 2, cells := 0, slots := 0, locals := 43 } : Room) (MPre (dC, dI) vwCl (wX b0 h0 h1 h2 g0 g1 cI u) [(cI, .int)] sz [.ref b0, .int x1, .int x2, .int x3]) (va_Qi post (fun (u2 : St × St) (t : State) => va_P (dC, dI) vwCl (wX b0 h0 h1 h2 g0 g1 cI u2) t.heap) (va_A (wX b0 h0 h1 h2 g0 g1 cI u) sz)) 0 0 (va_A (wX b0 h0 h1 h2 g0 g1 cI u) sz) := by
  refine Met.ofW (cc := cX4_rib) (maxL := 6) (ret := (some .int)) (by decide) rfl ?_
  intro p e s m args below meth c s₁ B hml hv
  obtain ⟨rfl, hsz, hP, hK, hD0⟩ := hv
  have hx := B.exec
  have hb := B.bytes
  have hr := B.returns
  have hts := atoms_spec (ws := wsX4_rib) B.pre
  have hown : s.vm.findClass RX4 = some m.cls := findClass_of_methodNamed B.named
  have hlocks := B.notSynchronized
  subst hsz
  have hD1 := hD0.self (sz := s.heap.size)
  generalize hAe : va_A (wX b0 h0 h1 h2 g0 g1 cI u) s.heap.size = A at hD1 ⊢
  have hA : ∀ q : Nat, s.heap.size ≤ q → A q := fun q h => by rw [← hAe]; exact Or.inr h
  have hD : ∀ z, va_D A (wX b0 h0 h1 h2 g0 g1 cI z) := fun z => va_Dsame hD1 rfl
  have hS : va_S A s.heap s.heap [] := va_S.rf
  have hl := lv_entry ([.ref b0, .int x1, .int x2, .int x3]) (n := 6) (Nat.le_of_ble_eq_true rfl)
  rw [lg_entry_eq]
  generalize (lg_sl ([.ref b0, .int x1, .int x2, .int x3]) ++ List.replicate (6 - (lg_sl ([.ref b0, .int x1, .int x2, .int x3])).length) Slot.unset).toArray = ls at hl ⊢
  have hl : lv_has ls 6 [(0, .ref b0), (1, .int x1), (2, .int x2), (3, .int x3)] := hl
  have i_X4 : ∀ w ∈ u_ws RX4 TX4 2, w ∈ wsX4_rib := by decide +kernel
  have f_10 := hts (.fieldLink RX4 10 "SliceBody" "solid" "LSliceBody$Solid;") (by decide +kernel)
  have f_19 := hts (.fieldLink RX4 19 "SliceBody" "boards" "LSliceBody$Boards;") (by decide +kernel)
  unfold P_X4_rib at h
  refine lv_aload_n hx hb dX4_rib_0 rfl (lv_at hl 0 rfl) ?_
  refine va_get (D := (dC, dI)) (ci := 2) (v := .ref h0) (C := RX4) (T := TX4) (N := 2) hx hb hts i_X4 hown hK hP 0 rfl rfl 0 (by decide) f_10 (fun _ h9 => h9) rfl dX4_rib_1 ?_
  refine lv_iload_n hx hb dX4_rib_4 rfl (lv_at hl 1 rfl) ?_
  refine lv_iload_n hx hb dX4_rib_5 rfl (lv_at hl 2 rfl) ?_
  have hPs := hP.sub (ws' := wS h0 h1 h2 cI u.1) [1, 2, 3] rfl
  refine vp_callSi (W.runV (As := [.int _, .int _]) (rest := []) ⟨hx, hb, hml, hown, hts⟩ (c_X3_hasRib l dC dI h0 h1 h2 cI h) (cwV 2 hts gX4_rib_X3_hasRib rfl rfl rfl (by decide +kernel) ⟨Nat.le_of_ble_eq_true rfl, Nat.le_of_ble_eq_true rfl⟩) ⟨fbR, va_recv hK hPs (ci := 1) (q0 := 0) rfl rfl, fun U hU hW => ⟨rfl, by rw [hU]; exact hPs, va_K.moved hW.alike hK⟩⟩ rfl rfl hl.1 rfl (lv_room (Nat.le_of_ble_eq_true rfl)) dX4_rib_6 ⟨Nat.zero_le _, Nat.zero_le _⟩) (fun r_1 h => ?_)
  refine lv_if_ne (tgt := 14) hx hb dX4_rib_9 (by decide) (fun c_9 => ?_) (fun c_9 => ?_)
  · have h := br2 h c_9
    refine lv_aload_n hx hb dX4_rib_14 rfl (lv_at hl 0 rfl) ?_
    refine va_get (D := (dC, dI)) (ci := 2) (v := .ref h0) (C := RX4) (T := TX4) (N := 2) hx hb hts i_X4 hown hK hP 0 rfl rfl 0 (by decide) f_10 (fun _ h9 => h9) rfl dX4_rib_15 ?_
    refine lv_iload_n hx hb dX4_rib_18 rfl (lv_at hl 1 rfl) ?_
    refine lv_iload_n hx hb dX4_rib_19 rfl (lv_at hl 2 rfl) ?_
    have hPs := hP.sub (ws' := wS h0 h1 h2 cI u.1) [1, 2, 3] rfl
    refine vp_callSi (W.runV (As := [.int _, .int _]) (rest := []) ⟨hx, hb, hml, hown, hts⟩ (c_X3_isChosen l dC dI h0 h1 h2 cI h) (cwV 2 hts gX4_rib_X3_isChosen rfl rfl rfl (by decide +kernel) ⟨Nat.le_of_ble_eq_true rfl, Nat.le_of_ble_eq_true rfl⟩) ⟨fbR, va_recv hK hPs (ci := 1) (q0 := 0) rfl rfl, fun U hU hW => ⟨rfl, by rw [hU]; exact hPs, va_K.moved hW.alike hK⟩⟩ rfl rfl hl.1 rfl (lv_room (Nat.le_of_ble_eq_true rfl)) dX4_rib_20 ⟨Nat.zero_le _, Nat.zero_le _⟩) (fun r_2 h => ?_)
    refine lv_istore (lv' := [(4, .int r_2), (0, .ref b0), (1, .int x1), (2, .int x2), (3, .int x3)]) hx hb dX4_rib_23 hl (by decide) rfl (fun ls hl => ?_)
    refine lv_aload_n hx hb dX4_rib_25 rfl (lv_at hl 1 rfl) ?_
    refine va_get (D := (dC, dI)) (ci := 2) (v := .ref h0) (C := RX4) (T := TX4) (N := 2) hx hb hts i_X4 hown hK hP 0 rfl rfl 0 (by decide) f_10 (fun _ h9 => h9) rfl dX4_rib_26 ?_
    refine lv_iload_n hx hb dX4_rib_29 rfl (lv_at hl 2 rfl) ?_
    have hPs := hP.sub (ws' := wS h0 h1 h2 cI u.1) [1, 2, 3] rfl
    refine vp_callSi (W.runV (As := [.int _]) (rest := []) ⟨hx, hb, hml, hown, hts⟩ (c_X3_chosenBits l dC dI h0 h1 h2 cI h) (cwV 1 hts gX4_rib_X3_chosenBits rfl rfl rfl (by decide +kernel) ⟨Nat.le_of_ble_eq_true rfl, Nat.le_of_ble_eq_true rfl⟩) ⟨fbR, va_recv hK hPs (ci := 1) (q0 := 0) rfl rfl, fun U hU hW => ⟨rfl, by rw [hU]; exact hPs, va_K.moved hW.alike hK⟩⟩ rfl rfl hl.1 rfl (lv_room (Nat.le_of_ble_eq_true rfl)) dX4_rib_30 ⟨Nat.zero_le _, Nat.zero_le _⟩) (fun r_3 h => ?_)
    refine lv_iconst (v := 1) hx hb dX4_rib_33 (by decide) ?_
    refine lv_iload_n hx hb dX4_rib_34 rfl (lv_at hl 3 rfl) ?_
    refine lv_ishl hx hb dX4_rib_35 ?_
    refine lv_iconst (v := (-1)) hx hb dX4_rib_36 (by decide) ?_
    refine lv_ixor hx hb dX4_rib_37 ?_
    refine lv_iand hx hb dX4_rib_38 ?_
    refine lv_topi (fun y_4 ey_4 => ?_)
    have h := h y_4 ey_4
    refine lv_istore (lv' := [(5, .int y_4), (4, .int r_2), (0, .ref b0), (1, .int x1), (2, .int x2), (3, .int x3)]) hx hb dX4_rib_39 hl (by decide) rfl (fun ls hl => ?_)
    refine lv_aload_n hx hb dX4_rib_41 rfl (lv_at hl 2 rfl) ?_
    refine va_get (D := (dC, dI)) (ci := 2) (v := .ref h0) (C := RX4) (T := TX4) (N := 2) hx hb hts i_X4 hown hK hP 0 rfl rfl 0 (by decide) f_10 (fun _ h9 => h9) rfl dX4_rib_42 ?_
    refine lv_iload_n hx hb dX4_rib_45 rfl (lv_at hl 3 rfl) ?_
    refine lv_iload_n hx hb dX4_rib_46 rfl (lv_at hl 5 rfl) ?_
    obtain ⟨J_61, hJi_61, h⟩ := jnE1 h
    have hJ_61 : ∀ (w_5 : Int32), J_61 w_5 → ∀ (H : Heap) (locs : List Loc), va_P (dC, dI) vwCl (wX b0 h0 h1 h2 g0 g1 cI u) H → va_S A s.heap H locs → ∀ (ls : Array Slot), lv_has ls 6 [(0, .ref b0), (4, .int r_2)] → W p l e (headSpec wsX4_rib ({ frames := 2, cells := 0, slots := 0, locals := 43 } : Room)).room s m ([.ref b0, .int x1, .int x2, .int x3] : List Value).toArray below meth c H locs 0 0 (MQ below (va_Qi post (fun (u2 : St × St) (t : State) => va_P (dC, dI) vwCl (wX b0 h0 h1 h2 g0 g1 cI u2) t.heap) A) ([.ref b0, .int x1, .int x2, .int x3] : List Value).toArray s 0 0 A) (F0 m 61 ls [.int w_5, .int x1, .ref h0]) := by
      intro w_5 h H locs hP hS ls hl
      have h := hJi_61 _ h
      have hPs := hP.sub (ws' := wS h0 h1 h2 cI u.1) [1, 2, 3] rfl
      have hDs := (hD u).sub (ws' := wS h0 h1 h2 cI u.1) [1, 2, 3] (by decide) rfl
      have hFc := fr_all (ws := wS h0 h1 h2 cI u.1) (hDs) hS hA
      refine va_callv (va_runV (As := [.int _, .int _]) (rest := []) ⟨hx, hb, hml, hown, hts⟩ (c_X3_choose l dC dI h0 h1 h2 cI (H).size h) (cwV 2 hts gX4_rib_X3_choose rfl rfl rfl (by decide +kernel) ⟨Nat.le_of_ble_eq_true rfl, Nat.le_of_ble_eq_true rfl⟩) ⟨fbM, va_recv hK hPs (ci := 1) (q0 := 0) rfl rfl, fun U hU hW => ⟨rfl, by rw [hU], by rw [hU]; exact hPs, va_K.moved hW.alike hK, (hDs).weaken (fun _ _ _ _ => trivial)⟩⟩ rfl rfl hl.1 rfl (lv_room (Nat.le_of_ble_eq_true rfl)) dX4_rib_61 ⟨Nat.zero_le _, Nat.zero_le _⟩) hS (fun q _ h => hFc q h) hFc (fun z_8 t H locs ht _ h hP1 _ hk1 hS => ?_)
      obtain ⟨u_7, eu_7⟩ : ∃ z : St × St, z = (z_8, u.2) := ⟨_, rfl⟩
      have h := h u_7 eu_7
      have hP : va_P (dC, dI) vwCl (wX b0 h0 h1 h2 g0 g1 cI u_7) H := by rw [eu_7]; exact X_joinS hP (hD _) hk1 hFc (by rw [← ht]; exact hP1)
      refine lv_aload_n hx hb dX4_rib_64 rfl (lv_at hl 0 rfl) ?_
      refine va_get (D := (dC, dI)) (ci := 2) (v := .ref g0) (C := RX4) (T := TX4) (N := 2) hx hb hts i_X4 hown hK hP 0 rfl rfl 1 (by decide) f_19 (fun _ h9 => h9) rfl dX4_rib_65 ?_
      have hPs := hP.sub (ws' := wB g0 g1 cI u_7.2) [4, 5] rfl
      have hDs := (hD u_7).sub (ws' := wB g0 g1 cI u_7.2) [4, 5] (by decide) rfl
      have hFc := fr_all (ws := wB g0 g1 cI u_7.2) (hDs) hS hA
      refine va_callv (va_runV (As := []) (rest := []) ⟨hx, hb, hml, hown, hts⟩ (c_X0_forget l dC dI g0 g1 cI (H).size h) (cwV 0 hts gX4_rib_X0_forget rfl rfl rfl (by decide +kernel) ⟨Nat.le_of_ble_eq_true rfl, Nat.le_of_ble_eq_true rfl⟩) ⟨fbM, va_recv hK hPs (ci := 0) (q0 := 0) rfl rfl, fun U hU hW => ⟨rfl, by rw [hU], by rw [hU]; exact hPs, va_K.moved hW.alike hK, (hDs).weaken (fun _ _ _ _ => trivial)⟩⟩ rfl rfl hl.1 rfl (lv_room (Nat.le_of_ble_eq_true rfl)) dX4_rib_68 ⟨Nat.zero_le _, Nat.zero_le _⟩) hS (fun q _ h => hFc q h) hFc (fun z_11 t H locs ht _ h hP1 _ hk1 hS => ?_)
      obtain ⟨u_10, eu_10⟩ : ∃ z : St × St, z = (u_7.1, z_11) := ⟨_, rfl⟩
      have h := h u_10 eu_10
      have hP : va_P (dC, dI) vwCl (wX b0 h0 h1 h2 g0 g1 cI u_10) H := by rw [eu_10]; exact X_joinB hP (hD _) hk1 hFc (by rw [← ht]; exact hP1)
      refine lv_iload hx hb dX4_rib_71 (lv_at hl 1 rfl) ?_
      refine vp_callSi (W.runS (As := [.int _]) (rest := []) ⟨hx, hb, hml, hown, hts⟩ (c_X4_asNumber l h) (va_cwS 1 hts gX4_rib_X4_asNumber rfl rfl rfl (by decide +kernel) ⟨Nat.le_of_ble_eq_true rfl, Nat.le_of_ble_eq_true rfl⟩) ⟨fun _ _ _ _ q => q, fun _ _ _ => ⟨rfl, trivial⟩⟩ rfl rfl hl.1 rfl (lv_room (Nat.le_of_ble_eq_true rfl)) dX4_rib_73 ⟨Nat.zero_le _, Nat.zero_le _⟩) (fun r_12 h => ?_)
      exact W.iret hx hb hr (fun t ht _ => ⟨⟨_, u_10, rfl, h, hPr ht hP⟩, hS.F ht⟩) hS.2.2 dX4_rib_76
    refine lv_if_eq (tgt := 59) hx hb dX4_rib_47 (by decide) (fun c_47 => ?_) (fun c_47 => ?_)
    · have h := br1 h c_47
      refine lv_iload hx hb dX4_rib_59 (lv_at hl 0 rfl) ?_
      exact hJ_61 _ h _ _ hP hS _ (lv_sub hl [2, 1] rfl)
    · have h := br2 h c_47
      refine lv_iload hx hb dX4_rib_50 (lv_at hl 0 rfl) ?_
      refine lv_iconst (v := 1) hx hb dX4_rib_52 (by decide) ?_
      refine lv_iload_n hx hb dX4_rib_53 rfl (lv_at hl 4 rfl) ?_
      refine lv_ishl hx hb dX4_rib_54 ?_
      refine lv_ior hx hb dX4_rib_55 ?_
      refine lv_goto (tgt := 61) hx hb dX4_rib_56 (by decide) ?_
      exact hJ_61 _ h _ _ hP hS _ (lv_sub hl [2, 1] rfl)
  · have h := br1 h c_9
    refine lv_iconst (v := (-1)) hx hb dX4_rib_12 (by decide) ?_
    exact W.iret hx hb hr (fun t ht _ => ⟨⟨_, u, rfl, h, hPr ht hP⟩, hS.F ht⟩) hS.2.2 dX4_rib_13
set_option maxHeartbeats 4000000 in
set_option maxRecDepth 100000 in
theorem c_X4_ribs (l : Launch) (dC : Nat → ClassId) (dI : Nat → Nat → Nat) (b0 h0 h1 h2 g0 g1 : Nat) (cI : ClassId) (sz : Nat) {u : St × St} {x1 : Int32} {x2 : Int32} {post : Int32 → (St × St) → Prop} (h : P_X4_ribs u x1 x2 post) : Met l yX4_ribs wsX4_ribs ({ frames := 1, cells := 0, slots := 0, locals := 22 } : Room) (MPre (dC, dI) vwCl (wX b0 h0 h1 h2 g0 g1 cI u) [(cI, .int)] sz [.ref b0, .int x1, .int x2]) (va_Qi post (fun (u2 : St × St) (t : State) => va_P (dC, dI) vwCl (wX b0 h0 h1 h2 g0 g1 cI u2) t.heap) (va_A (wX b0 h0 h1 h2 g0 g1 cI u) sz)) 0 0 (va_A (wX b0 h0 h1 h2 g0 g1 cI u) sz) := by
  refine Met.ofW (cc := cX4_ribs) (maxL := 4) (ret := (some .int)) (by decide) rfl ?_
  intro p e s m args below meth c s₁ B hml hv
  obtain ⟨rfl, hsz, hP, hK, hD0⟩ := hv
  have hx := B.exec
  have hb := B.bytes
  have hr := B.returns
  have hts := atoms_spec (ws := wsX4_ribs) B.pre
  have hown : s.vm.findClass RX4 = some m.cls := findClass_of_methodNamed B.named
  have hlocks := B.notSynchronized
  subst hsz
  have hD1 := hD0.self (sz := s.heap.size)
  generalize hAe : va_A (wX b0 h0 h1 h2 g0 g1 cI u) s.heap.size = A at hD1 ⊢
  have hA : ∀ q : Nat, s.heap.size ≤ q → A q := fun q h => by rw [← hAe]; exact Or.inr h
  have hD : ∀ z, va_D A (wX b0 h0 h1 h2 g0 g1 cI z) := fun z => va_Dsame hD1 rfl
  have hS : va_S A s.heap s.heap [] := va_S.rf
  have hl := lv_entry ([.ref b0, .int x1, .int x2]) (n := 4) (Nat.le_of_ble_eq_true rfl)
  rw [lg_entry_eq]
  generalize (lg_sl ([.ref b0, .int x1, .int x2]) ++ List.replicate (4 - (lg_sl ([.ref b0, .int x1, .int x2])).length) Slot.unset).toArray = ls at hl ⊢
  have hl : lv_has ls 4 [(0, .ref b0), (1, .int x1), (2, .int x2)] := hl
  have i_X4 : ∀ w ∈ u_ws RX4 TX4 2, w ∈ wsX4_ribs := by decide +kernel
  have f_10 := hts (.fieldLink RX4 10 "SliceBody" "solid" "LSliceBody$Solid;") (by decide +kernel)
  have f_19 := hts (.fieldLink RX4 19 "SliceBody" "boards" "LSliceBody$Boards;") (by decide +kernel)
  unfold P_X4_ribs at h
  refine lv_iload_n hx hb dX4_ribs_0 rfl (lv_at hl 1 rfl) ?_
  refine lv_if_lt (tgt := 27) hx hb dX4_ribs_1 (by decide) (fun c_1 => ?_) (fun c_1 => ?_)
  · have h := br1 h c_1
    refine lv_bipush (v := (-2)) hx hb dX4_ribs_27 (by decide) ?_
    exact W.iret hx hb hr (fun t ht _ => ⟨⟨_, u, rfl, h, hPr ht hP⟩, hS.F ht⟩) hS.2.2 dX4_ribs_29
  · have h := br2 h c_1
    refine lv_iload_n hx hb dX4_ribs_4 rfl (lv_at hl 1 rfl) ?_
    refine lv_iconst (v := 1) hx hb dX4_ribs_5 (by decide) ?_
    refine lv_icmp_gt (tgt := 27) hx hb dX4_ribs_6 (by decide) (fun c_6 => ?_) (fun c_6 => ?_)
    · have h := br1 h c_6
      refine lv_bipush (v := (-2)) hx hb dX4_ribs_27 (by decide) ?_
      exact W.iret hx hb hr (fun t ht _ => ⟨⟨_, u, rfl, h, hPr ht hP⟩, hS.F ht⟩) hS.2.2 dX4_ribs_29
    · have h := br2 h c_6
      refine lv_iload_n hx hb dX4_ribs_9 rfl (lv_at hl 2 rfl) ?_
      refine lv_if_lt (tgt := 27) hx hb dX4_ribs_10 (by decide) (fun c_10 => ?_) (fun c_10 => ?_)
      · have h := br1 h c_10
        refine lv_bipush (v := (-2)) hx hb dX4_ribs_27 (by decide) ?_
        exact W.iret hx hb hr (fun t ht _ => ⟨⟨_, u, rfl, h, hPr ht hP⟩, hS.F ht⟩) hS.2.2 dX4_ribs_29
      · have h := br2 h c_10
        refine lv_iload_n hx hb dX4_ribs_13 rfl (lv_at hl 2 rfl) ?_
        refine lv_iconst (v := 1) hx hb dX4_ribs_14 (by decide) ?_
        refine lv_aload_n hx hb dX4_ribs_15 rfl (lv_at hl 0 rfl) ?_
        refine va_get (D := (dC, dI)) (ci := 2) (v := .ref h0) (C := RX4) (T := TX4) (N := 2) hx hb hts i_X4 hown hK hP 0 rfl rfl 0 (by decide) f_10 (fun _ h9 => h9) rfl dX4_ribs_16 ?_
        refine lv_iload_n hx hb dX4_ribs_19 rfl (lv_at hl 1 rfl) ?_
        have hPs := hP.sub (ws' := wS h0 h1 h2 cI u.1) [1, 2, 3] rfl
        refine vp_callSi (W.runV (As := [.int _]) (rest := [.int _, .int _]) ⟨hx, hb, hml, hown, hts⟩ (c_X3_ribCount l dC dI h0 h1 h2 cI h) (cwV 1 hts gX4_ribs_X3_ribCount rfl rfl rfl (by decide +kernel) ⟨Nat.le_of_ble_eq_true rfl, Nat.le_of_ble_eq_true rfl⟩) ⟨fbR, va_recv hK hPs (ci := 1) (q0 := 0) rfl rfl, fun U hU hW => ⟨rfl, by rw [hU]; exact hPs, va_K.moved hW.alike hK⟩⟩ rfl rfl hl.1 rfl (lv_room (Nat.le_of_ble_eq_true rfl)) dX4_ribs_20 ⟨Nat.zero_le _, Nat.zero_le _⟩) (fun r_1 h => ?_)
        refine lv_ishl hx hb dX4_ribs_23 ?_
        refine lv_icmp_lt (tgt := 30) hx hb dX4_ribs_24 (by decide) (fun c_24 => ?_) (fun c_24 => ?_)
        · have h := br1 h c_24
          refine lv_aload_n hx hb dX4_ribs_30 rfl (lv_at hl 0 rfl) ?_
          refine va_get (D := (dC, dI)) (ci := 2) (v := .ref h0) (C := RX4) (T := TX4) (N := 2) hx hb hts i_X4 hown hK hP 0 rfl rfl 0 (by decide) f_10 (fun _ h9 => h9) rfl dX4_ribs_31 ?_
          refine lv_iload_n hx hb dX4_ribs_34 rfl (lv_at hl 1 rfl) ?_
          have hPs := hP.sub (ws' := wS h0 h1 h2 cI u.1) [1, 2, 3] rfl
          refine vp_callSi (W.runV (As := [.int _]) (rest := []) ⟨hx, hb, hml, hown, hts⟩ (c_X3_chosenBits l dC dI h0 h1 h2 cI h) (cwV 1 hts gX4_ribs_X3_chosenBits rfl rfl rfl (by decide +kernel) ⟨Nat.le_of_ble_eq_true rfl, Nat.le_of_ble_eq_true rfl⟩) ⟨fbR, va_recv hK hPs (ci := 1) (q0 := 0) rfl rfl, fun U hU hW => ⟨rfl, by rw [hU]; exact hPs, va_K.moved hW.alike hK⟩⟩ rfl rfl hl.1 rfl (lv_room (Nat.le_of_ble_eq_true rfl)) dX4_ribs_35 ⟨Nat.zero_le _, Nat.zero_le _⟩) (fun r_2 h => ?_)
          refine lv_istore_n (lv' := [(3, .int r_2), (0, .ref b0), (1, .int x1), (2, .int x2)]) hx hb dX4_ribs_38 rfl hl (by decide) rfl (fun ls hl => ?_)
          refine lv_aload_n hx hb dX4_ribs_39 rfl (lv_at hl 1 rfl) ?_
          refine va_get (D := (dC, dI)) (ci := 2) (v := .ref h0) (C := RX4) (T := TX4) (N := 2) hx hb hts i_X4 hown hK hP 0 rfl rfl 0 (by decide) f_10 (fun _ h9 => h9) rfl dX4_ribs_40 ?_
          refine lv_iload_n hx hb dX4_ribs_43 rfl (lv_at hl 2 rfl) ?_
          refine lv_iload_n hx hb dX4_ribs_44 rfl (lv_at hl 3 rfl) ?_
          have hPs := hP.sub (ws' := wS h0 h1 h2 cI u.1) [1, 2, 3] rfl
          have hDs := (hD u).sub (ws' := wS h0 h1 h2 cI u.1) [1, 2, 3] (by decide) rfl
          have hFc := fr_all (ws := wS h0 h1 h2 cI u.1) (hDs) hS hA
          refine va_callv (va_runV (As := [.int _, .int _]) (rest := []) ⟨hx, hb, hml, hown, hts⟩ (c_X3_choose l dC dI h0 h1 h2 cI (s.heap).size h) (cwV 2 hts gX4_ribs_X3_choose rfl rfl rfl (by decide +kernel) ⟨Nat.le_of_ble_eq_true rfl, Nat.le_of_ble_eq_true rfl⟩) ⟨fbM, va_recv hK hPs (ci := 1) (q0 := 0) rfl rfl, fun U hU hW => ⟨rfl, by rw [hU], by rw [hU]; exact hPs, va_K.moved hW.alike hK, (hDs).weaken (fun _ _ _ _ => trivial)⟩⟩ rfl rfl hl.1 rfl (lv_room (Nat.le_of_ble_eq_true rfl)) dX4_ribs_45 ⟨Nat.zero_le _, Nat.zero_le _⟩) hS (fun q _ h => hFc q h) hFc (fun z_5 t H locs ht _ h hP1 _ hk1 hS => ?_)
          obtain ⟨u_4, eu_4⟩ : ∃ z : St × St, z = (z_5, u.2) := ⟨_, rfl⟩
          have h := h u_4 eu_4
          have hP : va_P (dC, dI) vwCl (wX b0 h0 h1 h2 g0 g1 cI u_4) H := by rw [eu_4]; exact X_joinS hP (hD _) hk1 hFc (by rw [← ht]; exact hP1)
          refine lv_aload_n hx hb dX4_ribs_48 rfl (lv_at hl 1 rfl) ?_
          refine va_get (D := (dC, dI)) (ci := 2) (v := .ref g0) (C := RX4) (T := TX4) (N := 2) hx hb hts i_X4 hown hK hP 0 rfl rfl 1 (by decide) f_19 (fun _ h9 => h9) rfl dX4_ribs_49 ?_
          have hPs := hP.sub (ws' := wB g0 g1 cI u_4.2) [4, 5] rfl
          have hDs := (hD u_4).sub (ws' := wB g0 g1 cI u_4.2) [4, 5] (by decide) rfl
          have hFc := fr_all (ws := wB g0 g1 cI u_4.2) (hDs) hS hA
          refine va_callv (va_runV (As := []) (rest := []) ⟨hx, hb, hml, hown, hts⟩ (c_X0_forget l dC dI g0 g1 cI (H).size h) (cwV 0 hts gX4_ribs_X0_forget rfl rfl rfl (by decide +kernel) ⟨Nat.le_of_ble_eq_true rfl, Nat.le_of_ble_eq_true rfl⟩) ⟨fbM, va_recv hK hPs (ci := 0) (q0 := 0) rfl rfl, fun U hU hW => ⟨rfl, by rw [hU], by rw [hU]; exact hPs, va_K.moved hW.alike hK, (hDs).weaken (fun _ _ _ _ => trivial)⟩⟩ rfl rfl hl.1 rfl (lv_room (Nat.le_of_ble_eq_true rfl)) dX4_ribs_52 ⟨Nat.zero_le _, Nat.zero_le _⟩) hS (fun q _ h => hFc q h) hFc (fun z_8 t H locs ht _ h hP1 _ hk1 hS => ?_)
          obtain ⟨u_7, eu_7⟩ : ∃ z : St × St, z = (u_4.1, z_8) := ⟨_, rfl⟩
          have h := h u_7 eu_7
          have hP : va_P (dC, dI) vwCl (wX b0 h0 h1 h2 g0 g1 cI u_7) H := by rw [eu_7]; exact X_joinB hP (hD _) hk1 hFc (by rw [← ht]; exact hP1)
          refine lv_iload_n hx hb dX4_ribs_55 rfl (lv_at hl 0 rfl) ?_
          exact W.iret hx hb hr (fun t ht _ => ⟨⟨_, u_7, rfl, h, hPr ht hP⟩, hS.F ht⟩) hS.2.2 dX4_ribs_56
        · have h := br2 h c_24
          refine lv_bipush (v := (-2)) hx hb dX4_ribs_27 (by decide) ?_
          exact W.iret hx hb hr (fun t ht _ => ⟨⟨_, u, rfl, h, hPr ht hP⟩, hS.F ht⟩) hS.2.2 dX4_ribs_29
set_option maxHeartbeats 4000000 in
set_option maxRecDepth 100000 in
theorem c_X4_figure (l : Launch) (dC : Nat → ClassId) (dI : Nat → Nat → Nat) (b0 h0 h1 h2 g0 g1 : Nat) (cI : ClassId) {u : St × St} {x1 : Int32} {x2 : Int32} {x3 : Int32} {x4 : Int32} {x5 : Int32} {post : Int32 → Prop} (h : P_X4_figure u x1 x2 x3 x4 x5 post) : Met l yX4_figure wsX4_figure ({ frames := 4, cells := 0, slots := 0, locals := 95 } : Room) (RPre (dC, dI) vwCl (wX b0 h0 h1 h2 g0 g1 cI u) [(cI, .int)] [.ref b0, .int x1, .int x2, .int x3, .int x4, .int x5]) (vp_Si post) 0 0 (fun _ => False) := by
  refine Met.ofW (cc := cX4_figure) (maxL := 8) (ret := (some .int)) (by decide) rfl ?_
  intro p e s m args below meth c s₁ B hml hv
  obtain ⟨rfl, hP, hK⟩ := hv
  have hx := B.exec
  have hb := B.bytes
  have hr := B.returns
  have hts := atoms_spec (ws := wsX4_figure) B.pre
  have hown : s.vm.findClass RX4 = some m.cls := findClass_of_methodNamed B.named
  have hlocks := B.notSynchronized
  have hl := lv_entry ([.ref b0, .int x1, .int x2, .int x3, .int x4, .int x5]) (n := 8) (Nat.le_of_ble_eq_true rfl)
  rw [lg_entry_eq]
  generalize (lg_sl ([.ref b0, .int x1, .int x2, .int x3, .int x4, .int x5]) ++ List.replicate (8 - (lg_sl ([.ref b0, .int x1, .int x2, .int x3, .int x4, .int x5])).length) Slot.unset).toArray = ls at hl ⊢
  have hl : lv_has ls 8 [(0, .ref b0), (1, .int x1), (2, .int x2), (3, .int x3), (4, .int x4), (5, .int x5)] := hl
  have i_X4 : ∀ w ∈ u_ws RX4 TX4 2, w ∈ wsX4_figure := by decide +kernel
  have f_10 := hts (.fieldLink RX4 10 "SliceBody" "solid" "LSliceBody$Solid;") (by decide +kernel)
  unfold P_X4_figure at h
  refine lv_aload_n hx hb dX4_figure_0 rfl (lv_at hl 0 rfl) ?_
  refine va_get (D := (dC, dI)) (ci := 2) (v := .ref h0) (C := RX4) (T := TX4) (N := 2) hx hb hts i_X4 hown hK hP 0 rfl rfl 0 (by decide) f_10 (fun _ h9 => h9) rfl dX4_figure_1 ?_
  refine lv_iload_n hx hb dX4_figure_4 rfl (lv_at hl 1 rfl) ?_
  refine lv_iload_n hx hb dX4_figure_5 rfl (lv_at hl 2 rfl) ?_
  have hPs := hP.sub (ws' := wS h0 h1 h2 cI u.1) [1, 2, 3] rfl
  refine vp_callSi (W.runV (As := [.int _, .int _]) (rest := []) ⟨hx, hb, hml, hown, hts⟩ (c_X3_hasRib l dC dI h0 h1 h2 cI h) (cwV 2 hts gX4_figure_X3_hasRib rfl rfl rfl (by decide +kernel) ⟨Nat.le_of_ble_eq_true rfl, Nat.le_of_ble_eq_true rfl⟩) ⟨fbR, va_recv hK hPs (ci := 1) (q0 := 0) rfl rfl, fun U hU hW => ⟨rfl, by rw [hU]; exact hPs, va_K.moved hW.alike hK⟩⟩ rfl rfl hl.1 rfl (lv_room (Nat.le_of_ble_eq_true rfl)) dX4_figure_6 ⟨Nat.zero_le _, Nat.zero_le _⟩) (fun r_1 h => ?_)
  refine lv_if_eq (tgt := 38) hx hb dX4_figure_9 (by decide) (fun c_9 => ?_) (fun c_9 => ?_)
  · have h := br1 h c_9
    refine lv_iconst (v := (-1)) hx hb dX4_figure_38 (by decide) ?_
    exact W.iret hx hb hr (fun t ht _ => ⟨_, rfl, h, ht⟩) (fun q hq => by cases hq) dX4_figure_39
  · have h := br2 h c_9
    refine lv_aload_n hx hb dX4_figure_12 rfl (lv_at hl 0 rfl) ?_
    refine va_get (D := (dC, dI)) (ci := 2) (v := .ref h0) (C := RX4) (T := TX4) (N := 2) hx hb hts i_X4 hown hK hP 0 rfl rfl 0 (by decide) f_10 (fun _ h9 => h9) rfl dX4_figure_13 ?_
    refine lv_iconst (v := 1) hx hb dX4_figure_16 (by decide) ?_
    refine lv_iload_n hx hb dX4_figure_17 rfl (lv_at hl 1 rfl) ?_
    refine lv_isub hx hb dX4_figure_18 ?_
    refine lv_iload_n hx hb dX4_figure_19 rfl (lv_at hl 3 rfl) ?_
    have hPs := hP.sub (ws' := wS h0 h1 h2 cI u.1) [1, 2, 3] rfl
    refine vp_callSi (W.runV (As := [.int _, .int _]) (rest := []) ⟨hx, hb, hml, hown, hts⟩ (c_X3_hasRib l dC dI h0 h1 h2 cI h) (cwV 2 hts gX4_figure_X3_hasRib rfl rfl rfl (by decide +kernel) ⟨Nat.le_of_ble_eq_true rfl, Nat.le_of_ble_eq_true rfl⟩) ⟨fbR, va_recv hK hPs (ci := 1) (q0 := 0) rfl rfl, fun U hU hW => ⟨rfl, by rw [hU]; exact hPs, va_K.moved hW.alike hK⟩⟩ rfl rfl hl.1 rfl (lv_room (Nat.le_of_ble_eq_true rfl)) dX4_figure_20 ⟨Nat.zero_le _, Nat.zero_le _⟩) (fun r_2 h => ?_)
    refine lv_if_eq (tgt := 38) hx hb dX4_figure_23 (by decide) (fun c_23 => ?_) (fun c_23 => ?_)
    · have h := br1 h c_23
      refine lv_iconst (v := (-1)) hx hb dX4_figure_38 (by decide) ?_
      exact W.iret hx hb hr (fun t ht _ => ⟨_, rfl, h, ht⟩) (fun q hq => by cases hq) dX4_figure_39
    · have h := br2 h c_23
      refine lv_aload_n hx hb dX4_figure_26 rfl (lv_at hl 0 rfl) ?_
      refine va_get (D := (dC, dI)) (ci := 2) (v := .ref h0) (C := RX4) (T := TX4) (N := 2) hx hb hts i_X4 hown hK hP 0 rfl rfl 0 (by decide) f_10 (fun _ h9 => h9) rfl dX4_figure_27 ?_
      refine lv_iload hx hb dX4_figure_30 (lv_at hl 4 rfl) ?_
      have hPs := hP.sub (ws' := wS h0 h1 h2 cI u.1) [1, 2, 3] rfl
      refine vp_callSi (W.runV (As := [.int _]) (rest := []) ⟨hx, hb, hml, hown, hts⟩ (c_X3_hasLayer l dC dI h0 h1 h2 cI h) (cwV 1 hts gX4_figure_X3_hasLayer rfl rfl rfl (by decide +kernel) ⟨Nat.le_of_ble_eq_true rfl, Nat.le_of_ble_eq_true rfl⟩) ⟨fbR, va_recv hK hPs (ci := 1) (q0 := 0) rfl rfl, fun U hU hW => ⟨rfl, by rw [hU]; exact hPs, va_K.moved hW.alike hK⟩⟩ rfl rfl hl.1 rfl (lv_room (Nat.le_of_ble_eq_true rfl)) dX4_figure_32 ⟨Nat.zero_le _, Nat.zero_le _⟩) (fun r_3 h => ?_)
      refine lv_if_ne (tgt := 40) hx hb dX4_figure_35 (by decide) (fun c_35 => ?_) (fun c_35 => ?_)
      · have h := br2 h c_35
        refine lv_iload hx hb dX4_figure_40 (lv_at hl 5 rfl) ?_
        obtain ⟨J_66, hJi_66, h⟩ := jnE1 h
        have hJ_66 : ∀ (w_6 : Int64), J_66 w_6 → ∀ (ls : Array Slot), lv_has ls 8 [(3, .int x3), (4, .int x4)] → W p l e (headSpec wsX4_figure ({ frames := 4, cells := 0, slots := 0, locals := 95 } : Room)).room s m ([.ref b0, .int x1, .int x2, .int x3, .int x4, .int x5] : List Value).toArray below meth c s.heap [] 0 0 (MQ below (vp_Si post) ([.ref b0, .int x1, .int x2, .int x3, .int x4, .int x5] : List Value).toArray s 0 0 (fun _ => False)) (F0 m 66 ls [.long w_6]) := by
          intro w_6 h ls hl
          have h := hJi_66 _ h
          refine lv_lstore (lv' := [(6, .long w_6), (3, .int x3), (4, .int x4)]) hx hb dX4_figure_66 hl (by decide) rfl (fun ls hl => ?_)
          refine lv_lload hx hb dX4_figure_68 (lv_at hl 0 rfl) ?_
          refine lv_iload_n hx hb dX4_figure_70 rfl (lv_at hl 1 rfl) ?_
          refine vp_callSi (W.runS (As := [.long _, .int _]) (rest := []) ⟨hx, hb, hml, hown, hts⟩ (c_X2_columnAt l h) (va_cwS 2 hts gX4_figure_X2_columnAt rfl rfl rfl (by decide +kernel) ⟨Nat.le_of_ble_eq_true rfl, Nat.le_of_ble_eq_true rfl⟩) ⟨fun _ _ _ _ q => q, fun _ _ _ => ⟨rfl, trivial⟩⟩ rfl rfl hl.1 rfl (lv_room (Nat.le_of_ble_eq_true rfl)) dX4_figure_71 ⟨Nat.zero_le _, Nat.zero_le _⟩) (fun r_7 h => ?_)
          refine lv_iload hx hb dX4_figure_74 (lv_at hl 2 rfl) ?_
          refine vp_callSi (W.runS (As := [.int _, .int _]) (rest := []) ⟨hx, hb, hml, hown, hts⟩ (c_X1_hasBit l h) (va_cwS 2 hts gX4_figure_X1_hasBit rfl rfl rfl (by decide +kernel) ⟨Nat.le_of_ble_eq_true rfl, Nat.le_of_ble_eq_true rfl⟩) ⟨fun _ _ _ _ q => q, fun _ _ _ => ⟨rfl, trivial⟩⟩ rfl rfl hl.1 rfl (lv_room (Nat.le_of_ble_eq_true rfl)) dX4_figure_76 ⟨Nat.zero_le _, Nat.zero_le _⟩) (fun r_8 h => ?_)
          refine vp_callSi (W.runS (As := [.int _]) (rest := []) ⟨hx, hb, hml, hown, hts⟩ (c_X4_asNumber l h) (va_cwS 1 hts gX4_figure_X4_asNumber rfl rfl rfl (by decide +kernel) ⟨Nat.le_of_ble_eq_true rfl, Nat.le_of_ble_eq_true rfl⟩) ⟨fun _ _ _ _ q => q, fun _ _ _ => ⟨rfl, trivial⟩⟩ rfl rfl hl.1 rfl (lv_room (Nat.le_of_ble_eq_true rfl)) dX4_figure_79 ⟨Nat.zero_le _, Nat.zero_le _⟩) (fun r_9 h => ?_)
          exact W.iret hx hb hr (fun t ht _ => ⟨_, rfl, h, ht⟩) (fun q hq => by cases hq) dX4_figure_82
        refine lv_if_eq (tgt := 57) hx hb dX4_figure_42 (by decide) (fun c_42 => ?_) (fun c_42 => ?_)
        · have h := br1 h c_42
          refine lv_aload_n hx hb dX4_figure_57 rfl (lv_at hl 0 rfl) ?_
          refine va_get (D := (dC, dI)) (ci := 2) (v := .ref h0) (C := RX4) (T := TX4) (N := 2) hx hb hts i_X4 hown hK hP 0 rfl rfl 0 (by decide) f_10 (fun _ h9 => h9) rfl dX4_figure_58 ?_
          refine lv_iload_n hx hb dX4_figure_61 rfl (lv_at hl 1 rfl) ?_
          refine lv_iload_n hx hb dX4_figure_62 rfl (lv_at hl 2 rfl) ?_
          have hPs := hP.sub (ws' := wS h0 h1 h2 cI u.1) [1, 2, 3] rfl
          refine vp_callSl (W.runV (As := [.int _, .int _]) (rest := []) ⟨hx, hb, hml, hown, hts⟩ (c_X3_figureOf l dC dI h0 h1 h2 cI h) (cwV 2 hts gX4_figure_X3_figureOf rfl rfl rfl (by decide +kernel) ⟨Nat.le_of_ble_eq_true rfl, Nat.le_of_ble_eq_true rfl⟩) ⟨fbR, va_recv hK hPs (ci := 1) (q0 := 0) rfl rfl, fun U hU hW => ⟨rfl, by rw [hU]; exact hPs, va_K.moved hW.alike hK⟩⟩ rfl rfl hl.1 rfl (lv_room (Nat.le_of_ble_eq_true rfl)) dX4_figure_63 ⟨Nat.zero_le _, Nat.zero_le _⟩) (fun r_4 h => ?_)
          exact hJ_66 _ h _ (lv_sub hl [3, 4] rfl)
        · have h := br2 h c_42
          refine lv_aload_n hx hb dX4_figure_45 rfl (lv_at hl 0 rfl) ?_
          refine va_get (D := (dC, dI)) (ci := 2) (v := .ref h0) (C := RX4) (T := TX4) (N := 2) hx hb hts i_X4 hown hK hP 0 rfl rfl 0 (by decide) f_10 (fun _ h9 => h9) rfl dX4_figure_46 ?_
          refine lv_iload_n hx hb dX4_figure_49 rfl (lv_at hl 1 rfl) ?_
          refine lv_iload_n hx hb dX4_figure_50 rfl (lv_at hl 2 rfl) ?_
          have hPs := hP.sub (ws' := wS h0 h1 h2 cI u.1) [1, 2, 3] rfl
          refine vp_callSl (W.runV (As := [.int _, .int _]) (rest := []) ⟨hx, hb, hml, hown, hts⟩ (c_X3_cutOf l dC dI h0 h1 h2 cI h) (cwV 2 hts gX4_figure_X3_cutOf rfl rfl rfl (by decide +kernel) ⟨Nat.le_of_ble_eq_true rfl, Nat.le_of_ble_eq_true rfl⟩) ⟨fbR, va_recv hK hPs (ci := 1) (q0 := 0) rfl rfl, fun U hU hW => ⟨rfl, by rw [hU]; exact hPs, va_K.moved hW.alike hK⟩⟩ rfl rfl hl.1 rfl (lv_room (Nat.le_of_ble_eq_true rfl)) dX4_figure_51 ⟨Nat.zero_le _, Nat.zero_le _⟩) (fun r_5 h => ?_)
          refine lv_goto (tgt := 66) hx hb dX4_figure_54 (by decide) ?_
          exact hJ_66 _ h _ (lv_sub hl [3, 4] rfl)
      · have h := br1 h c_35
        refine lv_iconst (v := (-1)) hx hb dX4_figure_38 (by decide) ?_
        exact W.iret hx hb hr (fun t ht _ => ⟨_, rfl, h, ht⟩) (fun q hq => by cases hq) dX4_figure_39
set_option maxHeartbeats 4000000 in
set_option maxRecDepth 100000 in
theorem c_X4_about (l : Launch) (dC : Nat → ClassId) (dI : Nat → Nat → Nat) (b0 h0 h1 h2 g0 g1 : Nat) (cI : ClassId) {u : St × St} {x1 : Int32} {x2 : Int32} {x3 : Int32} {post : Int32 → Prop} (h : P_X4_about u x1 x2 x3 post) : Met l yX4_about wsX4_about ({ frames := 5, cells := 0, slots := 0, locals := 121 } : Room) (RPre (dC, dI) vwCl (wX b0 h0 h1 h2 g0 g1 cI u) [(cI, .int)] [.ref b0, .int x1, .int x2, .int x3]) (vp_Si post) 0 0 (fun _ => False) := by
  refine Met.ofW (cc := cX4_about) (maxL := 4) (ret := (some .int)) (by decide) rfl ?_
  intro p e s m args below meth c s₁ B hml hv
  obtain ⟨rfl, hP, hK⟩ := hv
  have hx := B.exec
  have hb := B.bytes
  have hr := B.returns
  have hts := atoms_spec (ws := wsX4_about) B.pre
  have hown : s.vm.findClass RX4 = some m.cls := findClass_of_methodNamed B.named
  have hlocks := B.notSynchronized
  have hl := lv_entry ([.ref b0, .int x1, .int x2, .int x3]) (n := 4) (Nat.le_of_ble_eq_true rfl)
  rw [lg_entry_eq]
  generalize (lg_sl ([.ref b0, .int x1, .int x2, .int x3]) ++ List.replicate (4 - (lg_sl ([.ref b0, .int x1, .int x2, .int x3])).length) Slot.unset).toArray = ls at hl ⊢
  have hl : lv_has ls 4 [(0, .ref b0), (1, .int x1), (2, .int x2), (3, .int x3)] := hl
  have i_X4 : ∀ w ∈ u_ws RX4 TX4 2, w ∈ wsX4_about := by decide +kernel
  have f_10 := hts (.fieldLink RX4 10 "SliceBody" "solid" "LSliceBody$Solid;") (by decide +kernel)
  unfold P_X4_about at h
  refine lv_aload_n hx hb dX4_about_0 rfl (lv_at hl 0 rfl) ?_
  refine va_get (D := (dC, dI)) (ci := 2) (v := .ref h0) (C := RX4) (T := TX4) (N := 2) hx hb hts i_X4 hown hK hP 0 rfl rfl 0 (by decide) f_10 (fun _ h9 => h9) rfl dX4_about_1 ?_
  refine lv_iload_n hx hb dX4_about_4 rfl (lv_at hl 1 rfl) ?_
  refine lv_iload_n hx hb dX4_about_5 rfl (lv_at hl 2 rfl) ?_
  have hPs := hP.sub (ws' := wS h0 h1 h2 cI u.1) [1, 2, 3] rfl
  refine vp_callSi (W.runV (As := [.int _, .int _]) (rest := []) ⟨hx, hb, hml, hown, hts⟩ (c_X3_hasRib l dC dI h0 h1 h2 cI h) (cwV 2 hts gX4_about_X3_hasRib rfl rfl rfl (by decide +kernel) ⟨Nat.le_of_ble_eq_true rfl, Nat.le_of_ble_eq_true rfl⟩) ⟨fbR, va_recv hK hPs (ci := 1) (q0 := 0) rfl rfl, fun U hU hW => ⟨rfl, by rw [hU]; exact hPs, va_K.moved hW.alike hK⟩⟩ rfl rfl hl.1 rfl (lv_room (Nat.le_of_ble_eq_true rfl)) dX4_about_6 ⟨Nat.zero_le _, Nat.zero_le _⟩) (fun r_1 h => ?_)
  refine lv_if_ne (tgt := 14) hx hb dX4_about_9 (by decide) (fun c_9 => ?_) (fun c_9 => ?_)
  · have h := br2 h c_9
    refine lv_iload_n hx hb dX4_about_14 rfl (lv_at hl 3 rfl) ?_
    rcases Decidable.em (x3 = 0) with c_15_0 | c_15_0
    · have h := br1 h c_15_0
      refine lv_tableIn (off := 49) (tgt := 64) hx hb dX4_about_15 (by rw [c_15_0]; decide) (by rw [c_15_0]; decide) (by rw [c_15_0]; rfl) (by decide) ?_
      refine lv_aload_n hx hb dX4_about_64 rfl (lv_at hl 0 rfl) ?_
      refine va_get (D := (dC, dI)) (ci := 2) (v := .ref h0) (C := RX4) (T := TX4) (N := 2) hx hb hts i_X4 hown hK hP 0 rfl rfl 0 (by decide) f_10 (fun _ h9 => h9) rfl dX4_about_65 ?_
      refine lv_iload_n hx hb dX4_about_68 rfl (lv_at hl 1 rfl) ?_
      refine lv_iload_n hx hb dX4_about_69 rfl (lv_at hl 2 rfl) ?_
      have hPs := hP.sub (ws' := wS h0 h1 h2 cI u.1) [1, 2, 3] rfl
      refine vp_callSl (W.runV (As := [.int _, .int _]) (rest := []) ⟨hx, hb, hml, hown, hts⟩ (c_X3_figureOf l dC dI h0 h1 h2 cI h) (cwV 2 hts gX4_about_X3_figureOf rfl rfl rfl (by decide +kernel) ⟨Nat.le_of_ble_eq_true rfl, Nat.le_of_ble_eq_true rfl⟩) ⟨fbR, va_recv hK hPs (ci := 1) (q0 := 0) rfl rfl, fun U hU hW => ⟨rfl, by rw [hU]; exact hPs, va_K.moved hW.alike hK⟩⟩ rfl rfl hl.1 rfl (lv_room (Nat.le_of_ble_eq_true rfl)) dX4_about_70 ⟨Nat.zero_le _, Nat.zero_le _⟩) (fun r_2 h => ?_)
      refine vp_callSi (W.runS (As := [.long _]) (rest := []) ⟨hx, hb, hml, hown, hts⟩ (c_J13_bitCount_95d88 l h) (va_cwS 1 hts gX4_about_J13_bitCount_95d88 rfl rfl rfl (by decide +kernel) ⟨Nat.le_of_ble_eq_true rfl, Nat.le_of_ble_eq_true rfl⟩) ⟨fun _ _ _ _ q => q, fun _ _ _ => ⟨rfl, trivial⟩⟩ rfl rfl hl.1 rfl (lv_room (Nat.le_of_ble_eq_true rfl)) dX4_about_73 ⟨Nat.zero_le _, Nat.zero_le _⟩) (fun r_3 h => ?_)
      exact W.iret hx hb hr (fun t ht _ => ⟨_, rfl, h, ht⟩) (fun q hq => by cases hq) dX4_about_76
    · have h := br2 h c_15_0
      rcases Decidable.em (x3 = 1) with c_15_1 | c_15_1
      · have h := br1 h c_15_1
        refine lv_tableIn (off := 62) (tgt := 77) hx hb dX4_about_15 (by rw [c_15_1]; decide) (by rw [c_15_1]; decide) (by rw [c_15_1]; rfl) (by decide) ?_
        refine lv_aload_n hx hb dX4_about_77 rfl (lv_at hl 0 rfl) ?_
        refine va_get (D := (dC, dI)) (ci := 2) (v := .ref h0) (C := RX4) (T := TX4) (N := 2) hx hb hts i_X4 hown hK hP 0 rfl rfl 0 (by decide) f_10 (fun _ h9 => h9) rfl dX4_about_78 ?_
        refine lv_iload_n hx hb dX4_about_81 rfl (lv_at hl 1 rfl) ?_
        refine lv_iload_n hx hb dX4_about_82 rfl (lv_at hl 2 rfl) ?_
        have hPs := hP.sub (ws' := wS h0 h1 h2 cI u.1) [1, 2, 3] rfl
        refine vp_callSl (W.runV (As := [.int _, .int _]) (rest := []) ⟨hx, hb, hml, hown, hts⟩ (c_X3_cutOf l dC dI h0 h1 h2 cI h) (cwV 2 hts gX4_about_X3_cutOf rfl rfl rfl (by decide +kernel) ⟨Nat.le_of_ble_eq_true rfl, Nat.le_of_ble_eq_true rfl⟩) ⟨fbR, va_recv hK hPs (ci := 1) (q0 := 0) rfl rfl, fun U hU hW => ⟨rfl, by rw [hU]; exact hPs, va_K.moved hW.alike hK⟩⟩ rfl rfl hl.1 rfl (lv_room (Nat.le_of_ble_eq_true rfl)) dX4_about_83 ⟨Nat.zero_le _, Nat.zero_le _⟩) (fun r_4 h => ?_)
        refine vp_callSi (W.runS (As := [.long _]) (rest := []) ⟨hx, hb, hml, hown, hts⟩ (c_J13_bitCount_95d88 l h) (va_cwS 1 hts gX4_about_J13_bitCount_95d88 rfl rfl rfl (by decide +kernel) ⟨Nat.le_of_ble_eq_true rfl, Nat.le_of_ble_eq_true rfl⟩) ⟨fun _ _ _ _ q => q, fun _ _ _ => ⟨rfl, trivial⟩⟩ rfl rfl hl.1 rfl (lv_room (Nat.le_of_ble_eq_true rfl)) dX4_about_86 ⟨Nat.zero_le _, Nat.zero_le _⟩) (fun r_5 h => ?_)
        exact W.iret hx hb hr (fun t ht _ => ⟨_, rfl, h, ht⟩) (fun q hq => by cases hq) dX4_about_89
      · have h := br2 h c_15_1
        rcases Decidable.em (x3 = 2) with c_15_2 | c_15_2
        · have h := br1 h c_15_2
          refine lv_tableIn (off := 75) (tgt := 90) hx hb dX4_about_15 (by rw [c_15_2]; decide) (by rw [c_15_2]; decide) (by rw [c_15_2]; rfl) (by decide) ?_
          refine lv_aload_n hx hb dX4_about_90 rfl (lv_at hl 0 rfl) ?_
          refine va_get (D := (dC, dI)) (ci := 2) (v := .ref h0) (C := RX4) (T := TX4) (N := 2) hx hb hts i_X4 hown hK hP 0 rfl rfl 0 (by decide) f_10 (fun _ h9 => h9) rfl dX4_about_91 ?_
          refine lv_iload_n hx hb dX4_about_94 rfl (lv_at hl 1 rfl) ?_
          refine lv_iload_n hx hb dX4_about_95 rfl (lv_at hl 2 rfl) ?_
          have hPs := hP.sub (ws' := wS h0 h1 h2 cI u.1) [1, 2, 3] rfl
          refine vp_callSl (W.runV (As := [.int _, .int _]) (rest := []) ⟨hx, hb, hml, hown, hts⟩ (c_X3_figureOf l dC dI h0 h1 h2 cI h) (cwV 2 hts gX4_about_X3_figureOf rfl rfl rfl (by decide +kernel) ⟨Nat.le_of_ble_eq_true rfl, Nat.le_of_ble_eq_true rfl⟩) ⟨fbR, va_recv hK hPs (ci := 1) (q0 := 0) rfl rfl, fun U hU hW => ⟨rfl, by rw [hU]; exact hPs, va_K.moved hW.alike hK⟩⟩ rfl rfl hl.1 rfl (lv_room (Nat.le_of_ble_eq_true rfl)) dX4_about_96 ⟨Nat.zero_le _, Nat.zero_le _⟩) (fun r_6 h => ?_)
          refine vp_callSi (W.runS (As := [.long _]) (rest := []) ⟨hx, hb, hml, hown, hts⟩ (c_X2_partCount l h) (va_cwS 1 hts gX4_about_X2_partCount rfl rfl rfl (by decide +kernel) ⟨Nat.le_of_ble_eq_true rfl, Nat.le_of_ble_eq_true rfl⟩) ⟨fun _ _ _ _ q => q, fun _ _ _ => ⟨rfl, trivial⟩⟩ rfl rfl hl.1 rfl (lv_room (Nat.le_of_ble_eq_true rfl)) dX4_about_99 ⟨Nat.zero_le _, Nat.zero_le _⟩) (fun r_7 h => ?_)
          exact W.iret hx hb hr (fun t ht _ => ⟨_, rfl, h, ht⟩) (fun q hq => by cases hq) dX4_about_102
        · have h := br2 h c_15_2
          rcases Decidable.em (x3 = 3) with c_15_3 | c_15_3
          · have h := br1 h c_15_3
            refine lv_tableIn (off := 88) (tgt := 103) hx hb dX4_about_15 (by rw [c_15_3]; decide) (by rw [c_15_3]; decide) (by rw [c_15_3]; rfl) (by decide) ?_
            refine lv_aload_n hx hb dX4_about_103 rfl (lv_at hl 0 rfl) ?_
            refine va_get (D := (dC, dI)) (ci := 2) (v := .ref h0) (C := RX4) (T := TX4) (N := 2) hx hb hts i_X4 hown hK hP 0 rfl rfl 0 (by decide) f_10 (fun _ h9 => h9) rfl dX4_about_104 ?_
            refine lv_iload_n hx hb dX4_about_107 rfl (lv_at hl 1 rfl) ?_
            refine lv_iload_n hx hb dX4_about_108 rfl (lv_at hl 2 rfl) ?_
            have hPs := hP.sub (ws' := wS h0 h1 h2 cI u.1) [1, 2, 3] rfl
            refine vp_callSl (W.runV (As := [.int _, .int _]) (rest := []) ⟨hx, hb, hml, hown, hts⟩ (c_X3_cutOf l dC dI h0 h1 h2 cI h) (cwV 2 hts gX4_about_X3_cutOf rfl rfl rfl (by decide +kernel) ⟨Nat.le_of_ble_eq_true rfl, Nat.le_of_ble_eq_true rfl⟩) ⟨fbR, va_recv hK hPs (ci := 1) (q0 := 0) rfl rfl, fun U hU hW => ⟨rfl, by rw [hU]; exact hPs, va_K.moved hW.alike hK⟩⟩ rfl rfl hl.1 rfl (lv_room (Nat.le_of_ble_eq_true rfl)) dX4_about_109 ⟨Nat.zero_le _, Nat.zero_le _⟩) (fun r_8 h => ?_)
            refine vp_callSi (W.runS (As := [.long _]) (rest := []) ⟨hx, hb, hml, hown, hts⟩ (c_X2_partCount l h) (va_cwS 1 hts gX4_about_X2_partCount rfl rfl rfl (by decide +kernel) ⟨Nat.le_of_ble_eq_true rfl, Nat.le_of_ble_eq_true rfl⟩) ⟨fun _ _ _ _ q => q, fun _ _ _ => ⟨rfl, trivial⟩⟩ rfl rfl hl.1 rfl (lv_room (Nat.le_of_ble_eq_true rfl)) dX4_about_112 ⟨Nat.zero_le _, Nat.zero_le _⟩) (fun r_9 h => ?_)
            exact W.iret hx hb hr (fun t ht _ => ⟨_, rfl, h, ht⟩) (fun q hq => by cases hq) dX4_about_115
          · have h := br2 h c_15_3
            rcases Decidable.em (x3 = 4) with c_15_4 | c_15_4
            · have h := br1 h c_15_4
              refine lv_tableIn (off := 101) (tgt := 116) hx hb dX4_about_15 (by rw [c_15_4]; decide) (by rw [c_15_4]; decide) (by rw [c_15_4]; rfl) (by decide) ?_
              refine lv_aload_n hx hb dX4_about_116 rfl (lv_at hl 0 rfl) ?_
              refine va_get (D := (dC, dI)) (ci := 2) (v := .ref h0) (C := RX4) (T := TX4) (N := 2) hx hb hts i_X4 hown hK hP 0 rfl rfl 0 (by decide) f_10 (fun _ h9 => h9) rfl dX4_about_117 ?_
              refine lv_iload_n hx hb dX4_about_120 rfl (lv_at hl 1 rfl) ?_
              refine lv_iload_n hx hb dX4_about_121 rfl (lv_at hl 2 rfl) ?_
              have hPs := hP.sub (ws' := wS h0 h1 h2 cI u.1) [1, 2, 3] rfl
              refine vp_callSi (W.runV (As := [.int _, .int _]) (rest := []) ⟨hx, hb, hml, hown, hts⟩ (c_X3_loosePartsOf l dC dI h0 h1 h2 cI h) (cwV 2 hts gX4_about_X3_loosePartsOf rfl rfl rfl (by decide +kernel) ⟨Nat.le_of_ble_eq_true rfl, Nat.le_of_ble_eq_true rfl⟩) ⟨fbR, va_recv hK hPs (ci := 1) (q0 := 0) rfl rfl, fun U hU hW => ⟨rfl, by rw [hU]; exact hPs, va_K.moved hW.alike hK⟩⟩ rfl rfl hl.1 rfl (lv_room (Nat.le_of_ble_eq_true rfl)) dX4_about_122 ⟨Nat.zero_le _, Nat.zero_le _⟩) (fun r_10 h => ?_)
              exact W.iret hx hb hr (fun t ht _ => ⟨_, rfl, h, ht⟩) (fun q hq => by cases hq) dX4_about_125
            · have h := br2 h c_15_4
              rcases Decidable.em (x3 = 5) with c_15_5 | c_15_5
              · have h := br1 h c_15_5
                refine lv_tableIn (off := 111) (tgt := 126) hx hb dX4_about_15 (by rw [c_15_5]; decide) (by rw [c_15_5]; decide) (by rw [c_15_5]; rfl) (by decide) ?_
                refine lv_aload_n hx hb dX4_about_126 rfl (lv_at hl 0 rfl) ?_
                refine va_get (D := (dC, dI)) (ci := 2) (v := .ref h0) (C := RX4) (T := TX4) (N := 2) hx hb hts i_X4 hown hK hP 0 rfl rfl 0 (by decide) f_10 (fun _ h9 => h9) rfl dX4_about_127 ?_
                refine lv_iload_n hx hb dX4_about_130 rfl (lv_at hl 1 rfl) ?_
                refine lv_iload_n hx hb dX4_about_131 rfl (lv_at hl 2 rfl) ?_
                have hPs := hP.sub (ws' := wS h0 h1 h2 cI u.1) [1, 2, 3] rfl
                refine vp_callSi (W.runV (As := [.int _, .int _]) (rest := []) ⟨hx, hb, hml, hown, hts⟩ (c_X3_crossingsWithRun l dC dI h0 h1 h2 cI h) (cwV 2 hts gX4_about_X3_crossingsWithRun rfl rfl rfl (by decide +kernel) ⟨Nat.le_of_ble_eq_true rfl, Nat.le_of_ble_eq_true rfl⟩) ⟨fbR, va_recv hK hPs (ci := 1) (q0 := 0) rfl rfl, fun U hU hW => ⟨rfl, by rw [hU]; exact hPs, va_K.moved hW.alike hK⟩⟩ rfl rfl hl.1 rfl (lv_room (Nat.le_of_ble_eq_true rfl)) dX4_about_132 ⟨Nat.zero_le _, Nat.zero_le _⟩) (fun r_11 h => ?_)
                exact W.iret hx hb hr (fun t ht _ => ⟨_, rfl, h, ht⟩) (fun q hq => by cases hq) dX4_about_135
              · have h := br2 h c_15_5
                rcases Decidable.em (x3 = 6) with c_15_6 | c_15_6
                · have h := br1 h c_15_6
                  refine lv_tableIn (off := 121) (tgt := 136) hx hb dX4_about_15 (by rw [c_15_6]; decide) (by rw [c_15_6]; decide) (by rw [c_15_6]; rfl) (by decide) ?_
                  refine lv_aload_n hx hb dX4_about_136 rfl (lv_at hl 0 rfl) ?_
                  refine va_get (D := (dC, dI)) (ci := 2) (v := .ref h0) (C := RX4) (T := TX4) (N := 2) hx hb hts i_X4 hown hK hP 0 rfl rfl 0 (by decide) f_10 (fun _ h9 => h9) rfl dX4_about_137 ?_
                  refine lv_iload_n hx hb dX4_about_140 rfl (lv_at hl 1 rfl) ?_
                  refine lv_iload_n hx hb dX4_about_141 rfl (lv_at hl 2 rfl) ?_
                  have hPs := hP.sub (ws' := wS h0 h1 h2 cI u.1) [1, 2, 3] rfl
                  refine vp_callSi (W.runV (As := [.int _, .int _]) (rest := []) ⟨hx, hb, hml, hown, hts⟩ (c_X3_runsInCrossings l dC dI h0 h1 h2 cI h) (cwV 2 hts gX4_about_X3_runsInCrossings rfl rfl rfl (by decide +kernel) ⟨Nat.le_of_ble_eq_true rfl, Nat.le_of_ble_eq_true rfl⟩) ⟨fbR, va_recv hK hPs (ci := 1) (q0 := 0) rfl rfl, fun U hU hW => ⟨rfl, by rw [hU]; exact hPs, va_K.moved hW.alike hK⟩⟩ rfl rfl hl.1 rfl (lv_room (Nat.le_of_ble_eq_true rfl)) dX4_about_142 ⟨Nat.zero_le _, Nat.zero_le _⟩) (fun r_12 h => ?_)
                  exact W.iret hx hb hr (fun t ht _ => ⟨_, rfl, h, ht⟩) (fun q hq => by cases hq) dX4_about_145
                · have h := br2 h c_15_6
                  rcases Decidable.em (x3 = 7) with c_15_7 | c_15_7
                  · have h := br1 h c_15_7
                    refine lv_tableIn (off := 131) (tgt := 146) hx hb dX4_about_15 (by rw [c_15_7]; decide) (by rw [c_15_7]; decide) (by rw [c_15_7]; rfl) (by decide) ?_
                    refine lv_aload_n hx hb dX4_about_146 rfl (lv_at hl 0 rfl) ?_
                    refine va_get (D := (dC, dI)) (ci := 2) (v := .ref h0) (C := RX4) (T := TX4) (N := 2) hx hb hts i_X4 hown hK hP 0 rfl rfl 0 (by decide) f_10 (fun _ h9 => h9) rfl dX4_about_147 ?_
                    refine lv_iload_n hx hb dX4_about_150 rfl (lv_at hl 1 rfl) ?_
                    refine lv_iload_n hx hb dX4_about_151 rfl (lv_at hl 2 rfl) ?_
                    have hPs := hP.sub (ws' := wS h0 h1 h2 cI u.1) [1, 2, 3] rfl
                    refine vp_callSl (W.runV (As := [.int _, .int _]) (rest := []) ⟨hx, hb, hml, hown, hts⟩ (c_X3_figureOf l dC dI h0 h1 h2 cI h) (cwV 2 hts gX4_about_X3_figureOf rfl rfl rfl (by decide +kernel) ⟨Nat.le_of_ble_eq_true rfl, Nat.le_of_ble_eq_true rfl⟩) ⟨fbR, va_recv hK hPs (ci := 1) (q0 := 0) rfl rfl, fun U hU hW => ⟨rfl, by rw [hU]; exact hPs, va_K.moved hW.alike hK⟩⟩ rfl rfl hl.1 rfl (lv_room (Nat.le_of_ble_eq_true rfl)) dX4_about_152 ⟨Nat.zero_le _, Nat.zero_le _⟩) (fun r_13 h => ?_)
                    refine vp_callSi (W.runS (As := [.long _]) (rest := []) ⟨hx, hb, hml, hown, hts⟩ (c_X2_spanOfU l h) (va_cwS 1 hts gX4_about_X2_spanOfU rfl rfl rfl (by decide +kernel) ⟨Nat.le_of_ble_eq_true rfl, Nat.le_of_ble_eq_true rfl⟩) ⟨fun _ _ _ _ q => q, fun _ _ _ => ⟨rfl, trivial⟩⟩ rfl rfl hl.1 rfl (lv_room (Nat.le_of_ble_eq_true rfl)) dX4_about_155 ⟨Nat.zero_le _, Nat.zero_le _⟩) (fun r_14 h => ?_)
                    exact W.iret hx hb hr (fun t ht _ => ⟨_, rfl, h, ht⟩) (fun q hq => by cases hq) dX4_about_158
                  · have h := br2 h c_15_7
                    rcases Decidable.em (x3 = 8) with c_15_8 | c_15_8
                    · have h := br1 h c_15_8
                      refine lv_tableIn (off := 144) (tgt := 159) hx hb dX4_about_15 (by rw [c_15_8]; decide) (by rw [c_15_8]; decide) (by rw [c_15_8]; rfl) (by decide) ?_
                      refine lv_aload_n hx hb dX4_about_159 rfl (lv_at hl 0 rfl) ?_
                      refine va_get (D := (dC, dI)) (ci := 2) (v := .ref h0) (C := RX4) (T := TX4) (N := 2) hx hb hts i_X4 hown hK hP 0 rfl rfl 0 (by decide) f_10 (fun _ h9 => h9) rfl dX4_about_160 ?_
                      refine lv_iload_n hx hb dX4_about_163 rfl (lv_at hl 1 rfl) ?_
                      refine lv_iload_n hx hb dX4_about_164 rfl (lv_at hl 2 rfl) ?_
                      have hPs := hP.sub (ws' := wS h0 h1 h2 cI u.1) [1, 2, 3] rfl
                      refine vp_callSl (W.runV (As := [.int _, .int _]) (rest := []) ⟨hx, hb, hml, hown, hts⟩ (c_X3_figureOf l dC dI h0 h1 h2 cI h) (cwV 2 hts gX4_about_X3_figureOf rfl rfl rfl (by decide +kernel) ⟨Nat.le_of_ble_eq_true rfl, Nat.le_of_ble_eq_true rfl⟩) ⟨fbR, va_recv hK hPs (ci := 1) (q0 := 0) rfl rfl, fun U hU hW => ⟨rfl, by rw [hU]; exact hPs, va_K.moved hW.alike hK⟩⟩ rfl rfl hl.1 rfl (lv_room (Nat.le_of_ble_eq_true rfl)) dX4_about_165 ⟨Nat.zero_le _, Nat.zero_le _⟩) (fun r_15 h => ?_)
                      refine vp_callSi (W.runS (As := [.long _]) (rest := []) ⟨hx, hb, hml, hown, hts⟩ (c_X2_spanOfZ l h) (va_cwS 1 hts gX4_about_X2_spanOfZ rfl rfl rfl (by decide +kernel) ⟨Nat.le_of_ble_eq_true rfl, Nat.le_of_ble_eq_true rfl⟩) ⟨fun _ _ _ _ q => q, fun _ _ _ => ⟨rfl, trivial⟩⟩ rfl rfl hl.1 rfl (lv_room (Nat.le_of_ble_eq_true rfl)) dX4_about_168 ⟨Nat.zero_le _, Nat.zero_le _⟩) (fun r_16 h => ?_)
                      exact W.iret hx hb hr (fun t ht _ => ⟨_, rfl, h, ht⟩) (fun q hq => by cases hq) dX4_about_171
                    · have h := br2 h c_15_8
                      refine lv_tableOut (tgt := 172) hx hb dX4_about_15 (by
                        have t_0 : x3.toInt ≠ 0 := fun q => c_15_0 (Int32.toInt_inj.mp (q.trans (by decide)))
                        have t_1 : x3.toInt ≠ 1 := fun q => c_15_1 (Int32.toInt_inj.mp (q.trans (by decide)))
                        have t_2 : x3.toInt ≠ 2 := fun q => c_15_2 (Int32.toInt_inj.mp (q.trans (by decide)))
                        have t_3 : x3.toInt ≠ 3 := fun q => c_15_3 (Int32.toInt_inj.mp (q.trans (by decide)))
                        have t_4 : x3.toInt ≠ 4 := fun q => c_15_4 (Int32.toInt_inj.mp (q.trans (by decide)))
                        have t_5 : x3.toInt ≠ 5 := fun q => c_15_5 (Int32.toInt_inj.mp (q.trans (by decide)))
                        have t_6 : x3.toInt ≠ 6 := fun q => c_15_6 (Int32.toInt_inj.mp (q.trans (by decide)))
                        have t_7 : x3.toInt ≠ 7 := fun q => c_15_7 (Int32.toInt_inj.mp (q.trans (by decide)))
                        have t_8 : x3.toInt ≠ 8 := fun q => c_15_8 (Int32.toInt_inj.mp (q.trans (by decide)))
                        omega) (by decide) ?_
                      refine lv_bipush (v := (-2)) hx hb dX4_about_172 (by decide) ?_
                      exact W.iret hx hb hr (fun t ht _ => ⟨_, rfl, h, ht⟩) (fun q hq => by cases hq) dX4_about_174
  · have h := br1 h c_9
    refine lv_iconst (v := (-1)) hx hb dX4_about_12 (by decide) ?_
    exact W.iret hx hb hr (fun t ht _ => ⟨_, rfl, h, ht⟩) (fun q hq => by cases hq) dX4_about_13
set_option maxHeartbeats 4000000 in
set_option maxRecDepth 100000 in
theorem c_X4_caught (l : Launch) (dC : Nat → ClassId) (dI : Nat → Nat → Nat) (b0 h0 h1 h2 g0 g1 : Nat) (cI : ClassId) {u : St × St} {x1 : Int32} {post : Int32 → Prop} (h : P_X4_caught u x1 post) : Met l yX4_caught wsX4_caught ({ frames := 3, cells := 0, slots := 0, locals := 66 } : Room) (RPre (dC, dI) vwCl (wX b0 h0 h1 h2 g0 g1 cI u) [(cI, .int)] [.ref b0, .int x1]) (vp_Si post) 0 0 (fun _ => False) := by
  refine Met.ofW (cc := cX4_caught) (maxL := 6) (ret := (some .int)) (by decide) rfl ?_
  intro p e s m args below meth c s₁ B hml hv
  obtain ⟨rfl, hP, hK⟩ := hv
  have hx := B.exec
  have hb := B.bytes
  have hr := B.returns
  have hts := atoms_spec (ws := wsX4_caught) B.pre
  have hown : s.vm.findClass RX4 = some m.cls := findClass_of_methodNamed B.named
  have hlocks := B.notSynchronized
  have hl := lv_entry ([.ref b0, .int x1]) (n := 6) (Nat.le_of_ble_eq_true rfl)
  rw [lg_entry_eq]
  generalize (lg_sl ([.ref b0, .int x1]) ++ List.replicate (6 - (lg_sl ([.ref b0, .int x1])).length) Slot.unset).toArray = ls at hl ⊢
  have hl : lv_has ls 6 [(0, .ref b0), (1, .int x1)] := hl
  have i_X3 : ∀ w ∈ u_ws RX3 TX3 7, w ∈ wsX4_caught := by decide +kernel
  have i_X4 : ∀ w ∈ u_ws RX4 TX4 2, w ∈ wsX4_caught := by decide +kernel
  have f_10 := hts (.fieldLink RX4 10 "SliceBody" "solid" "LSliceBody$Solid;") (by decide +kernel)
  have f_52 := hts (.fieldLink RX4 52 "SliceBody$Solid" "wide" "I") (by decide +kernel)
  have f_55 := hts (.fieldLink RX4 55 "SliceBody$Solid" "deep" "I") (by decide +kernel)
  unfold P_X4_caught at h
  refine lv_iconst (v := 0) hx hb dX4_caught_0 (by decide) ?_
  refine lv_istore_n (lv' := [(2, .int (0 : Int32)), (0, .ref b0), (1, .int x1)]) hx hb dX4_caught_1 rfl hl (by decide) rfl (fun ls hl => ?_)
  refine lv_iconst (v := 0) hx hb dX4_caught_2 (by decide) ?_
  refine lv_istore_n (lv' := [(3, .int (0 : Int32)), (2, .int (0 : Int32)), (0, .ref b0), (1, .int x1)]) hx hb dX4_caught_3 rfl hl (by decide) rfl (fun ls hl => ?_)
  obtain ⟨K_4, hKi_4, h⟩ := jnE1 h
  have hK_4 : ∀ (v2_13 : Int32), K_4 v2_13 → ∀ (ls : Array Slot), lv_has ls 6 [(1, .int x1), (2, .int v2_13)] → W p l e (headSpec wsX4_caught ({ frames := 3, cells := 0, slots := 0, locals := 66 } : Room)).room s m ([.ref b0, .int x1] : List Value).toArray below meth c s.heap [] 0 0 (MQ below (vp_Si post) ([.ref b0, .int x1] : List Value).toArray s 0 0 (fun _ => False)) (F0 m 92 ls []) := by
    intro v2_13 h ls hl
    have h := hKi_4 _ h
    refine lv_iload_n hx hb dX4_caught_92 rfl (lv_at hl 0 rfl) ?_
    refine lv_iconst (v := (-1)) hx hb dX4_caught_93 (by decide) ?_
    refine lv_icmp_ne (tgt := 101) hx hb dX4_caught_94 (by decide) (fun c_94 => ?_) (fun c_94 => ?_)
    · have h := br2 h c_94
      refine lv_bipush (v := (-6)) hx hb dX4_caught_101 (by decide) ?_
      exact W.iret hx hb hr (fun t ht _ => ⟨_, rfl, h, ht⟩) (fun q hq => by cases hq) dX4_caught_103
    · have h := br1 h c_94
      refine lv_iload_n hx hb dX4_caught_97 rfl (lv_at hl 1 rfl) ?_
      refine lv_goto (tgt := 103) hx hb dX4_caught_98 (by decide) ?_
      exact W.iret hx hb hr (fun t ht _ => ⟨_, rfl, h, ht⟩) (fun q hq => by cases hq) dX4_caught_103
  obtain ⟨n, h⟩ := h
  have loop_4 : ∀ (n : Nat) (v2_1 : Int32) (v3_2 : Int32), L_X4_caught_4 post K_4 u x1 n v2_1 v3_2 → ∀ (ls : Array Slot), lv_has ls 6 [(0, .ref b0), (1, .int x1), (2, .int v2_1), (3, .int v3_2)] → W p l e (headSpec wsX4_caught ({ frames := 3, cells := 0, slots := 0, locals := 66 } : Room)).room s m ([.ref b0, .int x1] : List Value).toArray below meth c s.heap [] 0 0 (MQ below (vp_Si post) ([.ref b0, .int x1] : List Value).toArray s 0 0 (fun _ => False)) (F0 m 4 ls []) := by
    intro n
    induction n with
    | zero => intro v2_1 v3_2 h; rw [L_X4_caught_4] at h; exact h.elim
    | succ n ih_4 =>
      intro v2_1 v3_2 h ls hl
      rw [L_X4_caught_4] at h
      refine lv_iload_n hx hb dX4_caught_4 rfl (lv_at hl 3 rfl) ?_
      refine lv_aload_n hx hb dX4_caught_5 rfl (lv_at hl 0 rfl) ?_
      refine va_get (D := (dC, dI)) (ci := 2) (v := .ref h0) (C := RX4) (T := TX4) (N := 2) hx hb hts i_X4 hown hK hP 0 rfl rfl 0 (by decide) f_10 (fun _ h9 => h9) rfl dX4_caught_6 ?_
      refine va_get (D := (dC, dI)) (ci := 1) (v := .int (u.1.1 2)) (C := RX3) (T := TX3) (N := 7) hx hb hts i_X3 hown hK hP 1 rfl rfl 2 (by decide) f_52 (fun _ h9 => h9) rfl dX4_caught_9 ?_
      refine lv_icmp_ge (tgt := 92) hx hb dX4_caught_12 (by decide) (fun c_12 => ?_) (fun c_12 => ?_)
      · have h := br1 h c_12
        exact hK_4 _ h _ (lv_sub hl [1, 2] rfl)
      · have h := br2 h c_12
        refine lv_aload_n hx hb dX4_caught_15 rfl (lv_at hl 0 rfl) ?_
        refine va_get (D := (dC, dI)) (ci := 2) (v := .ref h0) (C := RX4) (T := TX4) (N := 2) hx hb hts i_X4 hown hK hP 0 rfl rfl 0 (by decide) f_10 (fun _ h9 => h9) rfl dX4_caught_16 ?_
        refine lv_iconst (v := 0) hx hb dX4_caught_19 (by decide) ?_
        refine lv_iload_n hx hb dX4_caught_20 rfl (lv_at hl 3 rfl) ?_
        have hPs := hP.sub (ws' := wS h0 h1 h2 cI u.1) [1, 2, 3] rfl
        refine vp_callSi (W.runV (As := [.int _, .int _]) (rest := []) ⟨hx, hb, hml, hown, hts⟩ (c_X3_crossingsOf l dC dI h0 h1 h2 cI h) (cwV 2 hts gX4_caught_X3_crossingsOf rfl rfl rfl (by decide +kernel) ⟨Nat.le_of_ble_eq_true rfl, Nat.le_of_ble_eq_true rfl⟩) ⟨fbR, va_recv hK hPs (ci := 1) (q0 := 0) rfl rfl, fun U hU hW => ⟨rfl, by rw [hU]; exact hPs, va_K.moved hW.alike hK⟩⟩ rfl rfl hl.1 rfl (lv_room (Nat.le_of_ble_eq_true rfl)) dX4_caught_21 ⟨Nat.zero_le _, Nat.zero_le _⟩) (fun r_3 h => ?_)
        refine lv_istore (lv' := [(4, .int r_3), (0, .ref b0), (1, .int x1), (2, .int v2_1), (3, .int v3_2)]) hx hb dX4_caught_24 hl (by decide) rfl (fun ls hl => ?_)
        refine lv_iconst (v := 0) hx hb dX4_caught_26 (by decide) ?_
        refine lv_istore (lv' := [(5, .int (0 : Int32)), (4, .int r_3), (0, .ref b0), (1, .int x1), (2, .int v2_1), (3, .int v3_2)]) hx hb dX4_caught_27 hl (by decide) rfl (fun ls hl => ?_)
        obtain ⟨K_29, hKi_29, h⟩ := jnE1 h
        have hK_29 : ∀ (v2_11 : Int32), K_29 v2_11 → ∀ (ls : Array Slot), lv_has ls 6 [(0, .ref b0), (1, .int x1), (2, .int v2_11), (3, .int v3_2)] → W p l e (headSpec wsX4_caught ({ frames := 3, cells := 0, slots := 0, locals := 66 } : Room)).room s m ([.ref b0, .int x1] : List Value).toArray below meth c s.heap [] 0 0 (MQ below (vp_Si post) ([.ref b0, .int x1] : List Value).toArray s 0 0 (fun _ => False)) (F0 m 86 ls []) := by
          intro v2_11 h ls hl
          have h := hKi_29 _ h
          obtain ⟨y_12, ey_12⟩ : ∃ z : Int32, z = v3_2 + (1 : Int32) := ⟨_, rfl⟩
          have h := h y_12 ey_12
          refine lv_iinc (v := y_12) (lv' := [(3, .int y_12), (0, .ref b0), (1, .int x1), (2, .int v2_11)]) hx hb dX4_caught_86 hl (k := 3) rfl (by rw [ey_12]; rfl) (by decide) rfl (fun ls hl => ?_)
          refine lv_goto (tgt := 4) hx hb dX4_caught_89 (by decide) ?_
          exact ih_4 _ _ h _ (lv_sub hl [1, 2, 3, 0] rfl)
        obtain ⟨n, h⟩ := h
        have loop_29 : ∀ (n : Nat) (v2_4 : Int32) (v5_5 : Int32), L_X4_caught_29 post K_29 u x1 v3_2 r_3 n v2_4 v5_5 → ∀ (ls : Array Slot), lv_has ls 6 [(0, .ref b0), (1, .int x1), (2, .int v2_4), (3, .int v3_2), (4, .int r_3), (5, .int v5_5)] → W p l e (headSpec wsX4_caught ({ frames := 3, cells := 0, slots := 0, locals := 66 } : Room)).room s m ([.ref b0, .int x1] : List Value).toArray below meth c s.heap [] 0 0 (MQ below (vp_Si post) ([.ref b0, .int x1] : List Value).toArray s 0 0 (fun _ => False)) (F0 m 29 ls []) := by
          intro n
          induction n with
          | zero => intro v2_4 v5_5 h; rw [L_X4_caught_29] at h; exact h.elim
          | succ n ih_29 =>
            intro v2_4 v5_5 h ls hl
            rw [L_X4_caught_29] at h
            refine lv_iload hx hb dX4_caught_29 (lv_at hl 5 rfl) ?_
            refine lv_aload_n hx hb dX4_caught_31 rfl (lv_at hl 0 rfl) ?_
            refine va_get (D := (dC, dI)) (ci := 2) (v := .ref h0) (C := RX4) (T := TX4) (N := 2) hx hb hts i_X4 hown hK hP 0 rfl rfl 0 (by decide) f_10 (fun _ h9 => h9) rfl dX4_caught_32 ?_
            refine va_get (D := (dC, dI)) (ci := 1) (v := .int (u.1.1 3)) (C := RX3) (T := TX3) (N := 7) hx hb hts i_X3 hown hK hP 1 rfl rfl 3 (by decide) f_55 (fun _ h9 => h9) rfl dX4_caught_35 ?_
            refine lv_icmp_ge (tgt := 86) hx hb dX4_caught_38 (by decide) (fun c_38 => ?_) (fun c_38 => ?_)
            · have h := br1 h c_38
              exact hK_29 _ h _ (lv_sub hl [0, 1, 2, 3] rfl)
            · have h := br2 h c_38
              refine lv_iload hx hb dX4_caught_41 (lv_at hl 4 rfl) ?_
              refine lv_iload hx hb dX4_caught_43 (lv_at hl 5 rfl) ?_
              refine vp_callSi (W.runS (As := [.int _, .int _]) (rest := []) ⟨hx, hb, hml, hown, hts⟩ (c_X1_hasBit l h) (va_cwS 2 hts gX4_caught_X1_hasBit rfl rfl rfl (by decide +kernel) ⟨Nat.le_of_ble_eq_true rfl, Nat.le_of_ble_eq_true rfl⟩) ⟨fun _ _ _ _ q => q, fun _ _ _ => ⟨rfl, trivial⟩⟩ rfl rfl hl.1 rfl (lv_room (Nat.le_of_ble_eq_true rfl)) dX4_caught_45 ⟨Nat.zero_le _, Nat.zero_le _⟩) (fun r_6 h => ?_)
              obtain ⟨J_80, hJi_80, h⟩ := jnE1 h
              have hJ_80 : ∀ (v2_9 : Int32), J_80 v2_9 → ∀ (ls : Array Slot), lv_has ls 6 [(0, .ref b0), (1, .int x1), (2, .int v2_9), (3, .int v3_2), (4, .int r_3), (5, .int v5_5)] → W p l e (headSpec wsX4_caught ({ frames := 3, cells := 0, slots := 0, locals := 66 } : Room)).room s m ([.ref b0, .int x1] : List Value).toArray below meth c s.heap [] 0 0 (MQ below (vp_Si post) ([.ref b0, .int x1] : List Value).toArray s 0 0 (fun _ => False)) (F0 m 80 ls []) := by
                intro v2_9 h ls hl
                have h := hJi_80 _ h
                obtain ⟨y_10, ey_10⟩ : ∃ z : Int32, z = v5_5 + (1 : Int32) := ⟨_, rfl⟩
                have h := h y_10 ey_10
                refine lv_iinc (v := y_10) (lv' := [(5, .int y_10), (0, .ref b0), (1, .int x1), (2, .int v2_9), (3, .int v3_2), (4, .int r_3)]) hx hb dX4_caught_80 hl (k := 5) rfl (by rw [ey_10]; rfl) (by decide) rfl (fun ls hl => ?_)
                refine lv_goto (tgt := 29) hx hb dX4_caught_83 (by decide) ?_
                exact ih_29 _ _ h _ (lv_sub hl [1, 2, 3, 4, 5, 0] rfl)
              refine lv_if_eq (tgt := 80) hx hb dX4_caught_48 (by decide) (fun c_48 => ?_) (fun c_48 => ?_)
              · have h := br1 h c_48
                exact hJ_80 _ h _ (lv_sub hl [0, 1, 2, 3, 4, 5] rfl)
              · have h := br2 h c_48
                refine lv_aload_n hx hb dX4_caught_51 rfl (lv_at hl 0 rfl) ?_
                refine va_get (D := (dC, dI)) (ci := 2) (v := .ref h0) (C := RX4) (T := TX4) (N := 2) hx hb hts i_X4 hown hK hP 0 rfl rfl 0 (by decide) f_10 (fun _ h9 => h9) rfl dX4_caught_52 ?_
                refine lv_iload_n hx hb dX4_caught_55 rfl (lv_at hl 3 rfl) ?_
                refine lv_iload hx hb dX4_caught_56 (lv_at hl 5 rfl) ?_
                have hPs := hP.sub (ws' := wS h0 h1 h2 cI u.1) [1, 2, 3] rfl
                refine vp_callSi (W.runV (As := [.int _, .int _]) (rest := []) ⟨hx, hb, hml, hown, hts⟩ (c_X3_wouldCatch l dC dI h0 h1 h2 cI h) (cwV 2 hts gX4_caught_X3_wouldCatch rfl rfl rfl (by decide +kernel) ⟨Nat.le_of_ble_eq_true rfl, Nat.le_of_ble_eq_true rfl⟩) ⟨fbR, va_recv hK hPs (ci := 1) (q0 := 0) rfl rfl, fun U hU hW => ⟨rfl, by rw [hU]; exact hPs, va_K.moved hW.alike hK⟩⟩ rfl rfl hl.1 rfl (lv_room (Nat.le_of_ble_eq_true rfl)) dX4_caught_58 ⟨Nat.zero_le _, Nat.zero_le _⟩) (fun r_7 h => ?_)
                refine lv_if_eq (tgt := 80) hx hb dX4_caught_61 (by decide) (fun c_61 => ?_) (fun c_61 => ?_)
                · have h := br1 h c_61
                  exact hJ_80 _ h _ (lv_sub hl [0, 1, 2, 3, 4, 5] rfl)
                · have h := br2 h c_61
                  refine lv_iload_n hx hb dX4_caught_64 rfl (lv_at hl 2 rfl) ?_
                  refine lv_iload_n hx hb dX4_caught_65 rfl (lv_at hl 1 rfl) ?_
                  refine lv_icmp_ne (tgt := 77) hx hb dX4_caught_66 (by decide) (fun c_66 => ?_) (fun c_66 => ?_)
                  · have h := br2 h c_66
                    obtain ⟨y_8, ey_8⟩ : ∃ z : Int32, z = v2_4 + (1 : Int32) := ⟨_, rfl⟩
                    have h := h y_8 ey_8
                    refine lv_iinc (v := y_8) (lv' := [(2, .int y_8), (0, .ref b0), (1, .int x1), (3, .int v3_2), (4, .int r_3), (5, .int v5_5)]) hx hb dX4_caught_77 hl (k := 2) rfl (by rw [ey_8]; rfl) (by decide) rfl (fun ls hl => ?_)
                    exact hJ_80 _ h _ (lv_sub hl [1, 2, 0, 3, 4, 5] rfl)
                  · have h := br1 h c_66
                    refine lv_bipush (v := 10) hx hb dX4_caught_69 (by decide) ?_
                    refine lv_iload_n hx hb dX4_caught_71 rfl (lv_at hl 3 rfl) ?_
                    refine lv_imul hx hb dX4_caught_72 ?_
                    refine lv_iload hx hb dX4_caught_73 (lv_at hl 5 rfl) ?_
                    refine lv_iadd hx hb dX4_caught_75 ?_
                    exact W.iret hx hb hr (fun t ht _ => ⟨_, rfl, h, ht⟩) (fun q hq => by cases hq) dX4_caught_76
        exact loop_29 n _ _ h _ (lv_sub hl [2, 3, 4, 5, 1, 0] rfl)
  exact loop_4 n _ _ h _ (lv_sub hl [2, 3, 1, 0] rfl)
set_option maxHeartbeats 4000000 in
set_option maxRecDepth 100000 in
theorem c_X4_run (l : Launch) (dC : Nat → ClassId) (dI : Nat → Nat → Nat) (b0 h0 h1 h2 g0 g1 : Nat) (cI : ClassId) {u : St × St} {x1 : Int32} {x2 : Int32} {x3 : Int32} {post : Int32 → Prop} (h : P_X4_run u x1 x2 x3 post) : Met l yX4_run wsX4_run ({ frames := 2, cells := 0, slots := 0, locals := 44 } : Room) (RPre (dC, dI) vwCl (wX b0 h0 h1 h2 g0 g1 cI u) [(cI, .int)] [.ref b0, .int x1, .int x2, .int x3]) (vp_Si post) 0 0 (fun _ => False) := by
  refine Met.ofW (cc := cX4_run) (maxL := 7) (ret := (some .int)) (by decide) rfl ?_
  intro p e s m args below meth c s₁ B hml hv
  obtain ⟨rfl, hP, hK⟩ := hv
  have hx := B.exec
  have hb := B.bytes
  have hr := B.returns
  have hts := atoms_spec (ws := wsX4_run) B.pre
  have hown : s.vm.findClass RX4 = some m.cls := findClass_of_methodNamed B.named
  have hlocks := B.notSynchronized
  have hl := lv_entry ([.ref b0, .int x1, .int x2, .int x3]) (n := 7) (Nat.le_of_ble_eq_true rfl)
  rw [lg_entry_eq]
  generalize (lg_sl ([.ref b0, .int x1, .int x2, .int x3]) ++ List.replicate (7 - (lg_sl ([.ref b0, .int x1, .int x2, .int x3])).length) Slot.unset).toArray = ls at hl ⊢
  have hl : lv_has ls 7 [(0, .ref b0), (1, .int x1), (2, .int x2), (3, .int x3)] := hl
  have i_X3 : ∀ w ∈ u_ws RX3 TX3 7, w ∈ wsX4_run := by decide +kernel
  have i_X4 : ∀ w ∈ u_ws RX4 TX4 2, w ∈ wsX4_run := by decide +kernel
  have f_10 := hts (.fieldLink RX4 10 "SliceBody" "solid" "LSliceBody$Solid;") (by decide +kernel)
  have f_37 := hts (.fieldLink RX4 37 "SliceBody$Solid" "high" "I") (by decide +kernel)
  unfold P_X4_run at h
  refine lv_aload_n hx hb dX4_run_0 rfl (lv_at hl 0 rfl) ?_
  refine va_get (D := (dC, dI)) (ci := 2) (v := .ref h0) (C := RX4) (T := TX4) (N := 2) hx hb hts i_X4 hown hK hP 0 rfl rfl 0 (by decide) f_10 (fun _ h9 => h9) rfl dX4_run_1 ?_
  refine lv_iload_n hx hb dX4_run_4 rfl (lv_at hl 1 rfl) ?_
  refine lv_iload_n hx hb dX4_run_5 rfl (lv_at hl 2 rfl) ?_
  have hPs := hP.sub (ws' := wS h0 h1 h2 cI u.1) [1, 2, 3] rfl
  refine vp_callSi (W.runV (As := [.int _, .int _]) (rest := []) ⟨hx, hb, hml, hown, hts⟩ (c_X3_hasColumn l dC dI h0 h1 h2 cI h) (cwV 2 hts gX4_run_X3_hasColumn rfl rfl rfl (by decide +kernel) ⟨Nat.le_of_ble_eq_true rfl, Nat.le_of_ble_eq_true rfl⟩) ⟨fbR, va_recv hK hPs (ci := 1) (q0 := 0) rfl rfl, fun U hU hW => ⟨rfl, by rw [hU]; exact hPs, va_K.moved hW.alike hK⟩⟩ rfl rfl hl.1 rfl (lv_room (Nat.le_of_ble_eq_true rfl)) dX4_run_6 ⟨Nat.zero_le _, Nat.zero_le _⟩) (fun r_1 h => ?_)
  refine lv_if_ne (tgt := 14) hx hb dX4_run_9 (by decide) (fun c_9 => ?_) (fun c_9 => ?_)
  · have h := br2 h c_9
    refine lv_aload_n hx hb dX4_run_14 rfl (lv_at hl 0 rfl) ?_
    refine va_get (D := (dC, dI)) (ci := 2) (v := .ref h0) (C := RX4) (T := TX4) (N := 2) hx hb hts i_X4 hown hK hP 0 rfl rfl 0 (by decide) f_10 (fun _ h9 => h9) rfl dX4_run_15 ?_
    refine lv_iload_n hx hb dX4_run_18 rfl (lv_at hl 1 rfl) ?_
    refine lv_iload_n hx hb dX4_run_19 rfl (lv_at hl 2 rfl) ?_
    have hPs := hP.sub (ws' := wS h0 h1 h2 cI u.1) [1, 2, 3] rfl
    refine vp_callSi (W.runV (As := [.int _, .int _]) (rest := []) ⟨hx, hb, hml, hown, hts⟩ (c_X3_columnAt l dC dI h0 h1 h2 cI h) (cwV 2 hts gX4_run_X3_columnAt rfl rfl rfl (by decide +kernel) ⟨Nat.le_of_ble_eq_true rfl, Nat.le_of_ble_eq_true rfl⟩) ⟨fbR, va_recv hK hPs (ci := 1) (q0 := 0) rfl rfl, fun U hU hW => ⟨rfl, by rw [hU]; exact hPs, va_K.moved hW.alike hK⟩⟩ rfl rfl hl.1 rfl (lv_room (Nat.le_of_ble_eq_true rfl)) dX4_run_20 ⟨Nat.zero_le _, Nat.zero_le _⟩) (fun r_2 h => ?_)
    refine lv_istore (lv' := [(4, .int r_2), (0, .ref b0), (1, .int x1), (2, .int x2), (3, .int x3)]) hx hb dX4_run_23 hl (by decide) rfl (fun ls hl => ?_)
    refine lv_iconst (v := 0) hx hb dX4_run_25 (by decide) ?_
    refine lv_istore (lv' := [(5, .int (0 : Int32)), (4, .int r_2), (0, .ref b0), (1, .int x1), (2, .int x2), (3, .int x3)]) hx hb dX4_run_26 hl (by decide) rfl (fun ls hl => ?_)
    refine lv_iconst (v := 0) hx hb dX4_run_28 (by decide) ?_
    refine lv_istore (lv' := [(6, .int (0 : Int32)), (5, .int (0 : Int32)), (4, .int r_2), (0, .ref b0), (1, .int x1), (2, .int x2), (3, .int x3)]) hx hb dX4_run_29 hl (by decide) rfl (fun ls hl => ?_)
    obtain ⟨K_31, hKi_31, h⟩ := jnE1 h
    have hK_31 : ∀ (v5_10 : Int32), K_31 v5_10 → ∀ (ls : Array Slot), lv_has ls 7 [(3, .int x3), (5, .int v5_10)] → W p l e (headSpec wsX4_run ({ frames := 2, cells := 0, slots := 0, locals := 44 } : Room)).room s m ([.ref b0, .int x1, .int x2, .int x3] : List Value).toArray below meth c s.heap [] 0 0 (MQ below (vp_Si post) ([.ref b0, .int x1, .int x2, .int x3] : List Value).toArray s 0 0 (fun _ => False)) (F0 m 82 ls []) := by
      intro v5_10 h ls hl
      have h := hKi_31 _ h
      refine lv_iload_n hx hb dX4_run_82 rfl (lv_at hl 0 rfl) ?_
      refine lv_iconst (v := (-1)) hx hb dX4_run_83 (by decide) ?_
      refine lv_icmp_ne (tgt := 92) hx hb dX4_run_84 (by decide) (fun c_84 => ?_) (fun c_84 => ?_)
      · have h := br2 h c_84
        refine lv_bipush (v := (-6)) hx hb dX4_run_92 (by decide) ?_
        exact W.iret hx hb hr (fun t ht _ => ⟨_, rfl, h, ht⟩) (fun q hq => by cases hq) dX4_run_94
      · have h := br1 h c_84
        refine lv_iload hx hb dX4_run_87 (lv_at hl 1 rfl) ?_
        refine lv_goto (tgt := 94) hx hb dX4_run_89 (by decide) ?_
        exact W.iret hx hb hr (fun t ht _ => ⟨_, rfl, h, ht⟩) (fun q hq => by cases hq) dX4_run_94
    obtain ⟨n, h⟩ := h
    have loop_31 : ∀ (n : Nat) (v5_3 : Int32) (v6_4 : Int32), L_X4_run_31 post K_31 u x3 r_2 n v5_3 v6_4 → ∀ (ls : Array Slot), lv_has ls 7 [(0, .ref b0), (3, .int x3), (4, .int r_2), (5, .int v5_3), (6, .int v6_4)] → W p l e (headSpec wsX4_run ({ frames := 2, cells := 0, slots := 0, locals := 44 } : Room)).room s m ([.ref b0, .int x1, .int x2, .int x3] : List Value).toArray below meth c s.heap [] 0 0 (MQ below (vp_Si post) ([.ref b0, .int x1, .int x2, .int x3] : List Value).toArray s 0 0 (fun _ => False)) (F0 m 31 ls []) := by
      intro n
      induction n with
      | zero => intro v5_3 v6_4 h; rw [L_X4_run_31] at h; exact h.elim
      | succ n ih_31 =>
        intro v5_3 v6_4 h ls hl
        rw [L_X4_run_31] at h
        refine lv_iload hx hb dX4_run_31 (lv_at hl 4 rfl) ?_
        refine lv_aload_n hx hb dX4_run_33 rfl (lv_at hl 0 rfl) ?_
        refine va_get (D := (dC, dI)) (ci := 2) (v := .ref h0) (C := RX4) (T := TX4) (N := 2) hx hb hts i_X4 hown hK hP 0 rfl rfl 0 (by decide) f_10 (fun _ h9 => h9) rfl dX4_run_34 ?_
        refine va_get (D := (dC, dI)) (ci := 1) (v := .int (u.1.1 4)) (C := RX3) (T := TX3) (N := 7) hx hb hts i_X3 hown hK hP 1 rfl rfl 4 (by decide) f_37 (fun _ h9 => h9) rfl dX4_run_37 ?_
        refine lv_icmp_ge (tgt := 82) hx hb dX4_run_40 (by decide) (fun c_40 => ?_) (fun c_40 => ?_)
        · have h := br1 h c_40
          exact hK_31 _ h _ (lv_sub hl [1, 3] rfl)
        · have h := br2 h c_40
          refine lv_iload hx hb dX4_run_43 (lv_at hl 2 rfl) ?_
          refine lv_iload hx hb dX4_run_45 (lv_at hl 4 rfl) ?_
          refine vp_callSi (W.runS (As := [.int _, .int _]) (rest := []) ⟨hx, hb, hml, hown, hts⟩ (c_X1_beginsRun l h) (va_cwS 2 hts gX4_run_X1_beginsRun rfl rfl rfl (by decide +kernel) ⟨Nat.le_of_ble_eq_true rfl, Nat.le_of_ble_eq_true rfl⟩) ⟨fun _ _ _ _ q => q, fun _ _ _ => ⟨rfl, trivial⟩⟩ rfl rfl hl.1 rfl (lv_room (Nat.le_of_ble_eq_true rfl)) dX4_run_47 ⟨Nat.zero_le _, Nat.zero_le _⟩) (fun r_5 h => ?_)
          obtain ⟨J_76, hJi_76, h⟩ := jnE1 h
          have hJ_76 : ∀ (v5_8 : Int32), J_76 v5_8 → ∀ (ls : Array Slot), lv_has ls 7 [(0, .ref b0), (3, .int x3), (4, .int r_2), (5, .int v5_8), (6, .int v6_4)] → W p l e (headSpec wsX4_run ({ frames := 2, cells := 0, slots := 0, locals := 44 } : Room)).room s m ([.ref b0, .int x1, .int x2, .int x3] : List Value).toArray below meth c s.heap [] 0 0 (MQ below (vp_Si post) ([.ref b0, .int x1, .int x2, .int x3] : List Value).toArray s 0 0 (fun _ => False)) (F0 m 76 ls []) := by
            intro v5_8 h ls hl
            have h := hJi_76 _ h
            obtain ⟨y_9, ey_9⟩ : ∃ z : Int32, z = v6_4 + (1 : Int32) := ⟨_, rfl⟩
            have h := h y_9 ey_9
            refine lv_iinc (v := y_9) (lv' := [(6, .int y_9), (0, .ref b0), (3, .int x3), (4, .int r_2), (5, .int v5_8)]) hx hb dX4_run_76 hl (k := 4) rfl (by rw [ey_9]; rfl) (by decide) rfl (fun ls hl => ?_)
            refine lv_goto (tgt := 31) hx hb dX4_run_79 (by decide) ?_
            exact ih_31 _ _ h _ (lv_sub hl [1, 2, 3, 4, 0] rfl)
          refine lv_if_eq (tgt := 76) hx hb dX4_run_50 (by decide) (fun c_50 => ?_) (fun c_50 => ?_)
          · have h := br1 h c_50
            exact hJ_76 _ h _ (lv_sub hl [0, 1, 2, 3, 4] rfl)
          · have h := br2 h c_50
            refine lv_iload hx hb dX4_run_53 (lv_at hl 3 rfl) ?_
            refine lv_iload_n hx hb dX4_run_55 rfl (lv_at hl 1 rfl) ?_
            refine lv_icmp_ne (tgt := 73) hx hb dX4_run_56 (by decide) (fun c_56 => ?_) (fun c_56 => ?_)
            · have h := br2 h c_56
              obtain ⟨y_6, ey_6⟩ : ∃ z : Int32, z = v5_3 + (1 : Int32) := ⟨_, rfl⟩
              have h := h y_6 ey_6
              refine lv_iinc (v := y_6) (lv' := [(5, .int y_6), (0, .ref b0), (3, .int x3), (4, .int r_2), (6, .int v6_4)]) hx hb dX4_run_73 hl (k := 3) rfl (by rw [ey_6]; rfl) (by decide) rfl (fun ls hl => ?_)
              exact hJ_76 _ h _ (lv_sub hl [1, 2, 3, 0, 4] rfl)
            · have h := br1 h c_56
              refine lv_bipush (v := 10) hx hb dX4_run_59 (by decide) ?_
              refine lv_iload hx hb dX4_run_61 (lv_at hl 4 rfl) ?_
              refine lv_imul hx hb dX4_run_63 ?_
              refine lv_iload hx hb dX4_run_64 (lv_at hl 2 rfl) ?_
              refine lv_iload hx hb dX4_run_66 (lv_at hl 4 rfl) ?_
              refine vp_callSi (W.runS (As := [.int _, .int _]) (rest := [.int _]) ⟨hx, hb, hml, hown, hts⟩ (c_X1_runLength l h) (va_cwS 2 hts gX4_run_X1_runLength rfl rfl rfl (by decide +kernel) ⟨Nat.le_of_ble_eq_true rfl, Nat.le_of_ble_eq_true rfl⟩) ⟨fun _ _ _ _ q => q, fun _ _ _ => ⟨rfl, trivial⟩⟩ rfl rfl hl.1 rfl (lv_room (Nat.le_of_ble_eq_true rfl)) dX4_run_68 ⟨Nat.zero_le _, Nat.zero_le _⟩) (fun r_7 h => ?_)
              refine lv_iadd hx hb dX4_run_71 ?_
              exact W.iret hx hb hr (fun t ht _ => ⟨_, rfl, h, ht⟩) (fun q hq => by cases hq) dX4_run_72
    exact loop_31 n _ _ h _ (lv_sub hl [3, 6, 2, 1, 0] rfl)
  · have h := br1 h c_9
    refine lv_iconst (v := (-1)) hx hb dX4_run_12 (by decide) ?_
    exact W.iret hx hb hr (fun t ht _ => ⟨_, rfl, h, ht⟩) (fun q hq => by cases hq) dX4_run_13
set_option maxHeartbeats 4000000 in
set_option maxRecDepth 100000 in
theorem c_X4_cover (l : Launch) (dC : Nat → ClassId) (dI : Nat → Nat → Nat) (b0 h0 h1 h2 g0 g1 : Nat) (cI : ClassId) {u : St × St} {post : Int32 → Prop} (h : P_X4_cover u post) : Met l yX4_cover wsX4_cover ({ frames := 3, cells := 0, slots := 0, locals := 67 } : Room) (RPre (dC, dI) vwCl (wX b0 h0 h1 h2 g0 g1 cI u) [(cI, .int)] [.ref b0]) (vp_Si post) 0 0 (fun _ => False) := by
  refine Met.ofW (cc := cX4_cover) (maxL := 1) (ret := (some .int)) (by decide) rfl ?_
  intro p e s m args below meth c s₁ B hml hv
  obtain ⟨rfl, hP, hK⟩ := hv
  have hx := B.exec
  have hb := B.bytes
  have hr := B.returns
  have hts := atoms_spec (ws := wsX4_cover) B.pre
  have hown : s.vm.findClass RX4 = some m.cls := findClass_of_methodNamed B.named
  have hlocks := B.notSynchronized
  have hl := lv_entry ([.ref b0]) (n := 1) (Nat.le_of_ble_eq_true rfl)
  rw [lg_entry_eq]
  generalize (lg_sl ([.ref b0]) ++ List.replicate (1 - (lg_sl ([.ref b0])).length) Slot.unset).toArray = ls at hl ⊢
  have hl : lv_has ls 1 [(0, .ref b0)] := hl
  have i_X4 : ∀ w ∈ u_ws RX4 TX4 2, w ∈ wsX4_cover := by decide +kernel
  have f_10 := hts (.fieldLink RX4 10 "SliceBody" "solid" "LSliceBody$Solid;") (by decide +kernel)
  unfold P_X4_cover at h
  refine lv_aload_n hx hb dX4_cover_0 rfl (lv_at hl 0 rfl) ?_
  refine va_get (D := (dC, dI)) (ci := 2) (v := .ref h0) (C := RX4) (T := TX4) (N := 2) hx hb hts i_X4 hown hK hP 0 rfl rfl 0 (by decide) f_10 (fun _ h9 => h9) rfl dX4_cover_1 ?_
  have hPs := hP.sub (ws' := wS h0 h1 h2 cI u.1) [1, 2, 3] rfl
  refine vp_callSi (W.runV (As := []) (rest := []) ⟨hx, hb, hml, hown, hts⟩ (c_X3_coveredCubes l dC dI h0 h1 h2 cI h) (cwV 0 hts gX4_cover_X3_coveredCubes rfl rfl rfl (by decide +kernel) ⟨Nat.le_of_ble_eq_true rfl, Nat.le_of_ble_eq_true rfl⟩) ⟨fbR, va_recv hK hPs (ci := 1) (q0 := 0) rfl rfl, fun U hU hW => ⟨rfl, by rw [hU]; exact hPs, va_K.moved hW.alike hK⟩⟩ rfl rfl hl.1 rfl (lv_room (Nat.le_of_ble_eq_true rfl)) dX4_cover_4 ⟨Nat.zero_le _, Nat.zero_le _⟩) (fun r_1 h => ?_)
  exact W.iret hx hb hr (fun t ht _ => ⟨_, rfl, h, ht⟩) (fun q hq => by cases hq) dX4_cover_7
set_option maxHeartbeats 4000000 in
set_option maxRecDepth 100000 in
theorem c_X4_best (l : Launch) (dC : Nat → ClassId) (dI : Nat → Nat → Nat) (b0 h0 h1 h2 g0 g1 : Nat) (cI : ClassId) (sz : Nat) {u : St × St} {x1 : Int32} {x2 : Int32} {post : Int32 → (St × St) → Prop} (h : P_X4_best u x1 x2 post) : Met l yX4_best wsX4_best ({ frames := 6, cells := 0, slots := 0, locals := 143 } : Room) (MPre (dC, dI) vwCl (wX b0 h0 h1 h2 g0 g1 cI u) [(cI, .int)] sz [.ref b0, .int x1, .int x2]) (va_Qi post (fun (u2 : St × St) (t : State) => va_P (dC, dI) vwCl (wX b0 h0 h1 h2 g0 g1 cI u2) t.heap) (va_A (wX b0 h0 h1 h2 g0 g1 cI u) sz)) 0 0 (va_A (wX b0 h0 h1 h2 g0 g1 cI u) sz) := by
  refine Met.ofW (cc := cX4_best) (maxL := 3) (ret := (some .int)) (by decide) rfl ?_
  intro p e s m args below meth c s₁ B hml hv
  obtain ⟨rfl, hsz, hP, hK, hD0⟩ := hv
  have hx := B.exec
  have hb := B.bytes
  have hr := B.returns
  have hts := atoms_spec (ws := wsX4_best) B.pre
  have hown : s.vm.findClass RX4 = some m.cls := findClass_of_methodNamed B.named
  have hlocks := B.notSynchronized
  subst hsz
  have hD1 := hD0.self (sz := s.heap.size)
  generalize hAe : va_A (wX b0 h0 h1 h2 g0 g1 cI u) s.heap.size = A at hD1 ⊢
  have hA : ∀ q : Nat, s.heap.size ≤ q → A q := fun q h => by rw [← hAe]; exact Or.inr h
  have hD : ∀ z, va_D A (wX b0 h0 h1 h2 g0 g1 cI z) := fun z => va_Dsame hD1 rfl
  have hS : va_S A s.heap s.heap [] := va_S.rf
  have hl := lv_entry ([.ref b0, .int x1, .int x2]) (n := 3) (Nat.le_of_ble_eq_true rfl)
  rw [lg_entry_eq]
  generalize (lg_sl ([.ref b0, .int x1, .int x2]) ++ List.replicate (3 - (lg_sl ([.ref b0, .int x1, .int x2])).length) Slot.unset).toArray = ls at hl ⊢
  have hl : lv_has ls 3 [(0, .ref b0), (1, .int x1), (2, .int x2)] := hl
  have i_X3 : ∀ w ∈ u_ws RX3 TX3 7, w ∈ wsX4_best := by decide +kernel
  have i_X4 : ∀ w ∈ u_ws RX4 TX4 2, w ∈ wsX4_best := by decide +kernel
  have f_10 := hts (.fieldLink RX4 10 "SliceBody" "solid" "LSliceBody$Solid;") (by decide +kernel)
  have f_19 := hts (.fieldLink RX4 19 "SliceBody" "boards" "LSliceBody$Boards;") (by decide +kernel)
  have f_52 := hts (.fieldLink RX4 52 "SliceBody$Solid" "wide" "I") (by decide +kernel)
  have f_55 := hts (.fieldLink RX4 55 "SliceBody$Solid" "deep" "I") (by decide +kernel)
  unfold P_X4_best at h
  refine lv_iload_n hx hb dX4_best_0 rfl (lv_at hl 1 rfl) ?_
  refine lv_if_lt (tgt := 30) hx hb dX4_best_1 (by decide) (fun c_1 => ?_) (fun c_1 => ?_)
  · have h := br1 h c_1
    refine lv_bipush (v := (-2)) hx hb dX4_best_30 (by decide) ?_
    exact W.iret hx hb hr (fun t ht _ => ⟨⟨_, u, rfl, h, hPr ht hP⟩, hS.F ht⟩) hS.2.2 dX4_best_32
  · have h := br2 h c_1
    refine lv_iload_n hx hb dX4_best_4 rfl (lv_at hl 1 rfl) ?_
    refine lv_aload_n hx hb dX4_best_5 rfl (lv_at hl 0 rfl) ?_
    refine va_get (D := (dC, dI)) (ci := 2) (v := .ref h0) (C := RX4) (T := TX4) (N := 2) hx hb hts i_X4 hown hK hP 0 rfl rfl 0 (by decide) f_10 (fun _ h9 => h9) rfl dX4_best_6 ?_
    refine va_get (D := (dC, dI)) (ci := 1) (v := .int (u.1.1 2)) (C := RX3) (T := TX3) (N := 7) hx hb hts i_X3 hown hK hP 1 rfl rfl 2 (by decide) f_52 (fun _ h9 => h9) rfl dX4_best_9 ?_
    refine lv_icmp_gt (tgt := 30) hx hb dX4_best_12 (by decide) (fun c_12 => ?_) (fun c_12 => ?_)
    · have h := br1 h c_12
      refine lv_bipush (v := (-2)) hx hb dX4_best_30 (by decide) ?_
      exact W.iret hx hb hr (fun t ht _ => ⟨⟨_, u, rfl, h, hPr ht hP⟩, hS.F ht⟩) hS.2.2 dX4_best_32
    · have h := br2 h c_12
      refine lv_iload_n hx hb dX4_best_15 rfl (lv_at hl 2 rfl) ?_
      refine lv_if_lt (tgt := 30) hx hb dX4_best_16 (by decide) (fun c_16 => ?_) (fun c_16 => ?_)
      · have h := br1 h c_16
        refine lv_bipush (v := (-2)) hx hb dX4_best_30 (by decide) ?_
        exact W.iret hx hb hr (fun t ht _ => ⟨⟨_, u, rfl, h, hPr ht hP⟩, hS.F ht⟩) hS.2.2 dX4_best_32
      · have h := br2 h c_16
        refine lv_iload_n hx hb dX4_best_19 rfl (lv_at hl 2 rfl) ?_
        refine lv_aload_n hx hb dX4_best_20 rfl (lv_at hl 0 rfl) ?_
        refine va_get (D := (dC, dI)) (ci := 2) (v := .ref h0) (C := RX4) (T := TX4) (N := 2) hx hb hts i_X4 hown hK hP 0 rfl rfl 0 (by decide) f_10 (fun _ h9 => h9) rfl dX4_best_21 ?_
        refine va_get (D := (dC, dI)) (ci := 1) (v := .int (u.1.1 3)) (C := RX3) (T := TX3) (N := 7) hx hb hts i_X3 hown hK hP 1 rfl rfl 3 (by decide) f_55 (fun _ h9 => h9) rfl dX4_best_24 ?_
        refine lv_icmp_le (tgt := 33) hx hb dX4_best_27 (by decide) (fun c_27 => ?_) (fun c_27 => ?_)
        · have h := br1 h c_27
          refine lv_aload_n hx hb dX4_best_33 rfl (lv_at hl 0 rfl) ?_
          refine va_get (D := (dC, dI)) (ci := 2) (v := .ref h0) (C := RX4) (T := TX4) (N := 2) hx hb hts i_X4 hown hK hP 0 rfl rfl 0 (by decide) f_10 (fun _ h9 => h9) rfl dX4_best_34 ?_
          refine lv_iload_n hx hb dX4_best_37 rfl (lv_at hl 1 rfl) ?_
          refine lv_iload_n hx hb dX4_best_38 rfl (lv_at hl 2 rfl) ?_
          have hPs := hP.sub (ws' := wS h0 h1 h2 cI u.1) [1, 2, 3] rfl
          have hDs := (hD u).sub (ws' := wS h0 h1 h2 cI u.1) [1, 2, 3] (by decide) rfl
          have hFc := fr_all (ws := wS h0 h1 h2 cI u.1) (hDs) hS hA
          refine va_callv (va_runV (As := [.int _, .int _]) (rest := []) ⟨hx, hb, hml, hown, hts⟩ (c_X3_chooseBest l dC dI h0 h1 h2 cI (s.heap).size h) (cwV 2 hts gX4_best_X3_chooseBest rfl rfl rfl (by decide +kernel) ⟨Nat.le_of_ble_eq_true rfl, Nat.le_of_ble_eq_true rfl⟩) ⟨fbM, va_recv hK hPs (ci := 1) (q0 := 0) rfl rfl, fun U hU hW => ⟨rfl, by rw [hU], by rw [hU]; exact hPs, va_K.moved hW.alike hK, (hDs).weaken (fun _ _ _ _ => trivial)⟩⟩ rfl rfl hl.1 rfl (lv_room (Nat.le_of_ble_eq_true rfl)) dX4_best_39 ⟨Nat.zero_le _, Nat.zero_le _⟩) hS (fun q _ h => hFc q h) hFc (fun z_3 t H locs ht _ h hP1 _ hk1 hS => ?_)
          obtain ⟨u_2, eu_2⟩ : ∃ z : St × St, z = (z_3, u.2) := ⟨_, rfl⟩
          have h := h u_2 eu_2
          have hP : va_P (dC, dI) vwCl (wX b0 h0 h1 h2 g0 g1 cI u_2) H := by rw [eu_2]; exact X_joinS hP (hD _) hk1 hFc (by rw [← ht]; exact hP1)
          refine lv_aload_n hx hb dX4_best_42 rfl (lv_at hl 0 rfl) ?_
          refine va_get (D := (dC, dI)) (ci := 2) (v := .ref g0) (C := RX4) (T := TX4) (N := 2) hx hb hts i_X4 hown hK hP 0 rfl rfl 1 (by decide) f_19 (fun _ h9 => h9) rfl dX4_best_43 ?_
          have hPs := hP.sub (ws' := wB g0 g1 cI u_2.2) [4, 5] rfl
          have hDs := (hD u_2).sub (ws' := wB g0 g1 cI u_2.2) [4, 5] (by decide) rfl
          have hFc := fr_all (ws := wB g0 g1 cI u_2.2) (hDs) hS hA
          refine va_callv (va_runV (As := []) (rest := []) ⟨hx, hb, hml, hown, hts⟩ (c_X0_forget l dC dI g0 g1 cI (H).size h) (cwV 0 hts gX4_best_X0_forget rfl rfl rfl (by decide +kernel) ⟨Nat.le_of_ble_eq_true rfl, Nat.le_of_ble_eq_true rfl⟩) ⟨fbM, va_recv hK hPs (ci := 0) (q0 := 0) rfl rfl, fun U hU hW => ⟨rfl, by rw [hU], by rw [hU]; exact hPs, va_K.moved hW.alike hK, (hDs).weaken (fun _ _ _ _ => trivial)⟩⟩ rfl rfl hl.1 rfl (lv_room (Nat.le_of_ble_eq_true rfl)) dX4_best_46 ⟨Nat.zero_le _, Nat.zero_le _⟩) hS (fun q _ h => hFc q h) hFc (fun z_6 t H locs ht _ h hP1 _ hk1 hS => ?_)
          obtain ⟨u_5, eu_5⟩ : ∃ z : St × St, z = (u_2.1, z_6) := ⟨_, rfl⟩
          have h := h u_5 eu_5
          have hP : va_P (dC, dI) vwCl (wX b0 h0 h1 h2 g0 g1 cI u_5) H := by rw [eu_5]; exact X_joinB hP (hD _) hk1 hFc (by rw [← ht]; exact hP1)
          refine lv_aload_n hx hb dX4_best_49 rfl (lv_at hl 0 rfl) ?_
          refine va_get (D := (dC, dI)) (ci := 2) (v := .ref h0) (C := RX4) (T := TX4) (N := 2) hx hb hts i_X4 hown hK hP 0 rfl rfl 0 (by decide) f_10 (fun _ h9 => h9) rfl dX4_best_50 ?_
          have hPs := hP.sub (ws' := wS h0 h1 h2 cI u_5.1) [1, 2, 3] rfl
          refine vp_callSi (W.runV (As := []) (rest := []) ⟨hx, hb, hml, hown, hts⟩ (c_X3_coveredCubes l dC dI h0 h1 h2 cI h) (cwV 0 hts gX4_best_X3_coveredCubes rfl rfl rfl (by decide +kernel) ⟨Nat.le_of_ble_eq_true rfl, Nat.le_of_ble_eq_true rfl⟩) ⟨fbR, va_recv hK hPs (ci := 1) (q0 := 0) rfl rfl, fun U hU hW => ⟨rfl, by rw [hU]; exact hPs, va_K.moved hW.alike hK⟩⟩ rfl rfl hl.1 rfl (lv_room (Nat.le_of_ble_eq_true rfl)) dX4_best_53 ⟨Nat.zero_le _, Nat.zero_le _⟩) (fun r_7 h => ?_)
          exact W.iret hx hb hr (fun t ht _ => ⟨⟨_, u_5, rfl, h, hPr ht hP⟩, hS.F ht⟩) hS.2.2 dX4_best_56
        · have h := br2 h c_27
          refine lv_bipush (v := (-2)) hx hb dX4_best_30 (by decide) ?_
          exact W.iret hx hb hr (fun t ht _ => ⟨⟨_, u, rfl, h, hPr ht hP⟩, hS.F ht⟩) hS.2.2 dX4_best_32
set_option maxHeartbeats 4000000 in
set_option maxRecDepth 100000 in
theorem c_X4_told (l : Launch) (dC : Nat → ClassId) (dI : Nat → Nat → Nat) (b0 h0 h1 h2 g0 g1 : Nat) (cI : ClassId) {u : St × St} {x1 : Int32} {post : Int32 → Prop} (h : P_X4_told u x1 post) : Met l yX4_told wsX4_told ({ frames := 6, cells := 0, slots := 0, locals := 144 } : Room) (RPre (dC, dI) vwCl (wX b0 h0 h1 h2 g0 g1 cI u) [(cI, .int)] [.ref b0, .int x1]) (vp_Si post) 0 0 (fun _ => False) := by
  refine Met.ofW (cc := cX4_told) (maxL := 2) (ret := (some .int)) (by decide) rfl ?_
  intro p e s m args below meth c s₁ B hml hv
  obtain ⟨rfl, hP, hK⟩ := hv
  have hx := B.exec
  have hb := B.bytes
  have hr := B.returns
  have hts := atoms_spec (ws := wsX4_told) B.pre
  have hown : s.vm.findClass RX4 = some m.cls := findClass_of_methodNamed B.named
  have hlocks := B.notSynchronized
  have hl := lv_entry ([.ref b0, .int x1]) (n := 2) (Nat.le_of_ble_eq_true rfl)
  rw [lg_entry_eq]
  generalize (lg_sl ([.ref b0, .int x1]) ++ List.replicate (2 - (lg_sl ([.ref b0, .int x1])).length) Slot.unset).toArray = ls at hl ⊢
  have hl : lv_has ls 2 [(0, .ref b0), (1, .int x1)] := hl
  have i_X3 : ∀ w ∈ u_ws RX3 TX3 7, w ∈ wsX4_told := by decide +kernel
  have i_X4 : ∀ w ∈ u_ws RX4 TX4 2, w ∈ wsX4_told := by decide +kernel
  have f_10 := hts (.fieldLink RX4 10 "SliceBody" "solid" "LSliceBody$Solid;") (by decide +kernel)
  have f_37 := hts (.fieldLink RX4 37 "SliceBody$Solid" "high" "I") (by decide +kernel)
  have f_52 := hts (.fieldLink RX4 52 "SliceBody$Solid" "wide" "I") (by decide +kernel)
  have f_55 := hts (.fieldLink RX4 55 "SliceBody$Solid" "deep" "I") (by decide +kernel)
  unfold P_X4_told at h
  refine lv_iload_n hx hb dX4_told_0 rfl (lv_at hl 1 rfl) ?_
  rcases Decidable.em (x1 = 0) with c_1_0 | c_1_0
  · have h := br1 h c_1_0
    refine lv_tableIn (off := 47) (tgt := 48) hx hb dX4_told_1 (by rw [c_1_0]; decide) (by rw [c_1_0]; decide) (by rw [c_1_0]; rfl) (by decide) ?_
    refine lv_aload_n hx hb dX4_told_48 rfl (lv_at hl 0 rfl) ?_
    refine va_get (D := (dC, dI)) (ci := 2) (v := .ref h0) (C := RX4) (T := TX4) (N := 2) hx hb hts i_X4 hown hK hP 0 rfl rfl 0 (by decide) f_10 (fun _ h9 => h9) rfl dX4_told_49 ?_
    refine va_get (D := (dC, dI)) (ci := 1) (v := .int (u.1.1 2)) (C := RX3) (T := TX3) (N := 7) hx hb hts i_X3 hown hK hP 1 rfl rfl 2 (by decide) f_52 (fun _ h9 => h9) rfl dX4_told_52 ?_
    exact W.iret hx hb hr (fun t ht _ => ⟨_, rfl, h, ht⟩) (fun q hq => by cases hq) dX4_told_55
  · have h := br2 h c_1_0
    rcases Decidable.em (x1 = 1) with c_1_1 | c_1_1
    · have h := br1 h c_1_1
      refine lv_tableIn (off := 55) (tgt := 56) hx hb dX4_told_1 (by rw [c_1_1]; decide) (by rw [c_1_1]; decide) (by rw [c_1_1]; rfl) (by decide) ?_
      refine lv_aload_n hx hb dX4_told_56 rfl (lv_at hl 0 rfl) ?_
      refine va_get (D := (dC, dI)) (ci := 2) (v := .ref h0) (C := RX4) (T := TX4) (N := 2) hx hb hts i_X4 hown hK hP 0 rfl rfl 0 (by decide) f_10 (fun _ h9 => h9) rfl dX4_told_57 ?_
      refine va_get (D := (dC, dI)) (ci := 1) (v := .int (u.1.1 3)) (C := RX3) (T := TX3) (N := 7) hx hb hts i_X3 hown hK hP 1 rfl rfl 3 (by decide) f_55 (fun _ h9 => h9) rfl dX4_told_60 ?_
      exact W.iret hx hb hr (fun t ht _ => ⟨_, rfl, h, ht⟩) (fun q hq => by cases hq) dX4_told_63
    · have h := br2 h c_1_1
      rcases Decidable.em (x1 = 2) with c_1_2 | c_1_2
      · have h := br1 h c_1_2
        refine lv_tableIn (off := 63) (tgt := 64) hx hb dX4_told_1 (by rw [c_1_2]; decide) (by rw [c_1_2]; decide) (by rw [c_1_2]; rfl) (by decide) ?_
        refine lv_aload_n hx hb dX4_told_64 rfl (lv_at hl 0 rfl) ?_
        refine va_get (D := (dC, dI)) (ci := 2) (v := .ref h0) (C := RX4) (T := TX4) (N := 2) hx hb hts i_X4 hown hK hP 0 rfl rfl 0 (by decide) f_10 (fun _ h9 => h9) rfl dX4_told_65 ?_
        refine va_get (D := (dC, dI)) (ci := 1) (v := .int (u.1.1 4)) (C := RX3) (T := TX3) (N := 7) hx hb hts i_X3 hown hK hP 1 rfl rfl 4 (by decide) f_37 (fun _ h9 => h9) rfl dX4_told_68 ?_
        exact W.iret hx hb hr (fun t ht _ => ⟨_, rfl, h, ht⟩) (fun q hq => by cases hq) dX4_told_71
      · have h := br2 h c_1_2
        rcases Decidable.em (x1 = 3) with c_1_3 | c_1_3
        · have h := br1 h c_1_3
          refine lv_tableIn (off := 71) (tgt := 72) hx hb dX4_told_1 (by rw [c_1_3]; decide) (by rw [c_1_3]; decide) (by rw [c_1_3]; rfl) (by decide) ?_
          refine lv_aload_n hx hb dX4_told_72 rfl (lv_at hl 0 rfl) ?_
          refine va_get (D := (dC, dI)) (ci := 2) (v := .ref h0) (C := RX4) (T := TX4) (N := 2) hx hb hts i_X4 hown hK hP 0 rfl rfl 0 (by decide) f_10 (fun _ h9 => h9) rfl dX4_told_73 ?_
          have hPs := hP.sub (ws' := wS h0 h1 h2 cI u.1) [1, 2, 3] rfl
          refine vp_callSi (W.runV (As := []) (rest := []) ⟨hx, hb, hml, hown, hts⟩ (c_X3_cubeCount l dC dI h0 h1 h2 cI h) (cwV 0 hts gX4_told_X3_cubeCount rfl rfl rfl (by decide +kernel) ⟨Nat.le_of_ble_eq_true rfl, Nat.le_of_ble_eq_true rfl⟩) ⟨fbR, va_recv hK hPs (ci := 1) (q0 := 0) rfl rfl, fun U hU hW => ⟨rfl, by rw [hU]; exact hPs, va_K.moved hW.alike hK⟩⟩ rfl rfl hl.1 rfl (lv_room (Nat.le_of_ble_eq_true rfl)) dX4_told_76 ⟨Nat.zero_le _, Nat.zero_le _⟩) (fun r_1 h => ?_)
          exact W.iret hx hb hr (fun t ht _ => ⟨_, rfl, h, ht⟩) (fun q hq => by cases hq) dX4_told_79
        · have h := br2 h c_1_3
          rcases Decidable.em (x1 = 4) with c_1_4 | c_1_4
          · have h := br1 h c_1_4
            refine lv_tableIn (off := 79) (tgt := 80) hx hb dX4_told_1 (by rw [c_1_4]; decide) (by rw [c_1_4]; decide) (by rw [c_1_4]; rfl) (by decide) ?_
            refine lv_aload_n hx hb dX4_told_80 rfl (lv_at hl 0 rfl) ?_
            refine va_get (D := (dC, dI)) (ci := 2) (v := .ref h0) (C := RX4) (T := TX4) (N := 2) hx hb hts i_X4 hown hK hP 0 rfl rfl 0 (by decide) f_10 (fun _ h9 => h9) rfl dX4_told_81 ?_
            refine lv_iconst (v := 0) hx hb dX4_told_84 (by decide) ?_
            have hPs := hP.sub (ws' := wS h0 h1 h2 cI u.1) [1, 2, 3] rfl
            refine vp_callSi (W.runV (As := [.int _]) (rest := []) ⟨hx, hb, hml, hown, hts⟩ (c_X3_chosenBits l dC dI h0 h1 h2 cI h) (cwV 1 hts gX4_told_X3_chosenBits rfl rfl rfl (by decide +kernel) ⟨Nat.le_of_ble_eq_true rfl, Nat.le_of_ble_eq_true rfl⟩) ⟨fbR, va_recv hK hPs (ci := 1) (q0 := 0) rfl rfl, fun U hU hW => ⟨rfl, by rw [hU]; exact hPs, va_K.moved hW.alike hK⟩⟩ rfl rfl hl.1 rfl (lv_room (Nat.le_of_ble_eq_true rfl)) dX4_told_85 ⟨Nat.zero_le _, Nat.zero_le _⟩) (fun r_2 h => ?_)
            exact W.iret hx hb hr (fun t ht _ => ⟨_, rfl, h, ht⟩) (fun q hq => by cases hq) dX4_told_88
          · have h := br2 h c_1_4
            rcases Decidable.em (x1 = 5) with c_1_5 | c_1_5
            · have h := br1 h c_1_5
              refine lv_tableIn (off := 88) (tgt := 89) hx hb dX4_told_1 (by rw [c_1_5]; decide) (by rw [c_1_5]; decide) (by rw [c_1_5]; rfl) (by decide) ?_
              refine lv_aload_n hx hb dX4_told_89 rfl (lv_at hl 0 rfl) ?_
              refine va_get (D := (dC, dI)) (ci := 2) (v := .ref h0) (C := RX4) (T := TX4) (N := 2) hx hb hts i_X4 hown hK hP 0 rfl rfl 0 (by decide) f_10 (fun _ h9 => h9) rfl dX4_told_90 ?_
              refine lv_iconst (v := 1) hx hb dX4_told_93 (by decide) ?_
              have hPs := hP.sub (ws' := wS h0 h1 h2 cI u.1) [1, 2, 3] rfl
              refine vp_callSi (W.runV (As := [.int _]) (rest := []) ⟨hx, hb, hml, hown, hts⟩ (c_X3_chosenBits l dC dI h0 h1 h2 cI h) (cwV 1 hts gX4_told_X3_chosenBits rfl rfl rfl (by decide +kernel) ⟨Nat.le_of_ble_eq_true rfl, Nat.le_of_ble_eq_true rfl⟩) ⟨fbR, va_recv hK hPs (ci := 1) (q0 := 0) rfl rfl, fun U hU hW => ⟨rfl, by rw [hU]; exact hPs, va_K.moved hW.alike hK⟩⟩ rfl rfl hl.1 rfl (lv_room (Nat.le_of_ble_eq_true rfl)) dX4_told_94 ⟨Nat.zero_le _, Nat.zero_le _⟩) (fun r_3 h => ?_)
              exact W.iret hx hb hr (fun t ht _ => ⟨_, rfl, h, ht⟩) (fun q hq => by cases hq) dX4_told_97
            · have h := br2 h c_1_5
              rcases Decidable.em (x1 = 6) with c_1_6 | c_1_6
              · have h := br1 h c_1_6
                refine lv_tableIn (off := 97) (tgt := 98) hx hb dX4_told_1 (by rw [c_1_6]; decide) (by rw [c_1_6]; decide) (by rw [c_1_6]; rfl) (by decide) ?_
                refine lv_aload_n hx hb dX4_told_98 rfl (lv_at hl 0 rfl) ?_
                refine va_get (D := (dC, dI)) (ci := 2) (v := .ref h0) (C := RX4) (T := TX4) (N := 2) hx hb hts i_X4 hown hK hP 0 rfl rfl 0 (by decide) f_10 (fun _ h9 => h9) rfl dX4_told_99 ?_
                have hPs := hP.sub (ws' := wS h0 h1 h2 cI u.1) [1, 2, 3] rfl
                refine vp_callSi (W.runV (As := []) (rest := []) ⟨hx, hb, hml, hown, hts⟩ (c_X3_cubesOfCuts l dC dI h0 h1 h2 cI h) (cwV 0 hts gX4_told_X3_cubesOfCuts rfl rfl rfl (by decide +kernel) ⟨Nat.le_of_ble_eq_true rfl, Nat.le_of_ble_eq_true rfl⟩) ⟨fbR, va_recv hK hPs (ci := 1) (q0 := 0) rfl rfl, fun U hU hW => ⟨rfl, by rw [hU]; exact hPs, va_K.moved hW.alike hK⟩⟩ rfl rfl hl.1 rfl (lv_room (Nat.le_of_ble_eq_true rfl)) dX4_told_102 ⟨Nat.zero_le _, Nat.zero_le _⟩) (fun r_4 h => ?_)
                exact W.iret hx hb hr (fun t ht _ => ⟨_, rfl, h, ht⟩) (fun q hq => by cases hq) dX4_told_105
              · have h := br2 h c_1_6
                rcases Decidable.em (x1 = 7) with c_1_7 | c_1_7
                · have h := br1 h c_1_7
                  refine lv_tableIn (off := 105) (tgt := 106) hx hb dX4_told_1 (by rw [c_1_7]; decide) (by rw [c_1_7]; decide) (by rw [c_1_7]; rfl) (by decide) ?_
                  refine lv_aload_n hx hb dX4_told_106 rfl (lv_at hl 0 rfl) ?_
                  refine va_get (D := (dC, dI)) (ci := 2) (v := .ref h0) (C := RX4) (T := TX4) (N := 2) hx hb hts i_X4 hown hK hP 0 rfl rfl 0 (by decide) f_10 (fun _ h9 => h9) rfl dX4_told_107 ?_
                  have hPs := hP.sub (ws' := wS h0 h1 h2 cI u.1) [1, 2, 3] rfl
                  refine vp_callSi (W.runV (As := []) (rest := []) ⟨hx, hb, hml, hown, hts⟩ (c_X3_looseParts l dC dI h0 h1 h2 cI h) (cwV 0 hts gX4_told_X3_looseParts rfl rfl rfl (by decide +kernel) ⟨Nat.le_of_ble_eq_true rfl, Nat.le_of_ble_eq_true rfl⟩) ⟨fbR, va_recv hK hPs (ci := 1) (q0 := 0) rfl rfl, fun U hU hW => ⟨rfl, by rw [hU]; exact hPs, va_K.moved hW.alike hK⟩⟩ rfl rfl hl.1 rfl (lv_room (Nat.le_of_ble_eq_true rfl)) dX4_told_110 ⟨Nat.zero_le _, Nat.zero_le _⟩) (fun r_5 h => ?_)
                  exact W.iret hx hb hr (fun t ht _ => ⟨_, rfl, h, ht⟩) (fun q hq => by cases hq) dX4_told_113
                · have h := br2 h c_1_7
                  refine lv_tableOut (tgt := 114) hx hb dX4_told_1 (by
                    have t_0 : x1.toInt ≠ 0 := fun q => c_1_0 (Int32.toInt_inj.mp (q.trans (by decide)))
                    have t_1 : x1.toInt ≠ 1 := fun q => c_1_1 (Int32.toInt_inj.mp (q.trans (by decide)))
                    have t_2 : x1.toInt ≠ 2 := fun q => c_1_2 (Int32.toInt_inj.mp (q.trans (by decide)))
                    have t_3 : x1.toInt ≠ 3 := fun q => c_1_3 (Int32.toInt_inj.mp (q.trans (by decide)))
                    have t_4 : x1.toInt ≠ 4 := fun q => c_1_4 (Int32.toInt_inj.mp (q.trans (by decide)))
                    have t_5 : x1.toInt ≠ 5 := fun q => c_1_5 (Int32.toInt_inj.mp (q.trans (by decide)))
                    have t_6 : x1.toInt ≠ 6 := fun q => c_1_6 (Int32.toInt_inj.mp (q.trans (by decide)))
                    have t_7 : x1.toInt ≠ 7 := fun q => c_1_7 (Int32.toInt_inj.mp (q.trans (by decide)))
                    omega) (by decide) ?_
                  refine lv_bipush (v := (-2)) hx hb dX4_told_114 (by decide) ?_
                  exact W.iret hx hb hr (fun t ht _ => ⟨_, rfl, h, ht⟩) (fun q hq => by cases hq) dX4_told_116
set_option maxHeartbeats 4000000 in
set_option maxRecDepth 100000 in
theorem c_X4_allFitInto (l : Launch) (dC : Nat → ClassId) (dI : Nat → Nat → Nat) (b0 h0 h1 h2 g0 g1 : Nat) (cI : ClassId) {u : St × St} {x1 : Int32} {x2 : Int32} {post : Int32 → Prop} (h : P_X4_allFitInto u x1 x2 post) : Met l yX4_allFitInto wsX4_allFitInto ({ frames := 5, cells := 0, slots := 0, locals := 114 } : Room) (RPre (dC, dI) vwCl (wX b0 h0 h1 h2 g0 g1 cI u) [(cI, .int)] [.ref b0, .int x1, .int x2]) (vp_Si post) 0 0 (fun _ => False) := by
  refine Met.ofW (cc := cX4_allFitInto) (maxL := 7) (ret := (some .boolean)) (by decide) rfl ?_
  intro p e s m args below meth c s₁ B hml hv
  obtain ⟨rfl, hP, hK⟩ := hv
  have hx := B.exec
  have hb := B.bytes
  have hr := B.returns
  have hts := atoms_spec (ws := wsX4_allFitInto) B.pre
  have hown : s.vm.findClass RX4 = some m.cls := findClass_of_methodNamed B.named
  have hlocks := B.notSynchronized
  have hl := lv_entry ([.ref b0, .int x1, .int x2]) (n := 7) (Nat.le_of_ble_eq_true rfl)
  rw [lg_entry_eq]
  generalize (lg_sl ([.ref b0, .int x1, .int x2]) ++ List.replicate (7 - (lg_sl ([.ref b0, .int x1, .int x2])).length) Slot.unset).toArray = ls at hl ⊢
  have hl : lv_has ls 7 [(0, .ref b0), (1, .int x1), (2, .int x2)] := hl
  have i_X4 : ∀ w ∈ u_ws RX4 TX4 2, w ∈ wsX4_allFitInto := by decide +kernel
  have f_10 := hts (.fieldLink RX4 10 "SliceBody" "solid" "LSliceBody$Solid;") (by decide +kernel)
  unfold P_X4_allFitInto at h
  refine lv_iconst (v := 0) hx hb dX4_allFitInto_0 (by decide) ?_
  refine lv_istore_n (lv' := [(3, .int (0 : Int32)), (0, .ref b0), (1, .int x1), (2, .int x2)]) hx hb dX4_allFitInto_1 rfl hl (by decide) rfl (fun ls hl => ?_)
  obtain ⟨K_2, hKi_2, h⟩ := jnE0 h
  have hK_2 : K_2 → ∀ (ls : Array Slot), lv_has ls 7 [] → W p l e (headSpec wsX4_allFitInto ({ frames := 5, cells := 0, slots := 0, locals := 114 } : Room)).room s m ([.ref b0, .int x1, .int x2] : List Value).toArray below meth c s.heap [] 0 0 (MQ below (vp_Si post) ([.ref b0, .int x1, .int x2] : List Value).toArray s 0 0 (fun _ => False)) (F0 m 74 ls []) := by
    intro  h ls hl
    have h := hKi_2 h
    refine lv_iconst (v := 1) hx hb dX4_allFitInto_74 (by decide) ?_
    exact W.zret (ty := .boolean) hx hb hr rfl (fun t ht _ => ⟨_, rfl, h, ht⟩) (fun q hq => by cases hq) dX4_allFitInto_75
  obtain ⟨n, h⟩ := h
  have loop_2 : ∀ (n : Nat) (v3_1 : Int32), L_X4_allFitInto_2 post K_2 u x1 x2 n v3_1 → ∀ (ls : Array Slot), lv_has ls 7 [(0, .ref b0), (1, .int x1), (2, .int x2), (3, .int v3_1)] → W p l e (headSpec wsX4_allFitInto ({ frames := 5, cells := 0, slots := 0, locals := 114 } : Room)).room s m ([.ref b0, .int x1, .int x2] : List Value).toArray below meth c s.heap [] 0 0 (MQ below (vp_Si post) ([.ref b0, .int x1, .int x2] : List Value).toArray s 0 0 (fun _ => False)) (F0 m 2 ls []) := by
    intro n
    induction n with
    | zero => intro v3_1 h; rw [L_X4_allFitInto_2] at h; exact h.elim
    | succ n ih_2 =>
      intro v3_1 h ls hl
      rw [L_X4_allFitInto_2] at h
      refine lv_iload_n hx hb dX4_allFitInto_2 rfl (lv_at hl 3 rfl) ?_
      refine lv_iconst (v := 2) hx hb dX4_allFitInto_3 (by decide) ?_
      refine lv_icmp_ge (tgt := 74) hx hb dX4_allFitInto_4 (by decide) (fun c_4 => ?_) (fun c_4 => ?_)
      · have h := br1 h c_4
        exact hK_2 h _ (lv_sub hl [] rfl)
      · have h := br2 h c_4
        refine lv_iconst (v := 0) hx hb dX4_allFitInto_7 (by decide) ?_
        refine lv_istore (lv' := [(4, .int (0 : Int32)), (0, .ref b0), (1, .int x1), (2, .int x2), (3, .int v3_1)]) hx hb dX4_allFitInto_8 hl (by decide) rfl (fun ls hl => ?_)
        obtain ⟨K_10, hKi_10, h⟩ := jnE0 h
        have hK_10 : K_10 → ∀ (ls : Array Slot), lv_has ls 7 [(0, .ref b0), (1, .int x1), (2, .int x2), (3, .int v3_1)] → W p l e (headSpec wsX4_allFitInto ({ frames := 5, cells := 0, slots := 0, locals := 114 } : Room)).room s m ([.ref b0, .int x1, .int x2] : List Value).toArray below meth c s.heap [] 0 0 (MQ below (vp_Si post) ([.ref b0, .int x1, .int x2] : List Value).toArray s 0 0 (fun _ => False)) (F0 m 68 ls []) := by
          intro  h ls hl
          have h := hKi_10 h
          obtain ⟨y_8, ey_8⟩ : ∃ z : Int32, z = v3_1 + (1 : Int32) := ⟨_, rfl⟩
          have h := h y_8 ey_8
          refine lv_iinc (v := y_8) (lv' := [(3, .int y_8), (0, .ref b0), (1, .int x1), (2, .int x2)]) hx hb dX4_allFitInto_68 hl (k := 3) rfl (by rw [ey_8]; rfl) (by decide) rfl (fun ls hl => ?_)
          refine lv_goto (tgt := 2) hx hb dX4_allFitInto_71 (by decide) ?_
          exact ih_2 _ h _ (lv_sub hl [1, 2, 3, 0] rfl)
        obtain ⟨n, h⟩ := h
        have loop_10 : ∀ (n : Nat) (v4_2 : Int32), L_X4_allFitInto_10 post K_10 u x1 x2 v3_1 n v4_2 → ∀ (ls : Array Slot), lv_has ls 7 [(0, .ref b0), (1, .int x1), (2, .int x2), (3, .int v3_1), (4, .int v4_2)] → W p l e (headSpec wsX4_allFitInto ({ frames := 5, cells := 0, slots := 0, locals := 114 } : Room)).room s m ([.ref b0, .int x1, .int x2] : List Value).toArray below meth c s.heap [] 0 0 (MQ below (vp_Si post) ([.ref b0, .int x1, .int x2] : List Value).toArray s 0 0 (fun _ => False)) (F0 m 10 ls []) := by
          intro n
          induction n with
          | zero => intro v4_2 h; rw [L_X4_allFitInto_10] at h; exact h.elim
          | succ n ih_10 =>
            intro v4_2 h ls hl
            rw [L_X4_allFitInto_10] at h
            refine lv_iload hx hb dX4_allFitInto_10 (lv_at hl 4 rfl) ?_
            refine lv_aload_n hx hb dX4_allFitInto_12 rfl (lv_at hl 0 rfl) ?_
            refine va_get (D := (dC, dI)) (ci := 2) (v := .ref h0) (C := RX4) (T := TX4) (N := 2) hx hb hts i_X4 hown hK hP 0 rfl rfl 0 (by decide) f_10 (fun _ h9 => h9) rfl dX4_allFitInto_13 ?_
            refine lv_iload_n hx hb dX4_allFitInto_16 rfl (lv_at hl 3 rfl) ?_
            have hPs := hP.sub (ws' := wS h0 h1 h2 cI u.1) [1, 2, 3] rfl
            refine vp_callSi (W.runV (As := [.int _]) (rest := [.int _]) ⟨hx, hb, hml, hown, hts⟩ (c_X3_ribCount l dC dI h0 h1 h2 cI h) (cwV 1 hts gX4_allFitInto_X3_ribCount rfl rfl rfl (by decide +kernel) ⟨Nat.le_of_ble_eq_true rfl, Nat.le_of_ble_eq_true rfl⟩) ⟨fbR, va_recv hK hPs (ci := 1) (q0 := 0) rfl rfl, fun U hU hW => ⟨rfl, by rw [hU]; exact hPs, va_K.moved hW.alike hK⟩⟩ rfl rfl hl.1 rfl (lv_room (Nat.le_of_ble_eq_true rfl)) dX4_allFitInto_17 ⟨Nat.zero_le _, Nat.zero_le _⟩) (fun r_3 h => ?_)
            refine lv_icmp_ge (tgt := 68) hx hb dX4_allFitInto_20 (by decide) (fun c_20 => ?_) (fun c_20 => ?_)
            · have h := br1 h c_20
              exact hK_10 h _ (lv_sub hl [0, 1, 2, 3] rfl)
            · have h := br2 h c_20
              refine lv_aload_n hx hb dX4_allFitInto_23 rfl (lv_at hl 0 rfl) ?_
              refine va_get (D := (dC, dI)) (ci := 2) (v := .ref h0) (C := RX4) (T := TX4) (N := 2) hx hb hts i_X4 hown hK hP 0 rfl rfl 0 (by decide) f_10 (fun _ h9 => h9) rfl dX4_allFitInto_24 ?_
              refine lv_iload_n hx hb dX4_allFitInto_27 rfl (lv_at hl 3 rfl) ?_
              refine lv_iload hx hb dX4_allFitInto_28 (lv_at hl 4 rfl) ?_
              have hPs := hP.sub (ws' := wS h0 h1 h2 cI u.1) [1, 2, 3] rfl
              refine vp_callSl (W.runV (As := [.int _, .int _]) (rest := []) ⟨hx, hb, hml, hown, hts⟩ (c_X3_chosenFigure l dC dI h0 h1 h2 cI h) (cwV 2 hts gX4_allFitInto_X3_chosenFigure rfl rfl rfl (by decide +kernel) ⟨Nat.le_of_ble_eq_true rfl, Nat.le_of_ble_eq_true rfl⟩) ⟨fbR, va_recv hK hPs (ci := 1) (q0 := 0) rfl rfl, fun U hU hW => ⟨rfl, by rw [hU]; exact hPs, va_K.moved hW.alike hK⟩⟩ rfl rfl hl.1 rfl (lv_room (Nat.le_of_ble_eq_true rfl)) dX4_allFitInto_30 ⟨Nat.zero_le _, Nat.zero_le _⟩) (fun r_4 h => ?_)
              refine lv_lstore (lv' := [(5, .long r_4), (0, .ref b0), (1, .int x1), (2, .int x2), (3, .int v3_1), (4, .int v4_2)]) hx hb dX4_allFitInto_33 hl (by decide) rfl (fun ls hl => ?_)
              refine lv_lload hx hb dX4_allFitInto_35 (lv_at hl 0 rfl) ?_
              refine lv_lconst (v := 0) hx hb dX4_allFitInto_37 (by decide) ?_
              refine W.lcmp hx hb dX4_allFitInto_38 ?_
              obtain ⟨J_62, hJi_62, h⟩ := jnE0 h
              have hJ_62 : J_62 → ∀ (ls : Array Slot), lv_has ls 7 [(0, .ref b0), (1, .int x1), (2, .int x2), (3, .int v3_1), (4, .int v4_2)] → W p l e (headSpec wsX4_allFitInto ({ frames := 5, cells := 0, slots := 0, locals := 114 } : Room)).room s m ([.ref b0, .int x1, .int x2] : List Value).toArray below meth c s.heap [] 0 0 (MQ below (vp_Si post) ([.ref b0, .int x1, .int x2] : List Value).toArray s 0 0 (fun _ => False)) (F0 m 62 ls []) := by
                intro  h ls hl
                have h := hJi_62 h
                obtain ⟨y_7, ey_7⟩ : ∃ z : Int32, z = v4_2 + (1 : Int32) := ⟨_, rfl⟩
                have h := h y_7 ey_7
                refine lv_iinc (v := y_7) (lv' := [(4, .int y_7), (0, .ref b0), (1, .int x1), (2, .int x2), (3, .int v3_1)]) hx hb dX4_allFitInto_62 hl (k := 4) rfl (by rw [ey_7]; rfl) (by decide) rfl (fun ls hl => ?_)
                refine lv_goto (tgt := 10) hx hb dX4_allFitInto_65 (by decide) ?_
                exact ih_10 _ h _ (lv_sub hl [1, 2, 3, 4, 0] rfl)
              refine lv_if_eq (tgt := 62) hx hb dX4_allFitInto_39 (by decide) (fun c_39 => ?_) (fun c_39 => ?_)
              · have h := br1 h c_39
                exact hJ_62 h _ (lv_sub hl [1, 2, 3, 4, 5] rfl)
              · have h := br2 h c_39
                refine lv_lload hx hb dX4_allFitInto_42 (lv_at hl 0 rfl) ?_
                refine vp_callSi (W.runS (As := [.long _]) (rest := []) ⟨hx, hb, hml, hown, hts⟩ (c_X2_spanOfU l h) (va_cwS 1 hts gX4_allFitInto_X2_spanOfU rfl rfl rfl (by decide +kernel) ⟨Nat.le_of_ble_eq_true rfl, Nat.le_of_ble_eq_true rfl⟩) ⟨fun _ _ _ _ q => q, fun _ _ _ => ⟨rfl, trivial⟩⟩ rfl rfl hl.1 rfl (lv_room (Nat.le_of_ble_eq_true rfl)) dX4_allFitInto_44 ⟨Nat.zero_le _, Nat.zero_le _⟩) (fun r_5 h => ?_)
                refine lv_iload_n hx hb dX4_allFitInto_47 rfl (lv_at hl 2 rfl) ?_
                refine lv_icmp_gt (tgt := 60) hx hb dX4_allFitInto_48 (by decide) (fun c_48 => ?_) (fun c_48 => ?_)
                · have h := br1 h c_48
                  refine lv_iconst (v := 0) hx hb dX4_allFitInto_60 (by decide) ?_
                  exact W.zret (ty := .boolean) hx hb hr rfl (fun t ht _ => ⟨_, rfl, h, ht⟩) (fun q hq => by cases hq) dX4_allFitInto_61
                · have h := br2 h c_48
                  refine lv_lload hx hb dX4_allFitInto_51 (lv_at hl 0 rfl) ?_
                  refine vp_callSi (W.runS (As := [.long _]) (rest := []) ⟨hx, hb, hml, hown, hts⟩ (c_X2_spanOfZ l h) (va_cwS 1 hts gX4_allFitInto_X2_spanOfZ rfl rfl rfl (by decide +kernel) ⟨Nat.le_of_ble_eq_true rfl, Nat.le_of_ble_eq_true rfl⟩) ⟨fun _ _ _ _ q => q, fun _ _ _ => ⟨rfl, trivial⟩⟩ rfl rfl hl.1 rfl (lv_room (Nat.le_of_ble_eq_true rfl)) dX4_allFitInto_53 ⟨Nat.zero_le _, Nat.zero_le _⟩) (fun r_6 h => ?_)
                  refine lv_iload_n hx hb dX4_allFitInto_56 rfl (lv_at hl 3 rfl) ?_
                  refine lv_icmp_le (tgt := 62) hx hb dX4_allFitInto_57 (by decide) (fun c_57 => ?_) (fun c_57 => ?_)
                  · have h := br1 h c_57
                    exact hJ_62 h _ (lv_sub hl [1, 2, 3, 4, 5] rfl)
                  · have h := br2 h c_57
                    refine lv_iconst (v := 0) hx hb dX4_allFitInto_60 (by decide) ?_
                    exact W.zret (ty := .boolean) hx hb hr rfl (fun t ht _ => ⟨_, rfl, h, ht⟩) (fun q hq => by cases hq) dX4_allFitInto_61
        exact loop_10 n _ h _ (lv_sub hl [1, 2, 3, 4, 0] rfl)
  exact loop_2 n _ h _ (lv_sub hl [1, 2, 3, 0] rfl)
set_option maxHeartbeats 4000000 in
set_option maxRecDepth 100000 in
theorem c_X4_lay (l : Launch) (dC : Nat → ClassId) (dI : Nat → Nat → Nat) (b0 h0 h1 h2 g0 g1 : Nat) (cI : ClassId) (sz : Nat) {u : St × St} {x1 : Int32} {x2 : Int32} {x3 : Int32} {post : Int32 → (St × St) → Prop} (h : P_X4_lay u x1 x2 x3 post) : Met l yX4_lay wsX4_lay ({ frames := 6, cells := 0, slots := 0, locals := 140 } : Room) (MPre (dC, dI) vwCl (wX b0 h0 h1 h2 g0 g1 cI u) [(cI, .int)] sz [.ref b0, .int x1, .int x2, .int x3]) (va_Qi post (fun (u2 : St × St) (t : State) => va_P (dC, dI) vwCl (wX b0 h0 h1 h2 g0 g1 cI u2) t.heap) (va_A (wX b0 h0 h1 h2 g0 g1 cI u) sz)) 0 0 (va_A (wX b0 h0 h1 h2 g0 g1 cI u) sz) := by
  refine Met.ofW (cc := cX4_lay) (maxL := 8) (ret := (some .int)) (by decide) rfl ?_
  intro p e s m args below meth c s₁ B hml hv
  obtain ⟨rfl, hsz, hP, hK, hD0⟩ := hv
  have hx := B.exec
  have hb := B.bytes
  have hr := B.returns
  have hts := atoms_spec (ws := wsX4_lay) B.pre
  have hown : s.vm.findClass RX4 = some m.cls := findClass_of_methodNamed B.named
  have hlocks := B.notSynchronized
  subst hsz
  have hD1 := hD0.self (sz := s.heap.size)
  generalize hAe : va_A (wX b0 h0 h1 h2 g0 g1 cI u) s.heap.size = A at hD1 ⊢
  have hA : ∀ q : Nat, s.heap.size ≤ q → A q := fun q h => by rw [← hAe]; exact Or.inr h
  have hD : ∀ z, va_D A (wX b0 h0 h1 h2 g0 g1 cI z) := fun z => va_Dsame hD1 rfl
  have hS : va_S A s.heap s.heap [] := va_S.rf
  have hl := lv_entry ([.ref b0, .int x1, .int x2, .int x3]) (n := 8) (Nat.le_of_ble_eq_true rfl)
  rw [lg_entry_eq]
  generalize (lg_sl ([.ref b0, .int x1, .int x2, .int x3]) ++ List.replicate (8 - (lg_sl ([.ref b0, .int x1, .int x2, .int x3])).length) Slot.unset).toArray = ls at hl ⊢
  have hl : lv_has ls 8 [(0, .ref b0), (1, .int x1), (2, .int x2), (3, .int x3)] := hl
  have i_X0 : ∀ w ∈ u_ws RX0 TX0 5, w ∈ wsX4_lay := by decide +kernel
  have i_X4 : ∀ w ∈ u_ws RX4 TX4 2, w ∈ wsX4_lay := by decide +kernel
  have f_10 := hts (.fieldLink RX4 10 "SliceBody" "solid" "LSliceBody$Solid;") (by decide +kernel)
  have f_19 := hts (.fieldLink RX4 19 "SliceBody" "boards" "LSliceBody$Boards;") (by decide +kernel)
  have f_179 := hts (.fieldLink RX4 179 "SliceBody$Boards" "boardCount" "I") (by decide +kernel)
  unfold P_X4_lay at h
  refine lv_iload_n hx hb dX4_lay_0 rfl (lv_at hl 1 rfl) ?_
  refine lv_iconst (v := 1) hx hb dX4_lay_1 (by decide) ?_
  refine lv_icmp_lt (tgt := 31) hx hb dX4_lay_2 (by decide) (fun c_2 => ?_) (fun c_2 => ?_)
  · have h := br1 h c_2
    refine lv_bipush (v := (-2)) hx hb dX4_lay_31 (by decide) ?_
    exact W.iret hx hb hr (fun t ht _ => ⟨⟨_, u, rfl, h, hPr ht hP⟩, hS.F ht⟩) hS.2.2 dX4_lay_33
  · have h := br2 h c_2
    refine lv_iload_n hx hb dX4_lay_5 rfl (lv_at hl 1 rfl) ?_
    refine lv_bipush (v := 60) hx hb dX4_lay_6 (by decide) ?_
    refine lv_icmp_gt (tgt := 31) hx hb dX4_lay_8 (by decide) (fun c_8 => ?_) (fun c_8 => ?_)
    · have h := br1 h c_8
      refine lv_bipush (v := (-2)) hx hb dX4_lay_31 (by decide) ?_
      exact W.iret hx hb hr (fun t ht _ => ⟨⟨_, u, rfl, h, hPr ht hP⟩, hS.F ht⟩) hS.2.2 dX4_lay_33
    · have h := br2 h c_8
      refine lv_iload_n hx hb dX4_lay_11 rfl (lv_at hl 2 rfl) ?_
      refine lv_iconst (v := 1) hx hb dX4_lay_12 (by decide) ?_
      refine lv_icmp_lt (tgt := 31) hx hb dX4_lay_13 (by decide) (fun c_13 => ?_) (fun c_13 => ?_)
      · have h := br1 h c_13
        refine lv_bipush (v := (-2)) hx hb dX4_lay_31 (by decide) ?_
        exact W.iret hx hb hr (fun t ht _ => ⟨⟨_, u, rfl, h, hPr ht hP⟩, hS.F ht⟩) hS.2.2 dX4_lay_33
      · have h := br2 h c_13
        refine lv_iload_n hx hb dX4_lay_16 rfl (lv_at hl 2 rfl) ?_
        refine lv_bipush (v := 60) hx hb dX4_lay_17 (by decide) ?_
        refine lv_icmp_gt (tgt := 31) hx hb dX4_lay_19 (by decide) (fun c_19 => ?_) (fun c_19 => ?_)
        · have h := br1 h c_19
          refine lv_bipush (v := (-2)) hx hb dX4_lay_31 (by decide) ?_
          exact W.iret hx hb hr (fun t ht _ => ⟨⟨_, u, rfl, h, hPr ht hP⟩, hS.F ht⟩) hS.2.2 dX4_lay_33
        · have h := br2 h c_19
          refine lv_iload_n hx hb dX4_lay_22 rfl (lv_at hl 3 rfl) ?_
          refine lv_if_lt (tgt := 31) hx hb dX4_lay_23 (by decide) (fun c_23 => ?_) (fun c_23 => ?_)
          · have h := br1 h c_23
            refine lv_bipush (v := (-2)) hx hb dX4_lay_31 (by decide) ?_
            exact W.iret hx hb hr (fun t ht _ => ⟨⟨_, u, rfl, h, hPr ht hP⟩, hS.F ht⟩) hS.2.2 dX4_lay_33
          · have h := br2 h c_23
            refine lv_iload_n hx hb dX4_lay_26 rfl (lv_at hl 3 rfl) ?_
            refine lv_iconst (v := 5) hx hb dX4_lay_27 (by decide) ?_
            refine lv_icmp_le (tgt := 34) hx hb dX4_lay_28 (by decide) (fun c_28 => ?_) (fun c_28 => ?_)
            · have h := br1 h c_28
              refine lv_aload_n hx hb dX4_lay_34 rfl (lv_at hl 0 rfl) ?_
              refine lv_iload_n hx hb dX4_lay_35 rfl (lv_at hl 1 rfl) ?_
              refine lv_iload_n hx hb dX4_lay_36 rfl (lv_at hl 3 rfl) ?_
              refine lv_isub hx hb dX4_lay_37 ?_
              refine lv_iload_n hx hb dX4_lay_38 rfl (lv_at hl 2 rfl) ?_
              refine lv_iload_n hx hb dX4_lay_39 rfl (lv_at hl 3 rfl) ?_
              refine lv_isub hx hb dX4_lay_40 ?_
              refine vp_callSi (W.runV (As := [.int _, .int _]) (rest := []) ⟨hx, hb, hml, hown, hts⟩ (c_X4_allFitInto l dC dI b0 h0 h1 h2 g0 g1 cI h) (cwV 2 hts gX4_lay_X4_allFitInto rfl rfl rfl (by decide +kernel) ⟨Nat.le_of_ble_eq_true rfl, Nat.le_of_ble_eq_true rfl⟩) ⟨fbR, va_recv hK hP (ci := 2) (q0 := 0) rfl rfl, fun U hU hW => ⟨rfl, by rw [hU]; exact hP, va_K.moved hW.alike hK⟩⟩ rfl rfl hl.1 rfl (lv_room (Nat.le_of_ble_eq_true rfl)) dX4_lay_41 ⟨Nat.zero_le _, Nat.zero_le _⟩) (fun r_1 h => ?_)
              refine lv_if_ne (tgt := 50) hx hb dX4_lay_44 (by decide) (fun c_44 => ?_) (fun c_44 => ?_)
              · have h := br2 h c_44
                refine lv_aload_n hx hb dX4_lay_50 rfl (lv_at hl 0 rfl) ?_
                refine va_get (D := (dC, dI)) (ci := 2) (v := .ref g0) (C := RX4) (T := TX4) (N := 2) hx hb hts i_X4 hown hK hP 0 rfl rfl 1 (by decide) f_19 (fun _ h9 => h9) rfl dX4_lay_51 ?_
                have hPs := hP.sub (ws' := wB g0 g1 cI u.2) [4, 5] rfl
                have hDs := (hD u).sub (ws' := wB g0 g1 cI u.2) [4, 5] (by decide) rfl
                have hFc := fr_all (ws := wB g0 g1 cI u.2) (hDs) hS hA
                refine va_callv (va_runV (As := []) (rest := []) ⟨hx, hb, hml, hown, hts⟩ (c_X0_clear l dC dI g0 g1 cI (s.heap).size h) (cwV 0 hts gX4_lay_X0_clear rfl rfl rfl (by decide +kernel) ⟨Nat.le_of_ble_eq_true rfl, Nat.le_of_ble_eq_true rfl⟩) ⟨fbM, va_recv hK hPs (ci := 0) (q0 := 0) rfl rfl, fun U hU hW => ⟨rfl, by rw [hU], by rw [hU]; exact hPs, va_K.moved hW.alike hK, (hDs).weaken (fun _ _ _ _ => trivial)⟩⟩ rfl rfl hl.1 rfl (lv_room (Nat.le_of_ble_eq_true rfl)) dX4_lay_54 ⟨Nat.zero_le _, Nat.zero_le _⟩) hS (fun q _ h => hFc q h) hFc (fun z_4 t H locs ht _ h hP1 _ hk1 hS => ?_)
                obtain ⟨u_3, eu_3⟩ : ∃ z : St × St, z = (u.1, z_4) := ⟨_, rfl⟩
                have h := h u_3 eu_3
                have hP : va_P (dC, dI) vwCl (wX b0 h0 h1 h2 g0 g1 cI u_3) H := by rw [eu_3]; exact X_joinB hP (hD _) hk1 hFc (by rw [← ht]; exact hP1)
                refine lv_iconst (v := 0) hx hb dX4_lay_57 (by decide) ?_
                refine lv_istore (lv' := [(4, .int (0 : Int32)), (0, .ref b0), (1, .int x1), (2, .int x2), (3, .int x3)]) hx hb dX4_lay_58 hl (by decide) rfl (fun ls hl => ?_)
                obtain ⟨K_60, hKi_60, h⟩ := jnE1 h
                have hK_60 : ∀ (u_20 : St × St), K_60 u_20 → ∀ (H : Heap) (locs : List Loc), va_P (dC, dI) vwCl (wX b0 h0 h1 h2 g0 g1 cI u_20) H → va_S A s.heap H locs → ∀ (ls : Array Slot), lv_has ls 8 [(0, .ref b0), (1, .int x1), (2, .int x2)] → W p l e (headSpec wsX4_lay ({ frames := 6, cells := 0, slots := 0, locals := 140 } : Room)).room s m ([.ref b0, .int x1, .int x2, .int x3] : List Value).toArray below meth c H locs 0 0 (MQ below (va_Qi post (fun (u2 : St × St) (t : State) => va_P (dC, dI) vwCl (wX b0 h0 h1 h2 g0 g1 cI u2) t.heap) A) ([.ref b0, .int x1, .int x2, .int x3] : List Value).toArray s 0 0 A) (F0 m 140 ls []) := by
                  intro u_20 h H locs hP hS ls hl
                  have h := hKi_60 _ h
                  refine lv_aload_n hx hb dX4_lay_140 rfl (lv_at hl 0 rfl) ?_
                  refine va_get (D := (dC, dI)) (ci := 2) (v := .ref g0) (C := RX4) (T := TX4) (N := 2) hx hb hts i_X4 hown hK hP 0 rfl rfl 1 (by decide) f_19 (fun _ h9 => h9) rfl dX4_lay_141 ?_
                  refine lv_iload_n hx hb dX4_lay_144 rfl (lv_at hl 1 rfl) ?_
                  refine lv_iload_n hx hb dX4_lay_145 rfl (lv_at hl 2 rfl) ?_
                  have hPs := hP.sub (ws' := wB g0 g1 cI u_20.2) [4, 5] rfl
                  have hDs := (hD u_20).sub (ws' := wB g0 g1 cI u_20.2) [4, 5] (by decide) rfl
                  have hFc := fr_all (ws := wB g0 g1 cI u_20.2) (hDs) hS hA
                  refine va_callv (va_runV (As := [.int _, .int _]) (rest := []) ⟨hx, hb, hml, hown, hts⟩ (c_X0_layInRows l dC dI g0 g1 cI (H).size h) (cwV 2 hts gX4_lay_X0_layInRows rfl rfl rfl (by decide +kernel) ⟨Nat.le_of_ble_eq_true rfl, Nat.le_of_ble_eq_true rfl⟩) ⟨fbM, va_recv hK hPs (ci := 0) (q0 := 0) rfl rfl, fun U hU hW => ⟨rfl, by rw [hU], by rw [hU]; exact hPs, va_K.moved hW.alike hK, (hDs).weaken (fun _ _ _ _ => trivial)⟩⟩ rfl rfl hl.1 rfl (lv_room (Nat.le_of_ble_eq_true rfl)) dX4_lay_146 ⟨Nat.zero_le _, Nat.zero_le _⟩) hS (fun q _ h => hFc q h) hFc (fun z_23 t H locs ht _ h hP1 _ hk1 hS => ?_)
                  obtain ⟨u_22, eu_22⟩ : ∃ z : St × St, z = (u_20.1, z_23) := ⟨_, rfl⟩
                  have h := h u_22 eu_22
                  have hP : va_P (dC, dI) vwCl (wX b0 h0 h1 h2 g0 g1 cI u_22) H := by rw [eu_22]; exact X_joinB hP (hD _) hk1 hFc (by rw [← ht]; exact hP1)
                  refine lv_aload_n hx hb dX4_lay_149 rfl (lv_at hl 0 rfl) ?_
                  refine va_get (D := (dC, dI)) (ci := 2) (v := .ref g0) (C := RX4) (T := TX4) (N := 2) hx hb hts i_X4 hown hK hP 0 rfl rfl 1 (by decide) f_19 (fun _ h9 => h9) rfl dX4_lay_150 ?_
                  refine va_get (D := (dC, dI)) (ci := 0) (v := .int (u_22.2.1 3)) (C := RX0) (T := TX0) (N := 5) hx hb hts i_X0 hown hK hP 4 rfl rfl 3 (by decide) f_179 (fun _ h9 => h9) rfl dX4_lay_153 ?_
                  exact W.iret hx hb hr (fun t ht _ => ⟨⟨_, u_22, rfl, h, hPr ht hP⟩, hS.F ht⟩) hS.2.2 dX4_lay_156
                obtain ⟨n, h⟩ := h
                have loop_60 : ∀ (n : Nat) (v4_5 : Int32) (u_6 : (St × St)), L_X4_lay_60 post K_60 x3 n v4_5 u_6 → ∀ (H : Heap) (locs : List Loc), va_P (dC, dI) vwCl (wX b0 h0 h1 h2 g0 g1 cI u_6) H → va_S A s.heap H locs → ∀ (ls : Array Slot), lv_has ls 8 [(0, .ref b0), (1, .int x1), (2, .int x2), (3, .int x3), (4, .int v4_5)] → W p l e (headSpec wsX4_lay ({ frames := 6, cells := 0, slots := 0, locals := 140 } : Room)).room s m ([.ref b0, .int x1, .int x2, .int x3] : List Value).toArray below meth c H locs 0 0 (MQ below (va_Qi post (fun (u2 : St × St) (t : State) => va_P (dC, dI) vwCl (wX b0 h0 h1 h2 g0 g1 cI u2) t.heap) A) ([.ref b0, .int x1, .int x2, .int x3] : List Value).toArray s 0 0 A) (F0 m 60 ls []) := by
                  intro n
                  induction n with
                  | zero => intro v4_5 u_6 h; rw [L_X4_lay_60] at h; exact h.elim
                  | succ n ih_60 =>
                    intro v4_5 u_6 h H locs hP hS ls hl
                    rw [L_X4_lay_60] at h
                    refine lv_iload hx hb dX4_lay_60 (lv_at hl 4 rfl) ?_
                    refine lv_iconst (v := 2) hx hb dX4_lay_62 (by decide) ?_
                    refine lv_icmp_ge (tgt := 140) hx hb dX4_lay_63 (by decide) (fun c_63 => ?_) (fun c_63 => ?_)
                    · have h := br1 h c_63
                      exact hK_60 _ h _ _ hP hS _ (lv_sub hl [0, 1, 2] rfl)
                    · have h := br2 h c_63
                      refine lv_iconst (v := 0) hx hb dX4_lay_66 (by decide) ?_
                      refine lv_istore (lv' := [(5, .int (0 : Int32)), (0, .ref b0), (1, .int x1), (2, .int x2), (3, .int x3), (4, .int v4_5)]) hx hb dX4_lay_67 hl (by decide) rfl (fun ls hl => ?_)
                      obtain ⟨K_69, hKi_69, h⟩ := jnE1 h
                      have hK_69 : ∀ (u_18 : St × St), K_69 u_18 → ∀ (H : Heap) (locs : List Loc), va_P (dC, dI) vwCl (wX b0 h0 h1 h2 g0 g1 cI u_18) H → va_S A s.heap H locs → ∀ (ls : Array Slot), lv_has ls 8 [(0, .ref b0), (1, .int x1), (2, .int x2), (3, .int x3), (4, .int v4_5)] → W p l e (headSpec wsX4_lay ({ frames := 6, cells := 0, slots := 0, locals := 140 } : Room)).room s m ([.ref b0, .int x1, .int x2, .int x3] : List Value).toArray below meth c H locs 0 0 (MQ below (va_Qi post (fun (u2 : St × St) (t : State) => va_P (dC, dI) vwCl (wX b0 h0 h1 h2 g0 g1 cI u2) t.heap) A) ([.ref b0, .int x1, .int x2, .int x3] : List Value).toArray s 0 0 A) (F0 m 134 ls []) := by
                        intro u_18 h H locs hP hS ls hl
                        have h := hKi_69 _ h
                        obtain ⟨y_19, ey_19⟩ : ∃ z : Int32, z = v4_5 + (1 : Int32) := ⟨_, rfl⟩
                        have h := h y_19 ey_19
                        refine lv_iinc (v := y_19) (lv' := [(4, .int y_19), (0, .ref b0), (1, .int x1), (2, .int x2), (3, .int x3)]) hx hb dX4_lay_134 hl (k := 4) rfl (by rw [ey_19]; rfl) (by decide) rfl (fun ls hl => ?_)
                        refine lv_goto (tgt := 60) hx hb dX4_lay_137 (by decide) ?_
                        exact ih_60 _ _ h _ _ hP hS _ (lv_sub hl [1, 2, 3, 4, 0] rfl)
                      obtain ⟨n, h⟩ := h
                      have loop_69 : ∀ (n : Nat) (v5_7 : Int32) (u_8 : (St × St)), L_X4_lay_69 post K_69 x3 v4_5 n v5_7 u_8 → ∀ (H : Heap) (locs : List Loc), va_P (dC, dI) vwCl (wX b0 h0 h1 h2 g0 g1 cI u_8) H → va_S A s.heap H locs → ∀ (ls : Array Slot), lv_has ls 8 [(0, .ref b0), (1, .int x1), (2, .int x2), (3, .int x3), (4, .int v4_5), (5, .int v5_7)] → W p l e (headSpec wsX4_lay ({ frames := 6, cells := 0, slots := 0, locals := 140 } : Room)).room s m ([.ref b0, .int x1, .int x2, .int x3] : List Value).toArray below meth c H locs 0 0 (MQ below (va_Qi post (fun (u2 : St × St) (t : State) => va_P (dC, dI) vwCl (wX b0 h0 h1 h2 g0 g1 cI u2) t.heap) A) ([.ref b0, .int x1, .int x2, .int x3] : List Value).toArray s 0 0 A) (F0 m 69 ls []) := by
                        intro n
                        induction n with
                        | zero => intro v5_7 u_8 h; rw [L_X4_lay_69] at h; exact h.elim
                        | succ n ih_69 =>
                          intro v5_7 u_8 h H locs hP hS ls hl
                          rw [L_X4_lay_69] at h
                          refine lv_iload hx hb dX4_lay_69 (lv_at hl 5 rfl) ?_
                          refine lv_aload_n hx hb dX4_lay_71 rfl (lv_at hl 0 rfl) ?_
                          refine va_get (D := (dC, dI)) (ci := 2) (v := .ref h0) (C := RX4) (T := TX4) (N := 2) hx hb hts i_X4 hown hK hP 0 rfl rfl 0 (by decide) f_10 (fun _ h9 => h9) rfl dX4_lay_72 ?_
                          refine lv_iload hx hb dX4_lay_75 (lv_at hl 4 rfl) ?_
                          have hPs := hP.sub (ws' := wS h0 h1 h2 cI u_8.1) [1, 2, 3] rfl
                          refine vp_callSi (W.runV (As := [.int _]) (rest := [.int _]) ⟨hx, hb, hml, hown, hts⟩ (c_X3_ribCount l dC dI h0 h1 h2 cI h) (cwV 1 hts gX4_lay_X3_ribCount rfl rfl rfl (by decide +kernel) ⟨Nat.le_of_ble_eq_true rfl, Nat.le_of_ble_eq_true rfl⟩) ⟨fbR, va_recv hK hPs (ci := 1) (q0 := 0) rfl rfl, fun U hU hW => ⟨rfl, by rw [hU]; exact hPs, va_K.moved hW.alike hK⟩⟩ rfl rfl hl.1 rfl (lv_room (Nat.le_of_ble_eq_true rfl)) dX4_lay_77 ⟨Nat.zero_le _, Nat.zero_le _⟩) (fun r_9 h => ?_)
                          refine lv_icmp_ge (tgt := 134) hx hb dX4_lay_80 (by decide) (fun c_80 => ?_) (fun c_80 => ?_)
                          · have h := br1 h c_80
                            exact hK_69 _ h _ _ hP hS _ (lv_sub hl [0, 1, 2, 3, 4] rfl)
                          · have h := br2 h c_80
                            refine lv_aload_n hx hb dX4_lay_83 rfl (lv_at hl 0 rfl) ?_
                            refine va_get (D := (dC, dI)) (ci := 2) (v := .ref h0) (C := RX4) (T := TX4) (N := 2) hx hb hts i_X4 hown hK hP 0 rfl rfl 0 (by decide) f_10 (fun _ h9 => h9) rfl dX4_lay_84 ?_
                            refine lv_iload hx hb dX4_lay_87 (lv_at hl 4 rfl) ?_
                            refine lv_iload hx hb dX4_lay_89 (lv_at hl 5 rfl) ?_
                            have hPs := hP.sub (ws' := wS h0 h1 h2 cI u_8.1) [1, 2, 3] rfl
                            refine vp_callSl (W.runV (As := [.int _, .int _]) (rest := []) ⟨hx, hb, hml, hown, hts⟩ (c_X3_chosenFigure l dC dI h0 h1 h2 cI h) (cwV 2 hts gX4_lay_X3_chosenFigure rfl rfl rfl (by decide +kernel) ⟨Nat.le_of_ble_eq_true rfl, Nat.le_of_ble_eq_true rfl⟩) ⟨fbR, va_recv hK hPs (ci := 1) (q0 := 0) rfl rfl, fun U hU hW => ⟨rfl, by rw [hU]; exact hPs, va_K.moved hW.alike hK⟩⟩ rfl rfl hl.1 rfl (lv_room (Nat.le_of_ble_eq_true rfl)) dX4_lay_91 ⟨Nat.zero_le _, Nat.zero_le _⟩) (fun r_10 h => ?_)
                            refine lv_lstore (lv' := [(6, .long r_10), (0, .ref b0), (1, .int x1), (2, .int x2), (3, .int x3), (4, .int v4_5), (5, .int v5_7)]) hx hb dX4_lay_94 hl (by decide) rfl (fun ls hl => ?_)
                            refine lv_lload hx hb dX4_lay_96 (lv_at hl 0 rfl) ?_
                            refine lv_lconst (v := 0) hx hb dX4_lay_98 (by decide) ?_
                            refine W.lcmp hx hb dX4_lay_99 ?_
                            obtain ⟨J_128, hJi_128, h⟩ := jnE1 h
                            have hJ_128 : ∀ (u_16 : St × St), J_128 u_16 → ∀ (H : Heap) (locs : List Loc), va_P (dC, dI) vwCl (wX b0 h0 h1 h2 g0 g1 cI u_16) H → va_S A s.heap H locs → ∀ (ls : Array Slot), lv_has ls 8 [(0, .ref b0), (1, .int x1), (2, .int x2), (3, .int x3), (4, .int v4_5), (5, .int v5_7)] → W p l e (headSpec wsX4_lay ({ frames := 6, cells := 0, slots := 0, locals := 140 } : Room)).room s m ([.ref b0, .int x1, .int x2, .int x3] : List Value).toArray below meth c H locs 0 0 (MQ below (va_Qi post (fun (u2 : St × St) (t : State) => va_P (dC, dI) vwCl (wX b0 h0 h1 h2 g0 g1 cI u2) t.heap) A) ([.ref b0, .int x1, .int x2, .int x3] : List Value).toArray s 0 0 A) (F0 m 128 ls []) := by
                              intro u_16 h H locs hP hS ls hl
                              have h := hJi_128 _ h
                              obtain ⟨y_17, ey_17⟩ : ∃ z : Int32, z = v5_7 + (1 : Int32) := ⟨_, rfl⟩
                              have h := h y_17 ey_17
                              refine lv_iinc (v := y_17) (lv' := [(5, .int y_17), (0, .ref b0), (1, .int x1), (2, .int x2), (3, .int x3), (4, .int v4_5)]) hx hb dX4_lay_128 hl (k := 5) rfl (by rw [ey_17]; rfl) (by decide) rfl (fun ls hl => ?_)
                              refine lv_goto (tgt := 69) hx hb dX4_lay_131 (by decide) ?_
                              exact ih_69 _ _ h _ _ hP hS _ (lv_sub hl [1, 2, 3, 4, 5, 0] rfl)
                            refine lv_if_eq (tgt := 128) hx hb dX4_lay_100 (by decide) (fun c_100 => ?_) (fun c_100 => ?_)
                            · have h := br1 h c_100
                              exact hJ_128 _ h _ _ hP hS _ (lv_sub hl [1, 2, 3, 4, 5, 6] rfl)
                            · have h := br2 h c_100
                              refine lv_aload_n hx hb dX4_lay_103 rfl (lv_at hl 1 rfl) ?_
                              refine va_get (D := (dC, dI)) (ci := 2) (v := .ref g0) (C := RX4) (T := TX4) (N := 2) hx hb hts i_X4 hown hK hP 0 rfl rfl 1 (by decide) f_19 (fun _ h9 => h9) rfl dX4_lay_104 ?_
                              refine lv_iload hx hb dX4_lay_107 (lv_at hl 5 rfl) ?_
                              refine lv_iload hx hb dX4_lay_109 (lv_at hl 6 rfl) ?_
                              refine lv_lload hx hb dX4_lay_111 (lv_at hl 0 rfl) ?_
                              refine vp_callSi (W.runS (As := [.long _]) (rest := [.int _, .int _, .ref g0]) ⟨hx, hb, hml, hown, hts⟩ (c_X2_spanOfU l h) (va_cwS 1 hts gX4_lay_X2_spanOfU rfl rfl rfl (by decide +kernel) ⟨Nat.le_of_ble_eq_true rfl, Nat.le_of_ble_eq_true rfl⟩) ⟨fun _ _ _ _ q => q, fun _ _ _ => ⟨rfl, trivial⟩⟩ rfl rfl hl.1 rfl (lv_room (Nat.le_of_ble_eq_true rfl)) dX4_lay_113 ⟨Nat.zero_le _, Nat.zero_le _⟩) (fun r_11 h => ?_)
                              refine lv_iload_n hx hb dX4_lay_116 rfl (lv_at hl 4 rfl) ?_
                              refine lv_iadd hx hb dX4_lay_117 ?_
                              refine lv_lload hx hb dX4_lay_118 (lv_at hl 0 rfl) ?_
                              refine vp_callSi (W.runS (As := [.long _]) (rest := [.int _, .int _, .int _, .ref g0]) ⟨hx, hb, hml, hown, hts⟩ (c_X2_spanOfZ l h) (va_cwS 1 hts gX4_lay_X2_spanOfZ rfl rfl rfl (by decide +kernel) ⟨Nat.le_of_ble_eq_true rfl, Nat.le_of_ble_eq_true rfl⟩) ⟨fun _ _ _ _ q => q, fun _ _ _ => ⟨rfl, trivial⟩⟩ rfl rfl hl.1 rfl (lv_room (Nat.le_of_ble_eq_true rfl)) dX4_lay_120 ⟨Nat.zero_le _, Nat.zero_le _⟩) (fun r_12 h => ?_)
                              refine lv_iload_n hx hb dX4_lay_123 rfl (lv_at hl 4 rfl) ?_
                              refine lv_iadd hx hb dX4_lay_124 ?_
                              have hPs := hP.sub (ws' := wB g0 g1 cI u_8.2) [4, 5] rfl
                              have hDs := (hD u_8).sub (ws' := wB g0 g1 cI u_8.2) [4, 5] (by decide) rfl
                              have hFc := fr_all (ws := wB g0 g1 cI u_8.2) (hDs) hS hA
                              refine va_callv (va_runV (As := [.int _, .int _, .int _, .int _]) (rest := []) ⟨hx, hb, hml, hown, hts⟩ (c_X0_add l dC dI g0 g1 cI (H).size h) (cwV 4 hts gX4_lay_X0_add rfl rfl rfl (by decide +kernel) ⟨Nat.le_of_ble_eq_true rfl, Nat.le_of_ble_eq_true rfl⟩) ⟨fbM, va_recv hK hPs (ci := 0) (q0 := 0) rfl rfl, fun U hU hW => ⟨rfl, by rw [hU], by rw [hU]; exact hPs, va_K.moved hW.alike hK, (hDs).weaken (fun _ _ _ _ => trivial)⟩⟩ rfl rfl hl.1 rfl (lv_room (Nat.le_of_ble_eq_true rfl)) dX4_lay_125 ⟨Nat.zero_le _, Nat.zero_le _⟩) hS (fun q _ h => hFc q h) hFc (fun z_15 t H locs ht _ h hP1 _ hk1 hS => ?_)
                              obtain ⟨u_14, eu_14⟩ : ∃ z : St × St, z = (u_8.1, z_15) := ⟨_, rfl⟩
                              have h := h u_14 eu_14
                              have hP : va_P (dC, dI) vwCl (wX b0 h0 h1 h2 g0 g1 cI u_14) H := by rw [eu_14]; exact X_joinB hP (hD _) hk1 hFc (by rw [← ht]; exact hP1)
                              exact hJ_128 _ h _ _ hP hS _ (lv_sub hl [1, 2, 3, 4, 5, 6] rfl)
                      exact loop_69 n _ _ h _ _ hP hS _ (lv_sub hl [1, 2, 3, 4, 5, 0] rfl)
                exact loop_60 n _ _ h _ _ hP hS _ (lv_sub hl [1, 2, 3, 4, 0] rfl)
              · have h := br1 h c_44
                refine lv_bipush (v := (-5)) hx hb dX4_lay_47 (by decide) ?_
                exact W.iret hx hb hr (fun t ht _ => ⟨⟨_, u, rfl, h, hPr ht hP⟩, hS.F ht⟩) hS.2.2 dX4_lay_49
            · have h := br2 h c_28
              refine lv_bipush (v := (-2)) hx hb dX4_lay_31 (by decide) ?_
              exact W.iret hx hb hr (fun t ht _ => ⟨⟨_, u, rfl, h, hPr ht hP⟩, hS.F ht⟩) hS.2.2 dX4_lay_33
set_option maxHeartbeats 4000000 in
set_option maxRecDepth 100000 in
theorem c_X4_laid (l : Launch) (dC : Nat → ClassId) (dI : Nat → Nat → Nat) (b0 h0 h1 h2 g0 g1 : Nat) (cI : ClassId) {u : St × St} {x1 : Int32} {x2 : Int32} {post : Int32 → Prop} (h : P_X4_laid u x1 x2 post) : Met l yX4_laid wsX4_laid ({ frames := 2, cells := 0, slots := 0, locals := 43 } : Room) (RPre (dC, dI) vwCl (wX b0 h0 h1 h2 g0 g1 cI u) [(cI, .int)] [.ref b0, .int x1, .int x2]) (vp_Si post) 0 0 (fun _ => False) := by
  refine Met.ofW (cc := cX4_laid) (maxL := 3) (ret := (some .int)) (by decide) rfl ?_
  intro p e s m args below meth c s₁ B hml hv
  obtain ⟨rfl, hP, hK⟩ := hv
  have hx := B.exec
  have hb := B.bytes
  have hr := B.returns
  have hts := atoms_spec (ws := wsX4_laid) B.pre
  have hown : s.vm.findClass RX4 = some m.cls := findClass_of_methodNamed B.named
  have hlocks := B.notSynchronized
  have hl := lv_entry ([.ref b0, .int x1, .int x2]) (n := 3) (Nat.le_of_ble_eq_true rfl)
  rw [lg_entry_eq]
  generalize (lg_sl ([.ref b0, .int x1, .int x2]) ++ List.replicate (3 - (lg_sl ([.ref b0, .int x1, .int x2])).length) Slot.unset).toArray = ls at hl ⊢
  have hl : lv_has ls 3 [(0, .ref b0), (1, .int x1), (2, .int x2)] := hl
  have i_X0 : ∀ w ∈ u_ws RX0 TX0 5, w ∈ wsX4_laid := by decide +kernel
  have i_X4 : ∀ w ∈ u_ws RX4 TX4 2, w ∈ wsX4_laid := by decide +kernel
  have f_19 := hts (.fieldLink RX4 19 "SliceBody" "boards" "LSliceBody$Boards;") (by decide +kernel)
  have f_182 := hts (.fieldLink RX4 182 "SliceBody$Boards" "known" "Z") (by decide +kernel)
  have f_186 := hts (.fieldLink RX4 186 "SliceBody$Boards" "count" "I") (by decide +kernel)
  unfold P_X4_laid at h
  refine lv_aload_n hx hb dX4_laid_0 rfl (lv_at hl 0 rfl) ?_
  refine va_get (D := (dC, dI)) (ci := 2) (v := .ref g0) (C := RX4) (T := TX4) (N := 2) hx hb hts i_X4 hown hK hP 0 rfl rfl 1 (by decide) f_19 (fun _ h9 => h9) rfl dX4_laid_1 ?_
  refine va_get (D := (dC, dI)) (ci := 0) (v := .int (u.2.1 1)) (C := RX0) (T := TX0) (N := 5) hx hb hts i_X0 hown hK hP 4 rfl rfl 1 (by decide) f_182 (fun _ h9 => h9) rfl dX4_laid_4 ?_
  refine lv_if_ne (tgt := 13) hx hb dX4_laid_7 (by decide) (fun c_7 => ?_) (fun c_7 => ?_)
  · have h := br2 h c_7
    refine lv_iload_n hx hb dX4_laid_13 rfl (lv_at hl 2 rfl) ?_
    refine lv_if_lt (tgt := 23) hx hb dX4_laid_14 (by decide) (fun c_14 => ?_) (fun c_14 => ?_)
    · have h := br1 h c_14
      refine lv_bipush (v := (-2)) hx hb dX4_laid_23 (by decide) ?_
      exact W.iret hx hb hr (fun t ht _ => ⟨_, rfl, h, ht⟩) (fun q hq => by cases hq) dX4_laid_25
    · have h := br2 h c_14
      refine lv_iload_n hx hb dX4_laid_17 rfl (lv_at hl 2 rfl) ?_
      refine lv_bipush (v := 7) hx hb dX4_laid_18 (by decide) ?_
      refine lv_icmp_lt (tgt := 26) hx hb dX4_laid_20 (by decide) (fun c_20 => ?_) (fun c_20 => ?_)
      · have h := br1 h c_20
        refine lv_iload_n hx hb dX4_laid_26 rfl (lv_at hl 1 rfl) ?_
        refine lv_if_lt (tgt := 41) hx hb dX4_laid_27 (by decide) (fun c_27 => ?_) (fun c_27 => ?_)
        · have h := br1 h c_27
          refine lv_bipush (v := (-6)) hx hb dX4_laid_41 (by decide) ?_
          exact W.iret hx hb hr (fun t ht _ => ⟨_, rfl, h, ht⟩) (fun q hq => by cases hq) dX4_laid_43
        · have h := br2 h c_27
          refine lv_iload_n hx hb dX4_laid_30 rfl (lv_at hl 1 rfl) ?_
          refine lv_aload_n hx hb dX4_laid_31 rfl (lv_at hl 0 rfl) ?_
          refine va_get (D := (dC, dI)) (ci := 2) (v := .ref g0) (C := RX4) (T := TX4) (N := 2) hx hb hts i_X4 hown hK hP 0 rfl rfl 1 (by decide) f_19 (fun _ h9 => h9) rfl dX4_laid_32 ?_
          refine va_get (D := (dC, dI)) (ci := 0) (v := .int (u.2.1 2)) (C := RX0) (T := TX0) (N := 5) hx hb hts i_X0 hown hK hP 4 rfl rfl 2 (by decide) f_186 (fun _ h9 => h9) rfl dX4_laid_35 ?_
          refine lv_icmp_lt (tgt := 44) hx hb dX4_laid_38 (by decide) (fun c_38 => ?_) (fun c_38 => ?_)
          · have h := br1 h c_38
            refine lv_aload_n hx hb dX4_laid_44 rfl (lv_at hl 0 rfl) ?_
            refine va_get (D := (dC, dI)) (ci := 2) (v := .ref g0) (C := RX4) (T := TX4) (N := 2) hx hb hts i_X4 hown hK hP 0 rfl rfl 1 (by decide) f_19 (fun _ h9 => h9) rfl dX4_laid_45 ?_
            refine lv_iload_n hx hb dX4_laid_48 rfl (lv_at hl 1 rfl) ?_
            refine lv_iload_n hx hb dX4_laid_49 rfl (lv_at hl 2 rfl) ?_
            have hPs := hP.sub (ws' := wB g0 g1 cI u.2) [4, 5] rfl
            refine vp_callSi (W.runV (As := [.int _, .int _]) (rest := []) ⟨hx, hb, hml, hown, hts⟩ (c_X0_fact l dC dI g0 g1 cI h) (cwV 2 hts gX4_laid_X0_fact rfl rfl rfl (by decide +kernel) ⟨Nat.le_of_ble_eq_true rfl, Nat.le_of_ble_eq_true rfl⟩) ⟨fbR, va_recv hK hPs (ci := 0) (q0 := 0) rfl rfl, fun U hU hW => ⟨rfl, by rw [hU]; exact hPs, va_K.moved hW.alike hK⟩⟩ rfl rfl hl.1 rfl (lv_room (Nat.le_of_ble_eq_true rfl)) dX4_laid_50 ⟨Nat.zero_le _, Nat.zero_le _⟩) (fun r_1 h => ?_)
            exact W.iret hx hb hr (fun t ht _ => ⟨_, rfl, h, ht⟩) (fun q hq => by cases hq) dX4_laid_53
          · have h := br2 h c_38
            refine lv_bipush (v := (-6)) hx hb dX4_laid_41 (by decide) ?_
            exact W.iret hx hb hr (fun t ht _ => ⟨_, rfl, h, ht⟩) (fun q hq => by cases hq) dX4_laid_43
      · have h := br2 h c_20
        refine lv_bipush (v := (-2)) hx hb dX4_laid_23 (by decide) ?_
        exact W.iret hx hb hr (fun t ht _ => ⟨_, rfl, h, ht⟩) (fun q hq => by cases hq) dX4_laid_25
  · have h := br1 h c_7
    refine lv_bipush (v := (-3)) hx hb dX4_laid_10 (by decide) ?_
    exact W.iret hx hb hr (fun t ht _ => ⟨_, rfl, h, ht⟩) (fun q hq => by cases hq) dX4_laid_12
set_option maxHeartbeats 4000000 in
set_option maxRecDepth 100000 in
theorem c_X4_least (l : Launch) (dC : Nat → ClassId) (dI : Nat → Nat → Nat) (b0 h0 h1 h2 g0 g1 : Nat) (cI : ClassId) {u : St × St} {post : Int32 → Prop} (h : P_X4_least u post) : Met l yX4_least wsX4_least ({ frames := 0, cells := 0, slots := 0, locals := 0 } : Room) (RPre (dC, dI) vwCl (wX b0 h0 h1 h2 g0 g1 cI u) [(cI, .int)] [.ref b0]) (vp_Si post) 0 0 (fun _ => False) := by
  refine Met.ofW (cc := cX4_least) (maxL := 1) (ret := (some .int)) (by decide) rfl ?_
  intro p e s m args below meth c s₁ B hml hv
  obtain ⟨rfl, hP, hK⟩ := hv
  have hx := B.exec
  have hb := B.bytes
  have hr := B.returns
  have hts := atoms_spec (ws := wsX4_least) B.pre
  have hown : s.vm.findClass RX4 = some m.cls := findClass_of_methodNamed B.named
  have hlocks := B.notSynchronized
  have hl := lv_entry ([.ref b0]) (n := 1) (Nat.le_of_ble_eq_true rfl)
  rw [lg_entry_eq]
  generalize (lg_sl ([.ref b0]) ++ List.replicate (1 - (lg_sl ([.ref b0])).length) Slot.unset).toArray = ls at hl ⊢
  have hl : lv_has ls 1 [(0, .ref b0)] := hl
  have i_X0 : ∀ w ∈ u_ws RX0 TX0 5, w ∈ wsX4_least := by decide +kernel
  have i_X4 : ∀ w ∈ u_ws RX4 TX4 2, w ∈ wsX4_least := by decide +kernel
  have f_19 := hts (.fieldLink RX4 19 "SliceBody" "boards" "LSliceBody$Boards;") (by decide +kernel)
  have f_182 := hts (.fieldLink RX4 182 "SliceBody$Boards" "known" "Z") (by decide +kernel)
  have f_192 := hts (.fieldLink RX4 192 "SliceBody$Boards" "fewest" "I") (by decide +kernel)
  unfold P_X4_least at h
  refine lv_aload_n hx hb dX4_least_0 rfl (lv_at hl 0 rfl) ?_
  refine va_get (D := (dC, dI)) (ci := 2) (v := .ref g0) (C := RX4) (T := TX4) (N := 2) hx hb hts i_X4 hown hK hP 0 rfl rfl 1 (by decide) f_19 (fun _ h9 => h9) rfl dX4_least_1 ?_
  refine va_get (D := (dC, dI)) (ci := 0) (v := .int (u.2.1 1)) (C := RX0) (T := TX0) (N := 5) hx hb hts i_X0 hown hK hP 4 rfl rfl 1 (by decide) f_182 (fun _ h9 => h9) rfl dX4_least_4 ?_
  refine lv_if_eq (tgt := 20) hx hb dX4_least_7 (by decide) (fun c_7 => ?_) (fun c_7 => ?_)
  · have h := br1 h c_7
    refine lv_bipush (v := (-3)) hx hb dX4_least_20 (by decide) ?_
    exact W.iret hx hb hr (fun t ht _ => ⟨_, rfl, h, ht⟩) (fun q hq => by cases hq) dX4_least_22
  · have h := br2 h c_7
    refine lv_aload_n hx hb dX4_least_10 rfl (lv_at hl 0 rfl) ?_
    refine va_get (D := (dC, dI)) (ci := 2) (v := .ref g0) (C := RX4) (T := TX4) (N := 2) hx hb hts i_X4 hown hK hP 0 rfl rfl 1 (by decide) f_19 (fun _ h9 => h9) rfl dX4_least_11 ?_
    refine va_get (D := (dC, dI)) (ci := 0) (v := .int (u.2.1 4)) (C := RX0) (T := TX0) (N := 5) hx hb hts i_X0 hown hK hP 4 rfl rfl 4 (by decide) f_192 (fun _ h9 => h9) rfl dX4_least_14 ?_
    refine lv_goto (tgt := 22) hx hb dX4_least_17 (by decide) ?_
    exact W.iret hx hb hr (fun t ht _ => ⟨_, rfl, h, ht⟩) (fun q hq => by cases hq) dX4_least_22
