set_option maxHeartbeats 4000000 in
set_option maxRecDepth 100000 in
theorem c_X5_about (l : Launch) (dC : Nat → ClassId) (dI : Nat → Nat → Nat) (m0 m1 m2 m3 m4 m5 m6 m7 m8 m9 : Nat) (cI cZ : ClassId) (sz : Nat) {u : St} {x1 : Int32} {x2 : Int32} {x3 : Int32} {post : Int32 → St → Prop} (h : P_X5_about u x1 x2 x3 post) : Met l yX5_about wsX5_about ({ frames := 6, cells := 0, slots := 0, locals := 151 } : Room) (MPre (dC, dI) vwCl (wM m0 m1 m2 m3 m4 m5 m6 m7 m8 m9 cI cZ u) [(cI, .int), (cZ, .boolean)] sz [.ref m0, .int x1, .int x2, .int x3]) (va_Qi post (fun (u2 : St) (t : State) => va_P (dC, dI) vwCl (wM m0 m1 m2 m3 m4 m5 m6 m7 m8 m9 cI cZ u2) t.heap) (va_A (wM m0 m1 m2 m3 m4 m5 m6 m7 m8 m9 cI cZ u) sz)) 0 0 (va_A (wM m0 m1 m2 m3 m4 m5 m6 m7 m8 m9 cI cZ u) sz) := by
  refine Met.ofW (cc := cX5_about) (maxL := 4) (ret := (some .int)) (by decide) rfl ?_
  intro p e s m args below meth c s₁ B hml hv
  obtain ⟨rfl, hsz, hP, hK, hD0⟩ := hv
  have hx := B.exec
  have hb := B.bytes
  have hr := B.returns
  have hts := atoms_spec (ws := wsX5_about) B.pre
  have hown : s.vm.findClass RX5 = some m.cls := findClass_of_methodNamed B.named
  have hlocks := B.notSynchronized
  subst hsz
  have hD1 := hD0.self (sz := s.heap.size)
  generalize hAe : va_A (wM m0 m1 m2 m3 m4 m5 m6 m7 m8 m9 cI cZ u) s.heap.size = A at hD1 ⊢
  have hA : ∀ q : Nat, s.heap.size ≤ q → A q := fun q h => by rw [← hAe]; exact Or.inr h
  have hD : ∀ z, va_D A (wM m0 m1 m2 m3 m4 m5 m6 m7 m8 m9 cI cZ z) := fun z => va_Dsame hD1 rfl
  have hS : va_S A s.heap s.heap [] := va_S.rf
  have hl := lv_entry ([.ref m0, .int x1, .int x2, .int x3]) (n := 4) (Nat.le_of_ble_eq_true rfl)
  rw [lg_entry_eq]
  generalize (lg_sl ([.ref m0, .int x1, .int x2, .int x3]) ++ List.replicate (4 - (lg_sl ([.ref m0, .int x1, .int x2, .int x3])).length) Slot.unset).toArray = ls at hl ⊢
  have hl : lv_has ls 4 [(0, .ref m0), (1, .int x1), (2, .int x2), (3, .int x3)] := hl
  have i_X5 : ∀ w ∈ u_ws RX5 TX5 17, w ∈ wsX5_about := by decide +kernel
  have f_93 := hts (.fieldLink RX5 93 "SliceBodyModel" "cubeMany" "I") (by decide +kernel)
  have f_99 := hts (.fieldLink RX5 99 "SliceBodyModel" "partMany" "I") (by decide +kernel)
  unfold P_X5_about at h
  refine lv_aload_n hx hb dX5_about_0 rfl (lv_at hl 0 rfl) ?_
  refine lv_iload_n hx hb dX5_about_1 rfl (lv_at hl 1 rfl) ?_
  refine lv_iload_n hx hb dX5_about_2 rfl (lv_at hl 2 rfl) ?_
  refine vp_callSi (W.runV (As := [.int _, .int _]) (rest := []) ⟨hx, hb, hml, hown, hts⟩ (c_X5_isRib l dC dI m0 m1 m2 m3 m4 m5 m6 m7 m8 m9 cI cZ h) (cwV 2 hts gX5_about_X5_isRib rfl rfl rfl (by decide +kernel) ⟨Nat.le_of_ble_eq_true rfl, Nat.le_of_ble_eq_true rfl⟩) ⟨fbR, va_recv hK hP (ci := 3) (q0 := 0) rfl rfl, fun U hU hW => ⟨rfl, by rw [hU]; exact hP, va_K.moved hW.alike hK⟩⟩ rfl rfl hl.1 rfl (lv_room (Nat.le_of_ble_eq_true rfl)) dX5_about_3 ⟨Nat.zero_le _, Nat.zero_le _⟩) (fun r_1 h => ?_)
  refine lv_if_ne (tgt := 11) hx hb dX5_about_6 (by decide) (fun c_6 => ?_) (fun c_6 => ?_)
  · have h := br2 h c_6
    refine lv_iload_n hx hb dX5_about_11 rfl (lv_at hl 3 rfl) ?_
    rcases Decidable.em (x3 = 0) with c_12_0 | c_12_0
    · have h := br1 h c_12_0
      refine lv_tableIn (off := 52) (tgt := 64) hx hb dX5_about_12 (by rw [c_12_0]; decide) (by rw [c_12_0]; decide) (by rw [c_12_0]; rfl) (by decide) ?_
      refine lv_aload_n hx hb dX5_about_64 rfl (lv_at hl 0 rfl) ?_
      refine lv_iload_n hx hb dX5_about_65 rfl (lv_at hl 1 rfl) ?_
      refine lv_iload_n hx hb dX5_about_66 rfl (lv_at hl 2 rfl) ?_
      refine lv_iconst (v := 0) hx hb dX5_about_67 (by decide) ?_
      have hFc := fr_all (ws := wM m0 m1 m2 m3 m4 m5 m6 m7 m8 m9 cI cZ u) (hD u) hS hA
      refine va_callv (va_runV (As := [.int _, .int _, .int _]) (rest := []) ⟨hx, hb, hml, hown, hts⟩ (c_X5_findParts l dC dI m0 m1 m2 m3 m4 m5 m6 m7 m8 m9 cI cZ (s.heap).size h) (cwV 3 hts gX5_about_X5_findParts rfl rfl rfl (by decide +kernel) ⟨Nat.le_of_ble_eq_true rfl, Nat.le_of_ble_eq_true rfl⟩) ⟨fbM, va_recv hK hP (ci := 3) (q0 := 0) rfl rfl, fun U hU hW => ⟨rfl, by rw [hU], by rw [hU]; exact hP, va_K.moved hW.alike hK, (hD u).weaken (fun _ _ _ _ => trivial)⟩⟩ rfl rfl hl.1 rfl (lv_room (Nat.le_of_ble_eq_true rfl)) dX5_about_68 ⟨Nat.zero_le _, Nat.zero_le _⟩) hS (fun q _ h => hFc q h) hFc (fun u_3 t H locs ht _ h hP1 _ hk1 hS => ?_)
      have hP : va_P (dC, dI) vwCl (wM m0 m1 m2 m3 m4 m5 m6 m7 m8 m9 cI cZ u_3) H := by rw [← ht]; exact hP1
      refine lv_aload_n hx hb dX5_about_71 rfl (lv_at hl 0 rfl) ?_
      refine va_get (D := (dC, dI)) (ci := 3) (v := .int (u_3.1 10)) (C := RX5) (T := TX5) (N := 17) hx hb hts i_X5 hown hK hP 0 rfl rfl 10 (by decide) f_93 (fun _ h9 => h9) rfl dX5_about_72 ?_
      exact W.iret hx hb hr (fun t ht _ => ⟨⟨_, u_3, rfl, h, hPr ht hP⟩, hS.F ht⟩) hS.2.2 dX5_about_75
    · have h := br2 h c_12_0
      rcases Decidable.em (x3 = 1) with c_12_1 | c_12_1
      · have h := br1 h c_12_1
        refine lv_tableIn (off := 64) (tgt := 76) hx hb dX5_about_12 (by rw [c_12_1]; decide) (by rw [c_12_1]; decide) (by rw [c_12_1]; rfl) (by decide) ?_
        refine lv_aload_n hx hb dX5_about_76 rfl (lv_at hl 0 rfl) ?_
        refine lv_iload_n hx hb dX5_about_77 rfl (lv_at hl 1 rfl) ?_
        refine lv_iload_n hx hb dX5_about_78 rfl (lv_at hl 2 rfl) ?_
        refine lv_iconst (v := 1) hx hb dX5_about_79 (by decide) ?_
        have hFc := fr_all (ws := wM m0 m1 m2 m3 m4 m5 m6 m7 m8 m9 cI cZ u) (hD u) hS hA
        refine va_callv (va_runV (As := [.int _, .int _, .int _]) (rest := []) ⟨hx, hb, hml, hown, hts⟩ (c_X5_findParts l dC dI m0 m1 m2 m3 m4 m5 m6 m7 m8 m9 cI cZ (s.heap).size h) (cwV 3 hts gX5_about_X5_findParts rfl rfl rfl (by decide +kernel) ⟨Nat.le_of_ble_eq_true rfl, Nat.le_of_ble_eq_true rfl⟩) ⟨fbM, va_recv hK hP (ci := 3) (q0 := 0) rfl rfl, fun U hU hW => ⟨rfl, by rw [hU], by rw [hU]; exact hP, va_K.moved hW.alike hK, (hD u).weaken (fun _ _ _ _ => trivial)⟩⟩ rfl rfl hl.1 rfl (lv_room (Nat.le_of_ble_eq_true rfl)) dX5_about_80 ⟨Nat.zero_le _, Nat.zero_le _⟩) hS (fun q _ h => hFc q h) hFc (fun u_5 t H locs ht _ h hP1 _ hk1 hS => ?_)
        have hP : va_P (dC, dI) vwCl (wM m0 m1 m2 m3 m4 m5 m6 m7 m8 m9 cI cZ u_5) H := by rw [← ht]; exact hP1
        refine lv_aload_n hx hb dX5_about_83 rfl (lv_at hl 0 rfl) ?_
        refine va_get (D := (dC, dI)) (ci := 3) (v := .int (u_5.1 10)) (C := RX5) (T := TX5) (N := 17) hx hb hts i_X5 hown hK hP 0 rfl rfl 10 (by decide) f_93 (fun _ h9 => h9) rfl dX5_about_84 ?_
        exact W.iret hx hb hr (fun t ht _ => ⟨⟨_, u_5, rfl, h, hPr ht hP⟩, hS.F ht⟩) hS.2.2 dX5_about_87
      · have h := br2 h c_12_1
        rcases Decidable.em (x3 = 2) with c_12_2 | c_12_2
        · have h := br1 h c_12_2
          refine lv_tableIn (off := 76) (tgt := 88) hx hb dX5_about_12 (by rw [c_12_2]; decide) (by rw [c_12_2]; decide) (by rw [c_12_2]; rfl) (by decide) ?_
          refine lv_aload_n hx hb dX5_about_88 rfl (lv_at hl 0 rfl) ?_
          refine lv_iload_n hx hb dX5_about_89 rfl (lv_at hl 1 rfl) ?_
          refine lv_iload_n hx hb dX5_about_90 rfl (lv_at hl 2 rfl) ?_
          refine lv_iconst (v := 0) hx hb dX5_about_91 (by decide) ?_
          have hFc := fr_all (ws := wM m0 m1 m2 m3 m4 m5 m6 m7 m8 m9 cI cZ u) (hD u) hS hA
          refine va_callv (va_runV (As := [.int _, .int _, .int _]) (rest := []) ⟨hx, hb, hml, hown, hts⟩ (c_X5_findParts l dC dI m0 m1 m2 m3 m4 m5 m6 m7 m8 m9 cI cZ (s.heap).size h) (cwV 3 hts gX5_about_X5_findParts rfl rfl rfl (by decide +kernel) ⟨Nat.le_of_ble_eq_true rfl, Nat.le_of_ble_eq_true rfl⟩) ⟨fbM, va_recv hK hP (ci := 3) (q0 := 0) rfl rfl, fun U hU hW => ⟨rfl, by rw [hU], by rw [hU]; exact hP, va_K.moved hW.alike hK, (hD u).weaken (fun _ _ _ _ => trivial)⟩⟩ rfl rfl hl.1 rfl (lv_room (Nat.le_of_ble_eq_true rfl)) dX5_about_92 ⟨Nat.zero_le _, Nat.zero_le _⟩) hS (fun q _ h => hFc q h) hFc (fun u_7 t H locs ht _ h hP1 _ hk1 hS => ?_)
          have hP : va_P (dC, dI) vwCl (wM m0 m1 m2 m3 m4 m5 m6 m7 m8 m9 cI cZ u_7) H := by rw [← ht]; exact hP1
          refine lv_aload_n hx hb dX5_about_95 rfl (lv_at hl 0 rfl) ?_
          refine va_get (D := (dC, dI)) (ci := 3) (v := .int (u_7.1 9)) (C := RX5) (T := TX5) (N := 17) hx hb hts i_X5 hown hK hP 0 rfl rfl 9 (by decide) f_99 (fun _ h9 => h9) rfl dX5_about_96 ?_
          exact W.iret hx hb hr (fun t ht _ => ⟨⟨_, u_7, rfl, h, hPr ht hP⟩, hS.F ht⟩) hS.2.2 dX5_about_99
        · have h := br2 h c_12_2
          rcases Decidable.em (x3 = 3) with c_12_3 | c_12_3
          · have h := br1 h c_12_3
            refine lv_tableIn (off := 88) (tgt := 100) hx hb dX5_about_12 (by rw [c_12_3]; decide) (by rw [c_12_3]; decide) (by rw [c_12_3]; rfl) (by decide) ?_
            refine lv_aload_n hx hb dX5_about_100 rfl (lv_at hl 0 rfl) ?_
            refine lv_iload_n hx hb dX5_about_101 rfl (lv_at hl 1 rfl) ?_
            refine lv_iload_n hx hb dX5_about_102 rfl (lv_at hl 2 rfl) ?_
            refine lv_iconst (v := 1) hx hb dX5_about_103 (by decide) ?_
            have hFc := fr_all (ws := wM m0 m1 m2 m3 m4 m5 m6 m7 m8 m9 cI cZ u) (hD u) hS hA
            refine va_callv (va_runV (As := [.int _, .int _, .int _]) (rest := []) ⟨hx, hb, hml, hown, hts⟩ (c_X5_findParts l dC dI m0 m1 m2 m3 m4 m5 m6 m7 m8 m9 cI cZ (s.heap).size h) (cwV 3 hts gX5_about_X5_findParts rfl rfl rfl (by decide +kernel) ⟨Nat.le_of_ble_eq_true rfl, Nat.le_of_ble_eq_true rfl⟩) ⟨fbM, va_recv hK hP (ci := 3) (q0 := 0) rfl rfl, fun U hU hW => ⟨rfl, by rw [hU], by rw [hU]; exact hP, va_K.moved hW.alike hK, (hD u).weaken (fun _ _ _ _ => trivial)⟩⟩ rfl rfl hl.1 rfl (lv_room (Nat.le_of_ble_eq_true rfl)) dX5_about_104 ⟨Nat.zero_le _, Nat.zero_le _⟩) hS (fun q _ h => hFc q h) hFc (fun u_9 t H locs ht _ h hP1 _ hk1 hS => ?_)
            have hP : va_P (dC, dI) vwCl (wM m0 m1 m2 m3 m4 m5 m6 m7 m8 m9 cI cZ u_9) H := by rw [← ht]; exact hP1
            refine lv_aload_n hx hb dX5_about_107 rfl (lv_at hl 0 rfl) ?_
            refine va_get (D := (dC, dI)) (ci := 3) (v := .int (u_9.1 9)) (C := RX5) (T := TX5) (N := 17) hx hb hts i_X5 hown hK hP 0 rfl rfl 9 (by decide) f_99 (fun _ h9 => h9) rfl dX5_about_108 ?_
            exact W.iret hx hb hr (fun t ht _ => ⟨⟨_, u_9, rfl, h, hPr ht hP⟩, hS.F ht⟩) hS.2.2 dX5_about_111
          · have h := br2 h c_12_3
            rcases Decidable.em (x3 = 4) with c_12_4 | c_12_4
            · have h := br1 h c_12_4
              refine lv_tableIn (off := 100) (tgt := 112) hx hb dX5_about_12 (by rw [c_12_4]; decide) (by rw [c_12_4]; decide) (by rw [c_12_4]; rfl) (by decide) ?_
              refine lv_aload_n hx hb dX5_about_112 rfl (lv_at hl 0 rfl) ?_
              refine lv_iload_n hx hb dX5_about_113 rfl (lv_at hl 1 rfl) ?_
              refine lv_iload_n hx hb dX5_about_114 rfl (lv_at hl 2 rfl) ?_
              have hFc := fr_all (ws := wM m0 m1 m2 m3 m4 m5 m6 m7 m8 m9 cI cZ u) (hD u) hS hA
              refine va_calli (va_runV (As := [.int _, .int _]) (rest := []) ⟨hx, hb, hml, hown, hts⟩ (c_X5_looseOf l dC dI m0 m1 m2 m3 m4 m5 m6 m7 m8 m9 cI cZ (s.heap).size h) (cwV 2 hts gX5_about_X5_looseOf rfl rfl rfl (by decide +kernel) ⟨Nat.le_of_ble_eq_true rfl, Nat.le_of_ble_eq_true rfl⟩) ⟨fbM, va_recv hK hP (ci := 3) (q0 := 0) rfl rfl, fun U hU hW => ⟨rfl, by rw [hU], by rw [hU]; exact hP, va_K.moved hW.alike hK, (hD u).weaken (fun _ _ _ _ => trivial)⟩⟩ rfl rfl hl.1 rfl (lv_room (Nat.le_of_ble_eq_true rfl)) dX5_about_115 ⟨Nat.zero_le _, Nat.zero_le _⟩) hS (fun q _ h => hFc q h) hFc (fun r_10 u_11 t H locs ht _ h hP1 _ hk1 hS => ?_)
              have hP : va_P (dC, dI) vwCl (wM m0 m1 m2 m3 m4 m5 m6 m7 m8 m9 cI cZ u_11) H := by rw [← ht]; exact hP1
              exact W.iret hx hb hr (fun t ht _ => ⟨⟨_, u_11, rfl, h, hPr ht hP⟩, hS.F ht⟩) hS.2.2 dX5_about_118
            · have h := br2 h c_12_4
              rcases Decidable.em (x3 = 5) with c_12_5 | c_12_5
              · have h := br1 h c_12_5
                refine lv_tableIn (off := 107) (tgt := 119) hx hb dX5_about_12 (by rw [c_12_5]; decide) (by rw [c_12_5]; decide) (by rw [c_12_5]; rfl) (by decide) ?_
                refine lv_aload_n hx hb dX5_about_119 rfl (lv_at hl 0 rfl) ?_
                refine lv_iload_n hx hb dX5_about_120 rfl (lv_at hl 1 rfl) ?_
                refine lv_iload_n hx hb dX5_about_121 rfl (lv_at hl 2 rfl) ?_
                refine lv_iconst (v := 0) hx hb dX5_about_122 (by decide) ?_
                have hFc := fr_all (ws := wM m0 m1 m2 m3 m4 m5 m6 m7 m8 m9 cI cZ u) (hD u) hS hA
                refine va_calli (va_runV (As := [.int _, .int _, .int _]) (rest := []) ⟨hx, hb, hml, hown, hts⟩ (c_X5_crossings l dC dI m0 m1 m2 m3 m4 m5 m6 m7 m8 m9 cI cZ (s.heap).size h) (cwV 3 hts gX5_about_X5_crossings rfl rfl rfl (by decide +kernel) ⟨Nat.le_of_ble_eq_true rfl, Nat.le_of_ble_eq_true rfl⟩) ⟨fbM, va_recv hK hP (ci := 3) (q0 := 0) rfl rfl, fun U hU hW => ⟨rfl, by rw [hU], by rw [hU]; exact hP, va_K.moved hW.alike hK, (hD u).weaken (fun _ _ _ _ => trivial)⟩⟩ rfl rfl hl.1 rfl (lv_room (Nat.le_of_ble_eq_true rfl)) dX5_about_123 ⟨Nat.zero_le _, Nat.zero_le _⟩) hS (fun q _ h => hFc q h) hFc (fun r_12 u_13 t H locs ht _ h hP1 _ hk1 hS => ?_)
                have hP : va_P (dC, dI) vwCl (wM m0 m1 m2 m3 m4 m5 m6 m7 m8 m9 cI cZ u_13) H := by rw [← ht]; exact hP1
                exact W.iret hx hb hr (fun t ht _ => ⟨⟨_, u_13, rfl, h, hPr ht hP⟩, hS.F ht⟩) hS.2.2 dX5_about_126
              · have h := br2 h c_12_5
                rcases Decidable.em (x3 = 6) with c_12_6 | c_12_6
                · have h := br1 h c_12_6
                  refine lv_tableIn (off := 115) (tgt := 127) hx hb dX5_about_12 (by rw [c_12_6]; decide) (by rw [c_12_6]; decide) (by rw [c_12_6]; rfl) (by decide) ?_
                  refine lv_aload_n hx hb dX5_about_127 rfl (lv_at hl 0 rfl) ?_
                  refine lv_iload_n hx hb dX5_about_128 rfl (lv_at hl 1 rfl) ?_
                  refine lv_iload_n hx hb dX5_about_129 rfl (lv_at hl 2 rfl) ?_
                  refine lv_iconst (v := 1) hx hb dX5_about_130 (by decide) ?_
                  have hFc := fr_all (ws := wM m0 m1 m2 m3 m4 m5 m6 m7 m8 m9 cI cZ u) (hD u) hS hA
                  refine va_calli (va_runV (As := [.int _, .int _, .int _]) (rest := []) ⟨hx, hb, hml, hown, hts⟩ (c_X5_crossings l dC dI m0 m1 m2 m3 m4 m5 m6 m7 m8 m9 cI cZ (s.heap).size h) (cwV 3 hts gX5_about_X5_crossings rfl rfl rfl (by decide +kernel) ⟨Nat.le_of_ble_eq_true rfl, Nat.le_of_ble_eq_true rfl⟩) ⟨fbM, va_recv hK hP (ci := 3) (q0 := 0) rfl rfl, fun U hU hW => ⟨rfl, by rw [hU], by rw [hU]; exact hP, va_K.moved hW.alike hK, (hD u).weaken (fun _ _ _ _ => trivial)⟩⟩ rfl rfl hl.1 rfl (lv_room (Nat.le_of_ble_eq_true rfl)) dX5_about_131 ⟨Nat.zero_le _, Nat.zero_le _⟩) hS (fun q _ h => hFc q h) hFc (fun r_14 u_15 t H locs ht _ h hP1 _ hk1 hS => ?_)
                  have hP : va_P (dC, dI) vwCl (wM m0 m1 m2 m3 m4 m5 m6 m7 m8 m9 cI cZ u_15) H := by rw [← ht]; exact hP1
                  exact W.iret hx hb hr (fun t ht _ => ⟨⟨_, u_15, rfl, h, hPr ht hP⟩, hS.F ht⟩) hS.2.2 dX5_about_134
                · have h := br2 h c_12_6
                  rcases Decidable.em (x3 = 7) with c_12_7 | c_12_7
                  · have h := br1 h c_12_7
                    refine lv_tableIn (off := 123) (tgt := 135) hx hb dX5_about_12 (by rw [c_12_7]; decide) (by rw [c_12_7]; decide) (by rw [c_12_7]; rfl) (by decide) ?_
                    refine lv_aload_n hx hb dX5_about_135 rfl (lv_at hl 0 rfl) ?_
                    refine lv_iload_n hx hb dX5_about_136 rfl (lv_at hl 1 rfl) ?_
                    refine lv_iload_n hx hb dX5_about_137 rfl (lv_at hl 2 rfl) ?_
                    refine lv_iconst (v := 0) hx hb dX5_about_138 (by decide) ?_
                    refine vp_callSi (W.runV (As := [.int _, .int _, .int _]) (rest := []) ⟨hx, hb, hml, hown, hts⟩ (c_X5_spanOf l dC dI m0 m1 m2 m3 m4 m5 m6 m7 m8 m9 cI cZ h) (cwV 3 hts gX5_about_X5_spanOf rfl rfl rfl (by decide +kernel) ⟨Nat.le_of_ble_eq_true rfl, Nat.le_of_ble_eq_true rfl⟩) ⟨fbR, va_recv hK hP (ci := 3) (q0 := 0) rfl rfl, fun U hU hW => ⟨rfl, by rw [hU]; exact hP, va_K.moved hW.alike hK⟩⟩ rfl rfl hl.1 rfl (lv_room (Nat.le_of_ble_eq_true rfl)) dX5_about_139 ⟨Nat.zero_le _, Nat.zero_le _⟩) (fun r_16 h => ?_)
                    exact W.iret hx hb hr (fun t ht _ => ⟨⟨_, u, rfl, h, hPr ht hP⟩, hS.F ht⟩) hS.2.2 dX5_about_142
                  · have h := br2 h c_12_7
                    rcases Decidable.em (x3 = 8) with c_12_8 | c_12_8
                    · have h := br1 h c_12_8
                      refine lv_tableIn (off := 131) (tgt := 143) hx hb dX5_about_12 (by rw [c_12_8]; decide) (by rw [c_12_8]; decide) (by rw [c_12_8]; rfl) (by decide) ?_
                      refine lv_aload_n hx hb dX5_about_143 rfl (lv_at hl 0 rfl) ?_
                      refine lv_iload_n hx hb dX5_about_144 rfl (lv_at hl 1 rfl) ?_
                      refine lv_iload_n hx hb dX5_about_145 rfl (lv_at hl 2 rfl) ?_
                      refine lv_iconst (v := 1) hx hb dX5_about_146 (by decide) ?_
                      refine vp_callSi (W.runV (As := [.int _, .int _, .int _]) (rest := []) ⟨hx, hb, hml, hown, hts⟩ (c_X5_spanOf l dC dI m0 m1 m2 m3 m4 m5 m6 m7 m8 m9 cI cZ h) (cwV 3 hts gX5_about_X5_spanOf rfl rfl rfl (by decide +kernel) ⟨Nat.le_of_ble_eq_true rfl, Nat.le_of_ble_eq_true rfl⟩) ⟨fbR, va_recv hK hP (ci := 3) (q0 := 0) rfl rfl, fun U hU hW => ⟨rfl, by rw [hU]; exact hP, va_K.moved hW.alike hK⟩⟩ rfl rfl hl.1 rfl (lv_room (Nat.le_of_ble_eq_true rfl)) dX5_about_147 ⟨Nat.zero_le _, Nat.zero_le _⟩) (fun r_17 h => ?_)
                      exact W.iret hx hb hr (fun t ht _ => ⟨⟨_, u, rfl, h, hPr ht hP⟩, hS.F ht⟩) hS.2.2 dX5_about_150
                    · have h := br2 h c_12_8
                      refine lv_tableOut (tgt := 151) hx hb dX5_about_12 (by
                        have t_0 : x3.toInt ≠ 0 := fun q => c_12_0 (Int32.toInt_inj.mp (q.trans (by decide)))
                        have t_1 : x3.toInt ≠ 1 := fun q => c_12_1 (Int32.toInt_inj.mp (q.trans (by decide)))
                        have t_2 : x3.toInt ≠ 2 := fun q => c_12_2 (Int32.toInt_inj.mp (q.trans (by decide)))
                        have t_3 : x3.toInt ≠ 3 := fun q => c_12_3 (Int32.toInt_inj.mp (q.trans (by decide)))
                        have t_4 : x3.toInt ≠ 4 := fun q => c_12_4 (Int32.toInt_inj.mp (q.trans (by decide)))
                        have t_5 : x3.toInt ≠ 5 := fun q => c_12_5 (Int32.toInt_inj.mp (q.trans (by decide)))
                        have t_6 : x3.toInt ≠ 6 := fun q => c_12_6 (Int32.toInt_inj.mp (q.trans (by decide)))
                        have t_7 : x3.toInt ≠ 7 := fun q => c_12_7 (Int32.toInt_inj.mp (q.trans (by decide)))
                        have t_8 : x3.toInt ≠ 8 := fun q => c_12_8 (Int32.toInt_inj.mp (q.trans (by decide)))
                        omega) (by decide) ?_
                      refine lv_bipush (v := (-2)) hx hb dX5_about_151 (by decide) ?_
                      exact W.iret hx hb hr (fun t ht _ => ⟨⟨_, u, rfl, h, hPr ht hP⟩, hS.F ht⟩) hS.2.2 dX5_about_153
  · have h := br1 h c_6
    refine lv_iconst (v := (-1)) hx hb dX5_about_9 (by decide) ?_
    exact W.iret hx hb hr (fun t ht _ => ⟨⟨_, u, rfl, h, hPr ht hP⟩, hS.F ht⟩) hS.2.2 dX5_about_10
set_option maxHeartbeats 4000000 in
set_option maxRecDepth 100000 in
theorem c_X5_caught (l : Launch) (dC : Nat → ClassId) (dI : Nat → Nat → Nat) (m0 m1 m2 m3 m4 m5 m6 m7 m8 m9 : Nat) (cI cZ : ClassId) (sz : Nat) {u : St} {x1 : Int32} {post : Int32 → St → Prop} (h : P_X5_caught u x1 post) : Met l yX5_caught wsX5_caught ({ frames := 2, cells := 0, slots := 0, locals := 47 } : Room) (MPre (dC, dI) vwCl (wM m0 m1 m2 m3 m4 m5 m6 m7 m8 m9 cI cZ u) [(cI, .int), (cZ, .boolean)] sz [.ref m0, .int x1]) (va_Qi post (fun (u2 : St) (t : State) => va_P (dC, dI) vwCl (wM m0 m1 m2 m3 m4 m5 m6 m7 m8 m9 cI cZ u2) t.heap) (va_A (wM m0 m1 m2 m3 m4 m5 m6 m7 m8 m9 cI cZ u) sz)) 0 0 (va_A (wM m0 m1 m2 m3 m4 m5 m6 m7 m8 m9 cI cZ u) sz) := by
  refine Met.ofW (cc := cX5_caught) (maxL := 5) (ret := (some .int)) (by decide) rfl ?_
  intro p e s m args below meth c s₁ B hml hv
  obtain ⟨rfl, hsz, hP, hK, hD0⟩ := hv
  have hx := B.exec
  have hb := B.bytes
  have hr := B.returns
  have hts := atoms_spec (ws := wsX5_caught) B.pre
  have hown : s.vm.findClass RX5 = some m.cls := findClass_of_methodNamed B.named
  have hlocks := B.notSynchronized
  subst hsz
  have hD1 := hD0.self (sz := s.heap.size)
  generalize hAe : va_A (wM m0 m1 m2 m3 m4 m5 m6 m7 m8 m9 cI cZ u) s.heap.size = A at hD1 ⊢
  have hA : ∀ q : Nat, s.heap.size ≤ q → A q := fun q h => by rw [← hAe]; exact Or.inr h
  have hD : ∀ z, va_D A (wM m0 m1 m2 m3 m4 m5 m6 m7 m8 m9 cI cZ z) := fun z => va_Dsame hD1 rfl
  have hS : va_S A s.heap s.heap [] := va_S.rf
  have hl := lv_entry ([.ref m0, .int x1]) (n := 5) (Nat.le_of_ble_eq_true rfl)
  rw [lg_entry_eq]
  generalize (lg_sl ([.ref m0, .int x1]) ++ List.replicate (5 - (lg_sl ([.ref m0, .int x1])).length) Slot.unset).toArray = ls at hl ⊢
  have hl : lv_has ls 5 [(0, .ref m0), (1, .int x1)] := hl
  have i_X5 : ∀ w ∈ u_ws RX5 TX5 17, w ∈ wsX5_caught := by decide +kernel
  have f_7 := hts (.fieldLink RX5 7 "SliceBodyModel" "wideX" "I") (by decide +kernel)
  have f_13 := hts (.fieldLink RX5 13 "SliceBodyModel" "wideY" "I") (by decide +kernel)
  unfold P_X5_caught at h
  refine lv_iconst (v := 0) hx hb dX5_caught_0 (by decide) ?_
  refine lv_istore_n (lv' := [(2, .int (0 : Int32)), (0, .ref m0), (1, .int x1)]) hx hb dX5_caught_1 rfl hl (by decide) rfl (fun ls hl => ?_)
  refine lv_iconst (v := 0) hx hb dX5_caught_2 (by decide) ?_
  refine lv_istore_n (lv' := [(3, .int (0 : Int32)), (2, .int (0 : Int32)), (0, .ref m0), (1, .int x1)]) hx hb dX5_caught_3 rfl hl (by decide) rfl (fun ls hl => ?_)
  obtain ⟨K_4, hKi_4, h⟩ := jnE2 h
  have hK_4 : ∀ (v2_18 : Int32) (u_19 : St), K_4 v2_18 u_19 → ∀ (H : Heap) (locs : List Loc), va_P (dC, dI) vwCl (wM m0 m1 m2 m3 m4 m5 m6 m7 m8 m9 cI cZ u_19) H → va_S A s.heap H locs → ∀ (ls : Array Slot), lv_has ls 5 [(1, .int x1), (2, .int v2_18)] → W p l e (headSpec wsX5_caught ({ frames := 2, cells := 0, slots := 0, locals := 47 } : Room)).room s m ([.ref m0, .int x1] : List Value).toArray below meth c H locs 0 0 (MQ below (va_Qi post (fun (u2 : St) (t : State) => va_P (dC, dI) vwCl (wM m0 m1 m2 m3 m4 m5 m6 m7 m8 m9 cI cZ u2) t.heap) A) ([.ref m0, .int x1] : List Value).toArray s 0 0 A) (F0 m 82 ls []) := by
    intro v2_18 u_19 h H locs hP hS ls hl
    have h := hKi_4 _ _ h
    refine lv_iload_n hx hb dX5_caught_82 rfl (lv_at hl 0 rfl) ?_
    refine lv_iconst (v := (-1)) hx hb dX5_caught_83 (by decide) ?_
    refine lv_icmp_ne (tgt := 91) hx hb dX5_caught_84 (by decide) (fun c_84 => ?_) (fun c_84 => ?_)
    · have h := br2 h c_84
      refine lv_bipush (v := (-6)) hx hb dX5_caught_91 (by decide) ?_
      exact W.iret hx hb hr (fun t ht _ => ⟨⟨_, u_19, rfl, h, hPr ht hP⟩, hS.F ht⟩) hS.2.2 dX5_caught_93
    · have h := br1 h c_84
      refine lv_iload_n hx hb dX5_caught_87 rfl (lv_at hl 1 rfl) ?_
      refine lv_goto (tgt := 93) hx hb dX5_caught_88 (by decide) ?_
      exact W.iret hx hb hr (fun t ht _ => ⟨⟨_, u_19, rfl, h, hPr ht hP⟩, hS.F ht⟩) hS.2.2 dX5_caught_93
  obtain ⟨n, h⟩ := h
  have loop_4 : ∀ (n : Nat) (v2_1 : Int32) (v3_2 : Int32) (u_3 : St), L_X5_caught_4 post K_4 x1 n v2_1 v3_2 u_3 → ∀ (H : Heap) (locs : List Loc), va_P (dC, dI) vwCl (wM m0 m1 m2 m3 m4 m5 m6 m7 m8 m9 cI cZ u_3) H → va_S A s.heap H locs → ∀ (ls : Array Slot), lv_has ls 5 [(0, .ref m0), (1, .int x1), (2, .int v2_1), (3, .int v3_2)] → W p l e (headSpec wsX5_caught ({ frames := 2, cells := 0, slots := 0, locals := 47 } : Room)).room s m ([.ref m0, .int x1] : List Value).toArray below meth c H locs 0 0 (MQ below (va_Qi post (fun (u2 : St) (t : State) => va_P (dC, dI) vwCl (wM m0 m1 m2 m3 m4 m5 m6 m7 m8 m9 cI cZ u2) t.heap) A) ([.ref m0, .int x1] : List Value).toArray s 0 0 A) (F0 m 4 ls []) := by
    intro n
    induction n with
    | zero => intro v2_1 v3_2 u_3 h; rw [L_X5_caught_4] at h; exact h.elim
    | succ n ih_4 =>
      intro v2_1 v3_2 u_3 h H locs hP hS ls hl
      rw [L_X5_caught_4] at h
      refine lv_iload_n hx hb dX5_caught_4 rfl (lv_at hl 3 rfl) ?_
      refine lv_aload_n hx hb dX5_caught_5 rfl (lv_at hl 0 rfl) ?_
      refine va_get (D := (dC, dI)) (ci := 3) (v := .int (u_3.1 0)) (C := RX5) (T := TX5) (N := 17) hx hb hts i_X5 hown hK hP 0 rfl rfl 0 (by decide) f_7 (fun _ h9 => h9) rfl dX5_caught_6 ?_
      refine lv_icmp_ge (tgt := 82) hx hb dX5_caught_9 (by decide) (fun c_9 => ?_) (fun c_9 => ?_)
      · have h := br1 h c_9
        exact hK_4 _ _ h _ _ hP hS _ (lv_sub hl [1, 2] rfl)
      · have h := br2 h c_9
        refine lv_iconst (v := 0) hx hb dX5_caught_12 (by decide) ?_
        refine lv_istore (lv' := [(4, .int (0 : Int32)), (0, .ref m0), (1, .int x1), (2, .int v2_1), (3, .int v3_2)]) hx hb dX5_caught_13 hl (by decide) rfl (fun ls hl => ?_)
        obtain ⟨K_15, hKi_15, h⟩ := jnE2 h
        have hK_15 : ∀ (v2_15 : Int32) (u_16 : St), K_15 v2_15 u_16 → ∀ (H : Heap) (locs : List Loc), va_P (dC, dI) vwCl (wM m0 m1 m2 m3 m4 m5 m6 m7 m8 m9 cI cZ u_16) H → va_S A s.heap H locs → ∀ (ls : Array Slot), lv_has ls 5 [(0, .ref m0), (1, .int x1), (2, .int v2_15), (3, .int v3_2)] → W p l e (headSpec wsX5_caught ({ frames := 2, cells := 0, slots := 0, locals := 47 } : Room)).room s m ([.ref m0, .int x1] : List Value).toArray below meth c H locs 0 0 (MQ below (va_Qi post (fun (u2 : St) (t : State) => va_P (dC, dI) vwCl (wM m0 m1 m2 m3 m4 m5 m6 m7 m8 m9 cI cZ u2) t.heap) A) ([.ref m0, .int x1] : List Value).toArray s 0 0 A) (F0 m 76 ls []) := by
          intro v2_15 u_16 h H locs hP hS ls hl
          have h := hKi_15 _ _ h
          obtain ⟨y_17, ey_17⟩ : ∃ z : Int32, z = v3_2 + (1 : Int32) := ⟨_, rfl⟩
          have h := h y_17 ey_17
          refine lv_iinc (v := y_17) (lv' := [(3, .int y_17), (0, .ref m0), (1, .int x1), (2, .int v2_15)]) hx hb dX5_caught_76 hl (k := 3) rfl (by rw [ey_17]; rfl) (by decide) rfl (fun ls hl => ?_)
          refine lv_goto (tgt := 4) hx hb dX5_caught_79 (by decide) ?_
          exact ih_4 _ _ _ h _ _ hP hS _ (lv_sub hl [1, 2, 3, 0] rfl)
        obtain ⟨n, h⟩ := h
        have loop_15 : ∀ (n : Nat) (v2_4 : Int32) (v4_5 : Int32) (u_6 : St), L_X5_caught_15 post K_15 x1 v3_2 n v2_4 v4_5 u_6 → ∀ (H : Heap) (locs : List Loc), va_P (dC, dI) vwCl (wM m0 m1 m2 m3 m4 m5 m6 m7 m8 m9 cI cZ u_6) H → va_S A s.heap H locs → ∀ (ls : Array Slot), lv_has ls 5 [(0, .ref m0), (1, .int x1), (2, .int v2_4), (3, .int v3_2), (4, .int v4_5)] → W p l e (headSpec wsX5_caught ({ frames := 2, cells := 0, slots := 0, locals := 47 } : Room)).room s m ([.ref m0, .int x1] : List Value).toArray below meth c H locs 0 0 (MQ below (va_Qi post (fun (u2 : St) (t : State) => va_P (dC, dI) vwCl (wM m0 m1 m2 m3 m4 m5 m6 m7 m8 m9 cI cZ u2) t.heap) A) ([.ref m0, .int x1] : List Value).toArray s 0 0 A) (F0 m 15 ls []) := by
          intro n
          induction n with
          | zero => intro v2_4 v4_5 u_6 h; rw [L_X5_caught_15] at h; exact h.elim
          | succ n ih_15 =>
            intro v2_4 v4_5 u_6 h H locs hP hS ls hl
            rw [L_X5_caught_15] at h
            refine lv_iload hx hb dX5_caught_15 (lv_at hl 4 rfl) ?_
            refine lv_aload_n hx hb dX5_caught_17 rfl (lv_at hl 0 rfl) ?_
            refine va_get (D := (dC, dI)) (ci := 3) (v := .int (u_6.1 1)) (C := RX5) (T := TX5) (N := 17) hx hb hts i_X5 hown hK hP 0 rfl rfl 1 (by decide) f_13 (fun _ h9 => h9) rfl dX5_caught_18 ?_
            refine lv_icmp_ge (tgt := 76) hx hb dX5_caught_21 (by decide) (fun c_21 => ?_) (fun c_21 => ?_)
            · have h := br1 h c_21
              exact hK_15 _ _ h _ _ hP hS _ (lv_sub hl [0, 1, 2, 3] rfl)
            · have h := br2 h c_21
              refine lv_aload_n hx hb dX5_caught_24 rfl (lv_at hl 0 rfl) ?_
              refine lv_iconst (v := 0) hx hb dX5_caught_25 (by decide) ?_
              refine lv_iload_n hx hb dX5_caught_26 rfl (lv_at hl 3 rfl) ?_
              refine vp_callSi (W.runV (As := [.int _, .int _]) (rest := []) ⟨hx, hb, hml, hown, hts⟩ (c_X5_isChosen l dC dI m0 m1 m2 m3 m4 m5 m6 m7 m8 m9 cI cZ h) (cwV 2 hts gX5_caught_X5_isChosen rfl rfl rfl (by decide +kernel) ⟨Nat.le_of_ble_eq_true rfl, Nat.le_of_ble_eq_true rfl⟩) ⟨fbR, va_recv hK hP (ci := 3) (q0 := 0) rfl rfl, fun U hU hW => ⟨rfl, by rw [hU]; exact hP, va_K.moved hW.alike hK⟩⟩ rfl rfl hl.1 rfl (lv_room (Nat.le_of_ble_eq_true rfl)) dX5_caught_27 ⟨Nat.zero_le _, Nat.zero_le _⟩) (fun r_7 h => ?_)
              obtain ⟨J_70, hJi_70, h⟩ := jnE2 h
              have hJ_70 : ∀ (v2_12 : Int32) (u_13 : St), J_70 v2_12 u_13 → ∀ (H : Heap) (locs : List Loc), va_P (dC, dI) vwCl (wM m0 m1 m2 m3 m4 m5 m6 m7 m8 m9 cI cZ u_13) H → va_S A s.heap H locs → ∀ (ls : Array Slot), lv_has ls 5 [(0, .ref m0), (1, .int x1), (2, .int v2_12), (3, .int v3_2), (4, .int v4_5)] → W p l e (headSpec wsX5_caught ({ frames := 2, cells := 0, slots := 0, locals := 47 } : Room)).room s m ([.ref m0, .int x1] : List Value).toArray below meth c H locs 0 0 (MQ below (va_Qi post (fun (u2 : St) (t : State) => va_P (dC, dI) vwCl (wM m0 m1 m2 m3 m4 m5 m6 m7 m8 m9 cI cZ u2) t.heap) A) ([.ref m0, .int x1] : List Value).toArray s 0 0 A) (F0 m 70 ls []) := by
                intro v2_12 u_13 h H locs hP hS ls hl
                have h := hJi_70 _ _ h
                obtain ⟨y_14, ey_14⟩ : ∃ z : Int32, z = v4_5 + (1 : Int32) := ⟨_, rfl⟩
                have h := h y_14 ey_14
                refine lv_iinc (v := y_14) (lv' := [(4, .int y_14), (0, .ref m0), (1, .int x1), (2, .int v2_12), (3, .int v3_2)]) hx hb dX5_caught_70 hl (k := 4) rfl (by rw [ey_14]; rfl) (by decide) rfl (fun ls hl => ?_)
                refine lv_goto (tgt := 15) hx hb dX5_caught_73 (by decide) ?_
                exact ih_15 _ _ _ h _ _ hP hS _ (lv_sub hl [1, 2, 3, 4, 0] rfl)
              refine lv_if_eq (tgt := 70) hx hb dX5_caught_30 (by decide) (fun c_30 => ?_) (fun c_30 => ?_)
              · have h := br1 h c_30
                exact hJ_70 _ _ h _ _ hP hS _ (lv_sub hl [0, 1, 2, 3, 4] rfl)
              · have h := br2 h c_30
                refine lv_aload_n hx hb dX5_caught_33 rfl (lv_at hl 0 rfl) ?_
                refine lv_iconst (v := 1) hx hb dX5_caught_34 (by decide) ?_
                refine lv_iload hx hb dX5_caught_35 (lv_at hl 4 rfl) ?_
                refine vp_callSi (W.runV (As := [.int _, .int _]) (rest := []) ⟨hx, hb, hml, hown, hts⟩ (c_X5_isChosen l dC dI m0 m1 m2 m3 m4 m5 m6 m7 m8 m9 cI cZ h) (cwV 2 hts gX5_caught_X5_isChosen rfl rfl rfl (by decide +kernel) ⟨Nat.le_of_ble_eq_true rfl, Nat.le_of_ble_eq_true rfl⟩) ⟨fbR, va_recv hK hP (ci := 3) (q0 := 0) rfl rfl, fun U hU hW => ⟨rfl, by rw [hU]; exact hP, va_K.moved hW.alike hK⟩⟩ rfl rfl hl.1 rfl (lv_room (Nat.le_of_ble_eq_true rfl)) dX5_caught_37 ⟨Nat.zero_le _, Nat.zero_le _⟩) (fun r_8 h => ?_)
                refine lv_if_eq (tgt := 70) hx hb dX5_caught_40 (by decide) (fun c_40 => ?_) (fun c_40 => ?_)
                · have h := br1 h c_40
                  exact hJ_70 _ _ h _ _ hP hS _ (lv_sub hl [0, 1, 2, 3, 4] rfl)
                · have h := br2 h c_40
                  refine lv_aload_n hx hb dX5_caught_43 rfl (lv_at hl 0 rfl) ?_
                  refine lv_iload_n hx hb dX5_caught_44 rfl (lv_at hl 3 rfl) ?_
                  refine lv_iload hx hb dX5_caught_45 (lv_at hl 4 rfl) ?_
                  have hFc := fr_all (ws := wM m0 m1 m2 m3 m4 m5 m6 m7 m8 m9 cI cZ u_6) (hD u_6) hS hA
                  refine va_calli (va_runV (As := [.int _, .int _]) (rest := []) ⟨hx, hb, hml, hown, hts⟩ (c_X5_findRuns l dC dI m0 m1 m2 m3 m4 m5 m6 m7 m8 m9 cI cZ (H).size h) (cwV 2 hts gX5_caught_X5_findRuns rfl rfl rfl (by decide +kernel) ⟨Nat.le_of_ble_eq_true rfl, Nat.le_of_ble_eq_true rfl⟩) ⟨fbM, va_recv hK hP (ci := 3) (q0 := 0) rfl rfl, fun U hU hW => ⟨rfl, by rw [hU], by rw [hU]; exact hP, va_K.moved hW.alike hK, (hD u_6).weaken (fun _ _ _ _ => trivial)⟩⟩ rfl rfl hl.1 rfl (lv_room (Nat.le_of_ble_eq_true rfl)) dX5_caught_47 ⟨Nat.zero_le _, Nat.zero_le _⟩) hS (fun q _ h => hFc q h) hFc (fun r_9 u_10 t H locs ht _ h hP1 _ hk1 hS => ?_)
                  have hP : va_P (dC, dI) vwCl (wM m0 m1 m2 m3 m4 m5 m6 m7 m8 m9 cI cZ u_10) H := by rw [← ht]; exact hP1
                  refine lv_iconst (v := 1) hx hb dX5_caught_50 (by decide) ?_
                  refine lv_icmp_le (tgt := 70) hx hb dX5_caught_51 (by decide) (fun c_51 => ?_) (fun c_51 => ?_)
                  · have h := br1 h c_51
                    exact hJ_70 _ _ h _ _ hP hS _ (lv_sub hl [0, 1, 2, 3, 4] rfl)
                  · have h := br2 h c_51
                    refine lv_iload_n hx hb dX5_caught_54 rfl (lv_at hl 2 rfl) ?_
                    refine lv_iload_n hx hb dX5_caught_55 rfl (lv_at hl 1 rfl) ?_
                    refine lv_icmp_ne (tgt := 67) hx hb dX5_caught_56 (by decide) (fun c_56 => ?_) (fun c_56 => ?_)
                    · have h := br2 h c_56
                      obtain ⟨y_11, ey_11⟩ : ∃ z : Int32, z = v2_4 + (1 : Int32) := ⟨_, rfl⟩
                      have h := h y_11 ey_11
                      refine lv_iinc (v := y_11) (lv' := [(2, .int y_11), (0, .ref m0), (1, .int x1), (3, .int v3_2), (4, .int v4_5)]) hx hb dX5_caught_67 hl (k := 2) rfl (by rw [ey_11]; rfl) (by decide) rfl (fun ls hl => ?_)
                      exact hJ_70 _ _ h _ _ hP hS _ (lv_sub hl [1, 2, 0, 3, 4] rfl)
                    · have h := br1 h c_56
                      refine lv_bipush (v := 10) hx hb dX5_caught_59 (by decide) ?_
                      refine lv_iload_n hx hb dX5_caught_61 rfl (lv_at hl 3 rfl) ?_
                      refine lv_imul hx hb dX5_caught_62 ?_
                      refine lv_iload hx hb dX5_caught_63 (lv_at hl 4 rfl) ?_
                      refine lv_iadd hx hb dX5_caught_65 ?_
                      exact W.iret hx hb hr (fun t ht _ => ⟨⟨_, u_10, rfl, h, hPr ht hP⟩, hS.F ht⟩) hS.2.2 dX5_caught_66
        exact loop_15 n _ _ _ h _ _ hP hS _ (lv_sub hl [1, 2, 3, 4, 0] rfl)
  exact loop_4 n _ _ _ h _ _ hP hS _ (lv_sub hl [2, 3, 1, 0] rfl)
set_option maxHeartbeats 4000000 in
set_option maxRecDepth 100000 in
theorem c_X5_run (l : Launch) (dC : Nat → ClassId) (dI : Nat → Nat → Nat) (m0 m1 m2 m3 m4 m5 m6 m7 m8 m9 : Nat) (cI cZ : ClassId) (sz : Nat) {u : St} {x1 : Int32} {x2 : Int32} {x3 : Int32} {post : Int32 → St → Prop} (h : P_X5_run u x1 x2 x3 post) : Met l yX5_run wsX5_run ({ frames := 2, cells := 0, slots := 0, locals := 47 } : Room) (MPre (dC, dI) vwCl (wM m0 m1 m2 m3 m4 m5 m6 m7 m8 m9 cI cZ u) [(cI, .int), (cZ, .boolean)] sz [.ref m0, .int x1, .int x2, .int x3]) (va_Qi post (fun (u2 : St) (t : State) => va_P (dC, dI) vwCl (wM m0 m1 m2 m3 m4 m5 m6 m7 m8 m9 cI cZ u2) t.heap) (va_A (wM m0 m1 m2 m3 m4 m5 m6 m7 m8 m9 cI cZ u) sz)) 0 0 (va_A (wM m0 m1 m2 m3 m4 m5 m6 m7 m8 m9 cI cZ u) sz) := by
  refine Met.ofW (cc := cX5_run) (maxL := 5) (ret := (some .int)) (by decide) rfl ?_
  intro p e s m args below meth c s₁ B hml hv
  obtain ⟨rfl, hsz, hP, hK, hD0⟩ := hv
  have hx := B.exec
  have hb := B.bytes
  have hr := B.returns
  have hts := atoms_spec (ws := wsX5_run) B.pre
  have hown : s.vm.findClass RX5 = some m.cls := findClass_of_methodNamed B.named
  have hlocks := B.notSynchronized
  subst hsz
  have hD1 := hD0.self (sz := s.heap.size)
  generalize hAe : va_A (wM m0 m1 m2 m3 m4 m5 m6 m7 m8 m9 cI cZ u) s.heap.size = A at hD1 ⊢
  have hA : ∀ q : Nat, s.heap.size ≤ q → A q := fun q h => by rw [← hAe]; exact Or.inr h
  have hD : ∀ z, va_D A (wM m0 m1 m2 m3 m4 m5 m6 m7 m8 m9 cI cZ z) := fun z => va_Dsame hD1 rfl
  have hS : va_S A s.heap s.heap [] := va_S.rf
  have hl := lv_entry ([.ref m0, .int x1, .int x2, .int x3]) (n := 5) (Nat.le_of_ble_eq_true rfl)
  rw [lg_entry_eq]
  generalize (lg_sl ([.ref m0, .int x1, .int x2, .int x3]) ++ List.replicate (5 - (lg_sl ([.ref m0, .int x1, .int x2, .int x3])).length) Slot.unset).toArray = ls at hl ⊢
  have hl : lv_has ls 5 [(0, .ref m0), (1, .int x1), (2, .int x2), (3, .int x3)] := hl
  have i_X5 : ∀ w ∈ u_ws RX5 TX5 17, w ∈ wsX5_run := by decide +kernel
  have f_7 := hts (.fieldLink RX5 7 "SliceBodyModel" "wideX" "I") (by decide +kernel)
  have f_13 := hts (.fieldLink RX5 13 "SliceBodyModel" "wideY" "I") (by decide +kernel)
  have f_27 := hts (.fieldLink RX5 27 "SliceBodyModel" "begins" "[I") (by decide +kernel)
  have f_30 := hts (.fieldLink RX5 30 "SliceBodyModel" "long0" "[I") (by decide +kernel)
  unfold P_X5_run at h
  refine lv_iload_n hx hb dX5_run_0 rfl (lv_at hl 1 rfl) ?_
  refine lv_i2l hx hb dX5_run_1 rfl ?_
  refine lv_lconst (v := 0) hx hb dX5_run_2 (by decide) ?_
  refine lv_aload_n hx hb dX5_run_3 rfl (lv_at hl 0 rfl) ?_
  refine va_get (D := (dC, dI)) (ci := 3) (v := .int (u.1 0)) (C := RX5) (T := TX5) (N := 17) hx hb hts i_X5 hown hK hP 0 rfl rfl 0 (by decide) f_7 (fun _ h9 => h9) rfl dX5_run_4 ?_
  refine lv_iconst (v := 1) hx hb dX5_run_7 (by decide) ?_
  refine lv_isub hx hb dX5_run_8 ?_
  refine lv_i2l hx hb dX5_run_9 rfl ?_
  refine vp_callSi (W.runS (As := [.long _, .long _, .long _]) (rest := []) ⟨hx, hb, hml, hown, hts⟩ (c_X5_in l h) (va_cwS 3 hts gX5_run_X5_in rfl rfl rfl (by decide +kernel) ⟨Nat.le_of_ble_eq_true rfl, Nat.le_of_ble_eq_true rfl⟩) ⟨fun _ _ _ _ q => q, fun _ _ _ => ⟨rfl, trivial⟩⟩ rfl rfl hl.1 rfl (lv_room (Nat.le_of_ble_eq_true rfl)) dX5_run_10 ⟨Nat.zero_le _, Nat.zero_le _⟩) (fun r_1 h => ?_)
  refine lv_if_eq (tgt := 32) hx hb dX5_run_13 (by decide) (fun c_13 => ?_) (fun c_13 => ?_)
  · have h := br1 h c_13
    refine lv_iconst (v := (-1)) hx hb dX5_run_32 (by decide) ?_
    exact W.iret hx hb hr (fun t ht _ => ⟨⟨_, u, rfl, h, hPr ht hP⟩, hS.F ht⟩) hS.2.2 dX5_run_33
  · have h := br2 h c_13
    refine lv_iload_n hx hb dX5_run_16 rfl (lv_at hl 2 rfl) ?_
    refine lv_i2l hx hb dX5_run_17 rfl ?_
    refine lv_lconst (v := 0) hx hb dX5_run_18 (by decide) ?_
    refine lv_aload_n hx hb dX5_run_19 rfl (lv_at hl 0 rfl) ?_
    refine va_get (D := (dC, dI)) (ci := 3) (v := .int (u.1 1)) (C := RX5) (T := TX5) (N := 17) hx hb hts i_X5 hown hK hP 0 rfl rfl 1 (by decide) f_13 (fun _ h9 => h9) rfl dX5_run_20 ?_
    refine lv_iconst (v := 1) hx hb dX5_run_23 (by decide) ?_
    refine lv_isub hx hb dX5_run_24 ?_
    refine lv_i2l hx hb dX5_run_25 rfl ?_
    refine vp_callSi (W.runS (As := [.long _, .long _, .long _]) (rest := []) ⟨hx, hb, hml, hown, hts⟩ (c_X5_in l h) (va_cwS 3 hts gX5_run_X5_in rfl rfl rfl (by decide +kernel) ⟨Nat.le_of_ble_eq_true rfl, Nat.le_of_ble_eq_true rfl⟩) ⟨fun _ _ _ _ q => q, fun _ _ _ => ⟨rfl, trivial⟩⟩ rfl rfl hl.1 rfl (lv_room (Nat.le_of_ble_eq_true rfl)) dX5_run_26 ⟨Nat.zero_le _, Nat.zero_le _⟩) (fun r_2 h => ?_)
    refine lv_if_ne (tgt := 34) hx hb dX5_run_29 (by decide) (fun c_29 => ?_) (fun c_29 => ?_)
    · have h := br2 h c_29
      refine lv_aload_n hx hb dX5_run_34 rfl (lv_at hl 0 rfl) ?_
      refine lv_iload_n hx hb dX5_run_35 rfl (lv_at hl 1 rfl) ?_
      refine lv_iload_n hx hb dX5_run_36 rfl (lv_at hl 2 rfl) ?_
      have hFc := fr_all (ws := wM m0 m1 m2 m3 m4 m5 m6 m7 m8 m9 cI cZ u) (hD u) hS hA
      refine va_calli (va_runV (As := [.int _, .int _]) (rest := []) ⟨hx, hb, hml, hown, hts⟩ (c_X5_findRuns l dC dI m0 m1 m2 m3 m4 m5 m6 m7 m8 m9 cI cZ (s.heap).size h) (cwV 2 hts gX5_run_X5_findRuns rfl rfl rfl (by decide +kernel) ⟨Nat.le_of_ble_eq_true rfl, Nat.le_of_ble_eq_true rfl⟩) ⟨fbM, va_recv hK hP (ci := 3) (q0 := 0) rfl rfl, fun U hU hW => ⟨rfl, by rw [hU], by rw [hU]; exact hP, va_K.moved hW.alike hK, (hD u).weaken (fun _ _ _ _ => trivial)⟩⟩ rfl rfl hl.1 rfl (lv_room (Nat.le_of_ble_eq_true rfl)) dX5_run_37 ⟨Nat.zero_le _, Nat.zero_le _⟩) hS (fun q _ h => hFc q h) hFc (fun r_3 u_4 t H locs ht _ h hP1 _ hk1 hS => ?_)
      have hP : va_P (dC, dI) vwCl (wM m0 m1 m2 m3 m4 m5 m6 m7 m8 m9 cI cZ u_4) H := by rw [← ht]; exact hP1
      refine lv_istore (lv' := [(4, .int r_3), (0, .ref m0), (1, .int x1), (2, .int x2), (3, .int x3)]) hx hb dX5_run_40 hl (by decide) rfl (fun ls hl => ?_)
      refine lv_iload_n hx hb dX5_run_42 rfl (lv_at hl 4 rfl) ?_
      refine lv_iconst (v := (-1)) hx hb dX5_run_43 (by decide) ?_
      refine lv_icmp_ne (tgt := 50) hx hb dX5_run_44 (by decide) (fun c_44 => ?_) (fun c_44 => ?_)
      · have h := br2 h c_44
        refine lv_iload_n hx hb dX5_run_50 rfl (lv_at hl 4 rfl) ?_
        refine lv_i2l hx hb dX5_run_51 rfl ?_
        refine lv_lconst (v := 0) hx hb dX5_run_52 (by decide) ?_
        refine lv_iload hx hb dX5_run_53 (lv_at hl 0 rfl) ?_
        refine lv_iconst (v := 1) hx hb dX5_run_55 (by decide) ?_
        refine lv_isub hx hb dX5_run_56 ?_
        refine lv_i2l hx hb dX5_run_57 rfl ?_
        refine vp_callSi (W.runS (As := [.long _, .long _, .long _]) (rest := []) ⟨hx, hb, hml, hown, hts⟩ (c_X5_in l h) (va_cwS 3 hts gX5_run_X5_in rfl rfl rfl (by decide +kernel) ⟨Nat.le_of_ble_eq_true rfl, Nat.le_of_ble_eq_true rfl⟩) ⟨fun _ _ _ _ q => q, fun _ _ _ => ⟨rfl, trivial⟩⟩ rfl rfl hl.1 rfl (lv_room (Nat.le_of_ble_eq_true rfl)) dX5_run_58 ⟨Nat.zero_le _, Nat.zero_le _⟩) (fun r_5 h => ?_)
        refine lv_if_eq (tgt := 83) hx hb dX5_run_61 (by decide) (fun c_61 => ?_) (fun c_61 => ?_)
        · have h := br1 h c_61
          refine lv_bipush (v := (-6)) hx hb dX5_run_83 (by decide) ?_
          exact W.iret hx hb hr (fun t ht _ => ⟨⟨_, u_4, rfl, h, hPr ht hP⟩, hS.F ht⟩) hS.2.2 dX5_run_85
        · have h := br2 h c_61
          refine lv_bipush (v := 10) hx hb dX5_run_64 (by decide) ?_
          refine lv_aload_n hx hb dX5_run_66 rfl (lv_at hl 1 rfl) ?_
          refine va_get (D := (dC, dI)) (ci := 3) (v := .ref m3) (C := RX5) (T := TX5) (N := 17) hx hb hts i_X5 hown hK hP 0 rfl rfl 6 (by decide) f_27 (fun _ h9 => h9) rfl dX5_run_67 ?_
          refine lv_iload_n hx hb dX5_run_70 rfl (lv_at hl 4 rfl) ?_
          obtain ⟨hi, h⟩ := h
          refine va_iald hx hb hK hP 3 0 rfl rfl hi dX5_run_71 ?_
          refine lv_imul hx hb dX5_run_72 ?_
          refine lv_aload_n hx hb dX5_run_73 rfl (lv_at hl 1 rfl) ?_
          refine va_get (D := (dC, dI)) (ci := 3) (v := .ref m4) (C := RX5) (T := TX5) (N := 17) hx hb hts i_X5 hown hK hP 0 rfl rfl 7 (by decide) f_30 (fun _ h9 => h9) rfl dX5_run_74 ?_
          refine lv_iload_n hx hb dX5_run_77 rfl (lv_at hl 4 rfl) ?_
          obtain ⟨hi, h⟩ := h
          refine va_iald hx hb hK hP 4 0 rfl rfl hi dX5_run_78 ?_
          refine lv_iadd hx hb dX5_run_79 ?_
          refine lv_goto (tgt := 85) hx hb dX5_run_80 (by decide) ?_
          exact W.iret hx hb hr (fun t ht _ => ⟨⟨_, u_4, rfl, h, hPr ht hP⟩, hS.F ht⟩) hS.2.2 dX5_run_85
      · have h := br1 h c_44
        refine lv_iload hx hb dX5_run_47 (lv_at hl 0 rfl) ?_
        exact W.iret hx hb hr (fun t ht _ => ⟨⟨_, u_4, rfl, h, hPr ht hP⟩, hS.F ht⟩) hS.2.2 dX5_run_49
    · have h := br1 h c_29
      refine lv_iconst (v := (-1)) hx hb dX5_run_32 (by decide) ?_
      exact W.iret hx hb hr (fun t ht _ => ⟨⟨_, u, rfl, h, hPr ht hP⟩, hS.F ht⟩) hS.2.2 dX5_run_33
set_option maxHeartbeats 4000000 in
set_option maxRecDepth 100000 in
theorem c_X5_highOf (l : Launch) (dC : Nat → ClassId) (dI : Nat → Nat → Nat) (m0 m1 m2 m3 m4 m5 m6 m7 m8 m9 : Nat) (cI cZ : ClassId) {u : St} {x1 : Int32} {x2 : Int32} {post : Int32 → Prop} (h : P_X5_highOf u x1 x2 post) : Met l yX5_highOf wsX5_highOf ({ frames := 1, cells := 0, slots := 0, locals := 23 } : Room) (RPre (dC, dI) vwCl (wM m0 m1 m2 m3 m4 m5 m6 m7 m8 m9 cI cZ u) [(cI, .int), (cZ, .boolean)] [.ref m0, .int x1, .int x2]) (vp_Si post) 0 0 (fun _ => False) := by
  refine Met.ofW (cc := cX5_highOf) (maxL := 5) (ret := (some .int)) (by decide) rfl ?_
  intro p e s m args below meth c s₁ B hml hv
  obtain ⟨rfl, hP, hK⟩ := hv
  have hx := B.exec
  have hb := B.bytes
  have hr := B.returns
  have hts := atoms_spec (ws := wsX5_highOf) B.pre
  have hown : s.vm.findClass RX5 = some m.cls := findClass_of_methodNamed B.named
  have hlocks := B.notSynchronized
  have hl := lv_entry ([.ref m0, .int x1, .int x2]) (n := 5) (Nat.le_of_ble_eq_true rfl)
  rw [lg_entry_eq]
  generalize (lg_sl ([.ref m0, .int x1, .int x2]) ++ List.replicate (5 - (lg_sl ([.ref m0, .int x1, .int x2])).length) Slot.unset).toArray = ls at hl ⊢
  have hl : lv_has ls 5 [(0, .ref m0), (1, .int x1), (2, .int x2)] := hl
  have i_X5 : ∀ w ∈ u_ws RX5 TX5 17, w ∈ wsX5_highOf := by decide +kernel
  have f_16 := hts (.fieldLink RX5 16 "SliceBodyModel" "wideZ" "I") (by decide +kernel)
  unfold P_X5_highOf at h
  refine lv_iconst (v := 0) hx hb dX5_highOf_0 (by decide) ?_
  refine lv_istore_n (lv' := [(3, .int (0 : Int32)), (0, .ref m0), (1, .int x1), (2, .int x2)]) hx hb dX5_highOf_1 rfl hl (by decide) rfl (fun ls hl => ?_)
  refine lv_iconst (v := 0) hx hb dX5_highOf_2 (by decide) ?_
  refine lv_istore (lv' := [(4, .int (0 : Int32)), (3, .int (0 : Int32)), (0, .ref m0), (1, .int x1), (2, .int x2)]) hx hb dX5_highOf_3 hl (by decide) rfl (fun ls hl => ?_)
  obtain ⟨K_5, hKi_5, h⟩ := jnE1 h
  have hK_5 : ∀ (v3_7 : Int32), K_5 v3_7 → ∀ (ls : Array Slot), lv_has ls 5 [(3, .int v3_7)] → W p l e (headSpec wsX5_highOf ({ frames := 1, cells := 0, slots := 0, locals := 23 } : Room)).room s m ([.ref m0, .int x1, .int x2] : List Value).toArray below meth c s.heap [] 0 0 (MQ below (vp_Si post) ([.ref m0, .int x1, .int x2] : List Value).toArray s 0 0 (fun _ => False)) (F0 m 39 ls []) := by
    intro v3_7 h ls hl
    have h := hKi_5 _ h
    refine lv_iload_n hx hb dX5_highOf_39 rfl (lv_at hl 0 rfl) ?_
    exact W.iret hx hb hr (fun t ht _ => ⟨_, rfl, h, ht⟩) (fun q hq => by cases hq) dX5_highOf_40
  obtain ⟨n, h⟩ := h
  have loop_5 : ∀ (n : Nat) (v3_1 : Int32) (v4_2 : Int32), L_X5_highOf_5 post K_5 u x1 x2 n v3_1 v4_2 → ∀ (ls : Array Slot), lv_has ls 5 [(0, .ref m0), (1, .int x1), (2, .int x2), (3, .int v3_1), (4, .int v4_2)] → W p l e (headSpec wsX5_highOf ({ frames := 1, cells := 0, slots := 0, locals := 23 } : Room)).room s m ([.ref m0, .int x1, .int x2] : List Value).toArray below meth c s.heap [] 0 0 (MQ below (vp_Si post) ([.ref m0, .int x1, .int x2] : List Value).toArray s 0 0 (fun _ => False)) (F0 m 5 ls []) := by
    intro n
    induction n with
    | zero => intro v3_1 v4_2 h; rw [L_X5_highOf_5] at h; exact h.elim
    | succ n ih_5 =>
      intro v3_1 v4_2 h ls hl
      rw [L_X5_highOf_5] at h
      refine lv_iload hx hb dX5_highOf_5 (lv_at hl 4 rfl) ?_
      refine lv_aload_n hx hb dX5_highOf_7 rfl (lv_at hl 0 rfl) ?_
      refine va_get (D := (dC, dI)) (ci := 3) (v := .int (u.1 2)) (C := RX5) (T := TX5) (N := 17) hx hb hts i_X5 hown hK hP 0 rfl rfl 2 (by decide) f_16 (fun _ h9 => h9) rfl dX5_highOf_8 ?_
      refine lv_icmp_ge (tgt := 39) hx hb dX5_highOf_11 (by decide) (fun c_11 => ?_) (fun c_11 => ?_)
      · have h := br1 h c_11
        exact hK_5 _ h _ (lv_sub hl [3] rfl)
      · have h := br2 h c_11
        refine lv_iload_n hx hb dX5_highOf_14 rfl (lv_at hl 3 rfl) ?_
        refine lv_aload_n hx hb dX5_highOf_15 rfl (lv_at hl 0 rfl) ?_
        refine lv_iload_n hx hb dX5_highOf_16 rfl (lv_at hl 1 rfl) ?_
        refine lv_iload_n hx hb dX5_highOf_17 rfl (lv_at hl 2 rfl) ?_
        refine lv_iload hx hb dX5_highOf_18 (lv_at hl 4 rfl) ?_
        refine vp_callSi (W.runV (As := [.int _, .int _, .int _]) (rest := [.int _]) ⟨hx, hb, hml, hown, hts⟩ (c_X5_has l dC dI m0 m1 m2 m3 m4 m5 m6 m7 m8 m9 cI cZ h) (cwV 3 hts gX5_highOf_X5_has rfl rfl rfl (by decide +kernel) ⟨Nat.le_of_ble_eq_true rfl, Nat.le_of_ble_eq_true rfl⟩) ⟨fbR, va_recv hK hP (ci := 3) (q0 := 0) rfl rfl, fun U hU hW => ⟨rfl, by rw [hU]; exact hP, va_K.moved hW.alike hK⟩⟩ rfl rfl hl.1 rfl (lv_room (Nat.le_of_ble_eq_true rfl)) dX5_highOf_20 ⟨Nat.zero_le _, Nat.zero_le _⟩) (fun r_3 h => ?_)
        obtain ⟨J_31, hJi_31, h⟩ := jnE1 h
        have hJ_31 : ∀ (w_4 : Int32), J_31 w_4 → ∀ (ls : Array Slot), lv_has ls 5 [(0, .ref m0), (1, .int x1), (2, .int x2), (4, .int v4_2)] → W p l e (headSpec wsX5_highOf ({ frames := 1, cells := 0, slots := 0, locals := 23 } : Room)).room s m ([.ref m0, .int x1, .int x2] : List Value).toArray below meth c s.heap [] 0 0 (MQ below (vp_Si post) ([.ref m0, .int x1, .int x2] : List Value).toArray s 0 0 (fun _ => False)) (F0 m 31 ls [.int w_4, .int v3_1]) := by
          intro w_4 h ls hl
          have h := hJi_31 _ h
          refine lv_iadd hx hb dX5_highOf_31 ?_
          refine lv_topi (fun y_5 ey_5 => ?_)
          have h := h y_5 ey_5
          refine lv_istore_n (lv' := [(3, .int y_5), (0, .ref m0), (1, .int x1), (2, .int x2), (4, .int v4_2)]) hx hb dX5_highOf_32 rfl hl (by decide) rfl (fun ls hl => ?_)
          obtain ⟨y_6, ey_6⟩ : ∃ z : Int32, z = v4_2 + (1 : Int32) := ⟨_, rfl⟩
          have h := h y_6 ey_6
          refine lv_iinc (v := y_6) (lv' := [(4, .int y_6), (3, .int y_5), (0, .ref m0), (1, .int x1), (2, .int x2)]) hx hb dX5_highOf_33 hl (k := 4) rfl (by rw [ey_6]; rfl) (by decide) rfl (fun ls hl => ?_)
          refine lv_goto (tgt := 5) hx hb dX5_highOf_36 (by decide) ?_
          exact ih_5 _ _ h _ (lv_sub hl [2, 3, 4, 1, 0] rfl)
        refine lv_if_eq (tgt := 30) hx hb dX5_highOf_23 (by decide) (fun c_23 => ?_) (fun c_23 => ?_)
        · have h := br1 h c_23
          refine lv_iconst (v := 0) hx hb dX5_highOf_30 (by decide) ?_
          exact hJ_31 _ h _ (lv_sub hl [0, 1, 2, 4] rfl)
        · have h := br2 h c_23
          refine lv_iconst (v := 1) hx hb dX5_highOf_26 (by decide) ?_
          refine lv_goto (tgt := 31) hx hb dX5_highOf_27 (by decide) ?_
          exact hJ_31 _ h _ (lv_sub hl [0, 1, 2, 4] rfl)
  exact loop_5 n _ _ h _ (lv_sub hl [2, 3, 4, 1, 0] rfl)
set_option maxHeartbeats 4000000 in
set_option maxRecDepth 100000 in
theorem c_X5_coverOf (l : Launch) (dC : Nat → ClassId) (dI : Nat → Nat → Nat) (m0 m1 m2 m3 m4 m5 m6 m7 m8 m9 : Nat) (cI cZ : ClassId) {u : St} {x1 : Int32} {x2 : Int32} {post : Int32 → Prop} (h : P_X5_coverOf u x1 x2 post) : Met l yX5_coverOf wsX5_coverOf ({ frames := 0, cells := 0, slots := 0, locals := 0 } : Room) (RPre (dC, dI) vwCl (wM m0 m1 m2 m3 m4 m5 m6 m7 m8 m9 cI cZ u) [(cI, .int), (cZ, .boolean)] [.ref m0, .int x1, .int x2]) (vp_Si post) 0 0 (fun _ => False) := by
  refine Met.ofW (cc := cX5_coverOf) (maxL := 6) (ret := (some .int)) (by decide) rfl ?_
  intro p e s m args below meth c s₁ B hml hv
  obtain ⟨rfl, hP, hK⟩ := hv
  have hx := B.exec
  have hb := B.bytes
  have hr := B.returns
  have hts := atoms_spec (ws := wsX5_coverOf) B.pre
  have hown : s.vm.findClass RX5 = some m.cls := findClass_of_methodNamed B.named
  have hlocks := B.notSynchronized
  have hl := lv_entry ([.ref m0, .int x1, .int x2]) (n := 6) (Nat.le_of_ble_eq_true rfl)
  rw [lg_entry_eq]
  generalize (lg_sl ([.ref m0, .int x1, .int x2]) ++ List.replicate (6 - (lg_sl ([.ref m0, .int x1, .int x2])).length) Slot.unset).toArray = ls at hl ⊢
  have hl : lv_has ls 6 [(0, .ref m0), (1, .int x1), (2, .int x2)] := hl
  have i_X5 : ∀ w ∈ u_ws RX5 TX5 17, w ∈ wsX5_coverOf := by decide +kernel
  have f_7 := hts (.fieldLink RX5 7 "SliceBodyModel" "wideX" "I") (by decide +kernel)
  have f_13 := hts (.fieldLink RX5 13 "SliceBodyModel" "wideY" "I") (by decide +kernel)
  have f_36 := hts (.fieldLink RX5 36 "SliceBodyModel" "column" "[I") (by decide +kernel)
  unfold P_X5_coverOf at h
  refine lv_iconst (v := 0) hx hb dX5_coverOf_0 (by decide) ?_
  refine lv_istore_n (lv' := [(3, .int (0 : Int32)), (0, .ref m0), (1, .int x1), (2, .int x2)]) hx hb dX5_coverOf_1 rfl hl (by decide) rfl (fun ls hl => ?_)
  refine lv_iconst (v := 0) hx hb dX5_coverOf_2 (by decide) ?_
  refine lv_istore (lv' := [(4, .int (0 : Int32)), (3, .int (0 : Int32)), (0, .ref m0), (1, .int x1), (2, .int x2)]) hx hb dX5_coverOf_3 hl (by decide) rfl (fun ls hl => ?_)
  obtain ⟨K_5, hKi_5, h⟩ := jnE1 h
  have hK_5 : ∀ (v3_10 : Int32), K_5 v3_10 → ∀ (ls : Array Slot), lv_has ls 6 [(3, .int v3_10)] → W p l e (headSpec wsX5_coverOf ({ frames := 0, cells := 0, slots := 0, locals := 0 } : Room)).room s m ([.ref m0, .int x1, .int x2] : List Value).toArray below meth c s.heap [] 0 0 (MQ below (vp_Si post) ([.ref m0, .int x1, .int x2] : List Value).toArray s 0 0 (fun _ => False)) (F0 m 78 ls []) := by
    intro v3_10 h ls hl
    have h := hKi_5 _ h
    refine lv_iload_n hx hb dX5_coverOf_78 rfl (lv_at hl 0 rfl) ?_
    exact W.iret hx hb hr (fun t ht _ => ⟨_, rfl, h, ht⟩) (fun q hq => by cases hq) dX5_coverOf_79
  obtain ⟨n, h⟩ := h
  have loop_5 : ∀ (n : Nat) (v3_1 : Int32) (v4_2 : Int32), L_X5_coverOf_5 post K_5 u x1 x2 n v3_1 v4_2 → ∀ (ls : Array Slot), lv_has ls 6 [(0, .ref m0), (1, .int x1), (2, .int x2), (3, .int v3_1), (4, .int v4_2)] → W p l e (headSpec wsX5_coverOf ({ frames := 0, cells := 0, slots := 0, locals := 0 } : Room)).room s m ([.ref m0, .int x1, .int x2] : List Value).toArray below meth c s.heap [] 0 0 (MQ below (vp_Si post) ([.ref m0, .int x1, .int x2] : List Value).toArray s 0 0 (fun _ => False)) (F0 m 5 ls []) := by
    intro n
    induction n with
    | zero => intro v3_1 v4_2 h; rw [L_X5_coverOf_5] at h; exact h.elim
    | succ n ih_5 =>
      intro v3_1 v4_2 h ls hl
      rw [L_X5_coverOf_5] at h
      refine lv_iload hx hb dX5_coverOf_5 (lv_at hl 4 rfl) ?_
      refine lv_aload_n hx hb dX5_coverOf_7 rfl (lv_at hl 0 rfl) ?_
      refine va_get (D := (dC, dI)) (ci := 3) (v := .int (u.1 0)) (C := RX5) (T := TX5) (N := 17) hx hb hts i_X5 hown hK hP 0 rfl rfl 0 (by decide) f_7 (fun _ h9 => h9) rfl dX5_coverOf_8 ?_
      refine lv_icmp_ge (tgt := 78) hx hb dX5_coverOf_11 (by decide) (fun c_11 => ?_) (fun c_11 => ?_)
      · have h := br1 h c_11
        exact hK_5 _ h _ (lv_sub hl [3] rfl)
      · have h := br2 h c_11
        refine lv_iconst (v := 0) hx hb dX5_coverOf_14 (by decide) ?_
        refine lv_istore (lv' := [(5, .int (0 : Int32)), (0, .ref m0), (1, .int x1), (2, .int x2), (3, .int v3_1), (4, .int v4_2)]) hx hb dX5_coverOf_15 hl (by decide) rfl (fun ls hl => ?_)
        obtain ⟨K_17, hKi_17, h⟩ := jnE1 h
        have hK_17 : ∀ (v3_8 : Int32), K_17 v3_8 → ∀ (ls : Array Slot), lv_has ls 6 [(0, .ref m0), (1, .int x1), (2, .int x2), (3, .int v3_8), (4, .int v4_2)] → W p l e (headSpec wsX5_coverOf ({ frames := 0, cells := 0, slots := 0, locals := 0 } : Room)).room s m ([.ref m0, .int x1, .int x2] : List Value).toArray below meth c s.heap [] 0 0 (MQ below (vp_Si post) ([.ref m0, .int x1, .int x2] : List Value).toArray s 0 0 (fun _ => False)) (F0 m 72 ls []) := by
          intro v3_8 h ls hl
          have h := hKi_17 _ h
          obtain ⟨y_9, ey_9⟩ : ∃ z : Int32, z = v4_2 + (1 : Int32) := ⟨_, rfl⟩
          have h := h y_9 ey_9
          refine lv_iinc (v := y_9) (lv' := [(4, .int y_9), (0, .ref m0), (1, .int x1), (2, .int x2), (3, .int v3_8)]) hx hb dX5_coverOf_72 hl (k := 4) rfl (by rw [ey_9]; rfl) (by decide) rfl (fun ls hl => ?_)
          refine lv_goto (tgt := 5) hx hb dX5_coverOf_75 (by decide) ?_
          exact ih_5 _ _ h _ (lv_sub hl [1, 2, 3, 4, 0] rfl)
        obtain ⟨n, h⟩ := h
        have loop_17 : ∀ (n : Nat) (v3_3 : Int32) (v5_4 : Int32), L_X5_coverOf_17 post K_17 u x1 x2 v4_2 n v3_3 v5_4 → ∀ (ls : Array Slot), lv_has ls 6 [(0, .ref m0), (1, .int x1), (2, .int x2), (3, .int v3_3), (4, .int v4_2), (5, .int v5_4)] → W p l e (headSpec wsX5_coverOf ({ frames := 0, cells := 0, slots := 0, locals := 0 } : Room)).room s m ([.ref m0, .int x1, .int x2] : List Value).toArray below meth c s.heap [] 0 0 (MQ below (vp_Si post) ([.ref m0, .int x1, .int x2] : List Value).toArray s 0 0 (fun _ => False)) (F0 m 17 ls []) := by
          intro n
          induction n with
          | zero => intro v3_3 v5_4 h; rw [L_X5_coverOf_17] at h; exact h.elim
          | succ n ih_17 =>
            intro v3_3 v5_4 h ls hl
            rw [L_X5_coverOf_17] at h
            refine lv_iload hx hb dX5_coverOf_17 (lv_at hl 5 rfl) ?_
            refine lv_aload_n hx hb dX5_coverOf_19 rfl (lv_at hl 0 rfl) ?_
            refine va_get (D := (dC, dI)) (ci := 3) (v := .int (u.1 1)) (C := RX5) (T := TX5) (N := 17) hx hb hts i_X5 hown hK hP 0 rfl rfl 1 (by decide) f_13 (fun _ h9 => h9) rfl dX5_coverOf_20 ?_
            refine lv_icmp_ge (tgt := 72) hx hb dX5_coverOf_23 (by decide) (fun c_23 => ?_) (fun c_23 => ?_)
            · have h := br1 h c_23
              exact hK_17 _ h _ (lv_sub hl [0, 1, 2, 3, 4] rfl)
            · have h := br2 h c_23
              refine lv_iload_n hx hb dX5_coverOf_26 rfl (lv_at hl 3 rfl) ?_
              refine lv_iload_n hx hb dX5_coverOf_27 rfl (lv_at hl 1 rfl) ?_
              refine lv_iload hx hb dX5_coverOf_28 (lv_at hl 4 rfl) ?_
              refine lv_ishr hx hb dX5_coverOf_30 ?_
              refine lv_iconst (v := 1) hx hb dX5_coverOf_31 (by decide) ?_
              refine lv_iand hx hb dX5_coverOf_32 ?_
              refine lv_iconst (v := 1) hx hb dX5_coverOf_33 (by decide) ?_
              obtain ⟨J_64, hJi_64, h⟩ := jnE1 h
              have hJ_64 : ∀ (w_5 : Int32), J_64 w_5 → ∀ (ls : Array Slot), lv_has ls 6 [(0, .ref m0), (1, .int x1), (2, .int x2), (4, .int v4_2), (5, .int v5_4)] → W p l e (headSpec wsX5_coverOf ({ frames := 0, cells := 0, slots := 0, locals := 0 } : Room)).room s m ([.ref m0, .int x1, .int x2] : List Value).toArray below meth c s.heap [] 0 0 (MQ below (vp_Si post) ([.ref m0, .int x1, .int x2] : List Value).toArray s 0 0 (fun _ => False)) (F0 m 64 ls [.int w_5, .int v3_3]) := by
                intro w_5 h ls hl
                have h := hJi_64 _ h
                refine lv_iadd hx hb dX5_coverOf_64 ?_
                refine lv_topi (fun y_6 ey_6 => ?_)
                have h := h y_6 ey_6
                refine lv_istore_n (lv' := [(3, .int y_6), (0, .ref m0), (1, .int x1), (2, .int x2), (4, .int v4_2), (5, .int v5_4)]) hx hb dX5_coverOf_65 rfl hl (by decide) rfl (fun ls hl => ?_)
                obtain ⟨y_7, ey_7⟩ : ∃ z : Int32, z = v5_4 + (1 : Int32) := ⟨_, rfl⟩
                have h := h y_7 ey_7
                refine lv_iinc (v := y_7) (lv' := [(5, .int y_7), (3, .int y_6), (0, .ref m0), (1, .int x1), (2, .int x2), (4, .int v4_2)]) hx hb dX5_coverOf_66 hl (k := 5) rfl (by rw [ey_7]; rfl) (by decide) rfl (fun ls hl => ?_)
                refine lv_goto (tgt := 17) hx hb dX5_coverOf_69 (by decide) ?_
                exact ih_17 _ _ h _ (lv_sub hl [2, 3, 4, 1, 5, 0] rfl)
              obtain ⟨J_47, hJi_47, h⟩ := jnE0 h
              have hJ_47 : J_47 → ∀ (ls : Array Slot), lv_has ls 6 [(0, .ref m0), (1, .int x1), (2, .int x2), (4, .int v4_2), (5, .int v5_4)] → W p l e (headSpec wsX5_coverOf ({ frames := 0, cells := 0, slots := 0, locals := 0 } : Room)).room s m ([.ref m0, .int x1, .int x2] : List Value).toArray below meth c s.heap [] 0 0 (MQ below (vp_Si post) ([.ref m0, .int x1, .int x2] : List Value).toArray s 0 0 (fun _ => False)) (F0 m 47 ls [.int v3_3]) := by
                intro  h ls hl
                have h := hJi_47 h
                refine lv_aload_n hx hb dX5_coverOf_47 rfl (lv_at hl 0 rfl) ?_
                refine va_get (D := (dC, dI)) (ci := 3) (v := .ref m6) (C := RX5) (T := TX5) (N := 17) hx hb hts i_X5 hown hK hP 0 rfl rfl 11 (by decide) f_36 (fun _ h9 => h9) rfl dX5_coverOf_48 ?_
                refine lv_bipush (v := 8) hx hb dX5_coverOf_51 (by decide) ?_
                refine lv_iload hx hb dX5_coverOf_53 (lv_at hl 3 rfl) ?_
                refine lv_imul hx hb dX5_coverOf_55 ?_
                refine lv_iload hx hb dX5_coverOf_56 (lv_at hl 4 rfl) ?_
                refine lv_iadd hx hb dX5_coverOf_58 ?_
                obtain ⟨hi, h⟩ := h
                refine va_iald hx hb hK hP 6 0 rfl rfl hi dX5_coverOf_59 ?_
                refine lv_goto (tgt := 64) hx hb dX5_coverOf_60 (by decide) ?_
                exact hJ_64 _ h _ (lv_sub hl [0, 1, 2, 3, 4] rfl)
              refine lv_icmp_eq (tgt := 47) hx hb dX5_coverOf_34 (by decide) (fun c_34 => ?_) (fun c_34 => ?_)
              · have h := br1 h c_34
                exact hJ_47 h _ (lv_sub hl [0, 1, 2, 4, 5] rfl)
              · have h := br2 h c_34
                refine lv_iload_n hx hb dX5_coverOf_37 rfl (lv_at hl 2 rfl) ?_
                refine lv_iload hx hb dX5_coverOf_38 (lv_at hl 5 rfl) ?_
                refine lv_ishr hx hb dX5_coverOf_40 ?_
                refine lv_iconst (v := 1) hx hb dX5_coverOf_41 (by decide) ?_
                refine lv_iand hx hb dX5_coverOf_42 ?_
                refine lv_iconst (v := 1) hx hb dX5_coverOf_43 (by decide) ?_
                refine lv_icmp_ne (tgt := 63) hx hb dX5_coverOf_44 (by decide) (fun c_44 => ?_) (fun c_44 => ?_)
                · have h := br2 h c_44
                  refine lv_iconst (v := 0) hx hb dX5_coverOf_63 (by decide) ?_
                  exact hJ_64 _ h _ (lv_sub hl [0, 1, 2, 4, 5] rfl)
                · have h := br1 h c_44
                  exact hJ_47 h _ (lv_sub hl [0, 1, 2, 4, 5] rfl)
        exact loop_17 n _ _ h _ (lv_sub hl [1, 2, 3, 4, 5, 0] rfl)
  exact loop_5 n _ _ h _ (lv_sub hl [2, 3, 4, 1, 0] rfl)
set_option maxHeartbeats 4000000 in
set_option maxRecDepth 100000 in
theorem c_X5_caughtOf (l : Launch) (dC : Nat → ClassId) (dI : Nat → Nat → Nat) (m0 m1 m2 m3 m4 m5 m6 m7 m8 m9 : Nat) (cI cZ : ClassId) {u : St} {x1 : Int32} {x2 : Int32} {post : Int32 → Prop} (h : P_X5_caughtOf u x1 x2 post) : Met l yX5_caughtOf wsX5_caughtOf ({ frames := 0, cells := 0, slots := 0, locals := 0 } : Room) (RPre (dC, dI) vwCl (wM m0 m1 m2 m3 m4 m5 m6 m7 m8 m9 cI cZ u) [(cI, .int), (cZ, .boolean)] [.ref m0, .int x1, .int x2]) (vp_Si post) 0 0 (fun _ => False) := by
  refine Met.ofW (cc := cX5_caughtOf) (maxL := 6) (ret := (some .int)) (by decide) rfl ?_
  intro p e s m args below meth c s₁ B hml hv
  obtain ⟨rfl, hP, hK⟩ := hv
  have hx := B.exec
  have hb := B.bytes
  have hr := B.returns
  have hts := atoms_spec (ws := wsX5_caughtOf) B.pre
  have hown : s.vm.findClass RX5 = some m.cls := findClass_of_methodNamed B.named
  have hlocks := B.notSynchronized
  have hl := lv_entry ([.ref m0, .int x1, .int x2]) (n := 6) (Nat.le_of_ble_eq_true rfl)
  rw [lg_entry_eq]
  generalize (lg_sl ([.ref m0, .int x1, .int x2]) ++ List.replicate (6 - (lg_sl ([.ref m0, .int x1, .int x2])).length) Slot.unset).toArray = ls at hl ⊢
  have hl : lv_has ls 6 [(0, .ref m0), (1, .int x1), (2, .int x2)] := hl
  have i_X5 : ∀ w ∈ u_ws RX5 TX5 17, w ∈ wsX5_caughtOf := by decide +kernel
  have f_7 := hts (.fieldLink RX5 7 "SliceBodyModel" "wideX" "I") (by decide +kernel)
  have f_13 := hts (.fieldLink RX5 13 "SliceBodyModel" "wideY" "I") (by decide +kernel)
  have f_39 := hts (.fieldLink RX5 39 "SliceBodyModel" "runsIn" "[I") (by decide +kernel)
  unfold P_X5_caughtOf at h
  refine lv_iconst (v := 0) hx hb dX5_caughtOf_0 (by decide) ?_
  refine lv_istore_n (lv' := [(3, .int (0 : Int32)), (0, .ref m0), (1, .int x1), (2, .int x2)]) hx hb dX5_caughtOf_1 rfl hl (by decide) rfl (fun ls hl => ?_)
  refine lv_iconst (v := 0) hx hb dX5_caughtOf_2 (by decide) ?_
  refine lv_istore (lv' := [(4, .int (0 : Int32)), (3, .int (0 : Int32)), (0, .ref m0), (1, .int x1), (2, .int x2)]) hx hb dX5_caughtOf_3 hl (by decide) rfl (fun ls hl => ?_)
  obtain ⟨K_5, hKi_5, h⟩ := jnE1 h
  have hK_5 : ∀ (v3_10 : Int32), K_5 v3_10 → ∀ (ls : Array Slot), lv_has ls 6 [(3, .int v3_10)] → W p l e (headSpec wsX5_caughtOf ({ frames := 0, cells := 0, slots := 0, locals := 0 } : Room)).room s m ([.ref m0, .int x1, .int x2] : List Value).toArray below meth c s.heap [] 0 0 (MQ below (vp_Si post) ([.ref m0, .int x1, .int x2] : List Value).toArray s 0 0 (fun _ => False)) (F0 m 83 ls []) := by
    intro v3_10 h ls hl
    have h := hKi_5 _ h
    refine lv_iload_n hx hb dX5_caughtOf_83 rfl (lv_at hl 0 rfl) ?_
    exact W.iret hx hb hr (fun t ht _ => ⟨_, rfl, h, ht⟩) (fun q hq => by cases hq) dX5_caughtOf_84
  obtain ⟨n, h⟩ := h
  have loop_5 : ∀ (n : Nat) (v3_1 : Int32) (v4_2 : Int32), L_X5_caughtOf_5 post K_5 u x1 x2 n v3_1 v4_2 → ∀ (ls : Array Slot), lv_has ls 6 [(0, .ref m0), (1, .int x1), (2, .int x2), (3, .int v3_1), (4, .int v4_2)] → W p l e (headSpec wsX5_caughtOf ({ frames := 0, cells := 0, slots := 0, locals := 0 } : Room)).room s m ([.ref m0, .int x1, .int x2] : List Value).toArray below meth c s.heap [] 0 0 (MQ below (vp_Si post) ([.ref m0, .int x1, .int x2] : List Value).toArray s 0 0 (fun _ => False)) (F0 m 5 ls []) := by
    intro n
    induction n with
    | zero => intro v3_1 v4_2 h; rw [L_X5_caughtOf_5] at h; exact h.elim
    | succ n ih_5 =>
      intro v3_1 v4_2 h ls hl
      rw [L_X5_caughtOf_5] at h
      refine lv_iload hx hb dX5_caughtOf_5 (lv_at hl 4 rfl) ?_
      refine lv_aload_n hx hb dX5_caughtOf_7 rfl (lv_at hl 0 rfl) ?_
      refine va_get (D := (dC, dI)) (ci := 3) (v := .int (u.1 0)) (C := RX5) (T := TX5) (N := 17) hx hb hts i_X5 hown hK hP 0 rfl rfl 0 (by decide) f_7 (fun _ h9 => h9) rfl dX5_caughtOf_8 ?_
      refine lv_icmp_ge (tgt := 83) hx hb dX5_caughtOf_11 (by decide) (fun c_11 => ?_) (fun c_11 => ?_)
      · have h := br1 h c_11
        exact hK_5 _ h _ (lv_sub hl [3] rfl)
      · have h := br2 h c_11
        refine lv_iconst (v := 0) hx hb dX5_caughtOf_14 (by decide) ?_
        refine lv_istore (lv' := [(5, .int (0 : Int32)), (0, .ref m0), (1, .int x1), (2, .int x2), (3, .int v3_1), (4, .int v4_2)]) hx hb dX5_caughtOf_15 hl (by decide) rfl (fun ls hl => ?_)
        obtain ⟨K_17, hKi_17, h⟩ := jnE1 h
        have hK_17 : ∀ (v3_8 : Int32), K_17 v3_8 → ∀ (ls : Array Slot), lv_has ls 6 [(0, .ref m0), (1, .int x1), (2, .int x2), (3, .int v3_8), (4, .int v4_2)] → W p l e (headSpec wsX5_caughtOf ({ frames := 0, cells := 0, slots := 0, locals := 0 } : Room)).room s m ([.ref m0, .int x1, .int x2] : List Value).toArray below meth c s.heap [] 0 0 (MQ below (vp_Si post) ([.ref m0, .int x1, .int x2] : List Value).toArray s 0 0 (fun _ => False)) (F0 m 77 ls []) := by
          intro v3_8 h ls hl
          have h := hKi_17 _ h
          obtain ⟨y_9, ey_9⟩ : ∃ z : Int32, z = v4_2 + (1 : Int32) := ⟨_, rfl⟩
          have h := h y_9 ey_9
          refine lv_iinc (v := y_9) (lv' := [(4, .int y_9), (0, .ref m0), (1, .int x1), (2, .int x2), (3, .int v3_8)]) hx hb dX5_caughtOf_77 hl (k := 4) rfl (by rw [ey_9]; rfl) (by decide) rfl (fun ls hl => ?_)
          refine lv_goto (tgt := 5) hx hb dX5_caughtOf_80 (by decide) ?_
          exact ih_5 _ _ h _ (lv_sub hl [1, 2, 3, 4, 0] rfl)
        obtain ⟨n, h⟩ := h
        have loop_17 : ∀ (n : Nat) (v3_3 : Int32) (v5_4 : Int32), L_X5_caughtOf_17 post K_17 u x1 x2 v4_2 n v3_3 v5_4 → ∀ (ls : Array Slot), lv_has ls 6 [(0, .ref m0), (1, .int x1), (2, .int x2), (3, .int v3_3), (4, .int v4_2), (5, .int v5_4)] → W p l e (headSpec wsX5_caughtOf ({ frames := 0, cells := 0, slots := 0, locals := 0 } : Room)).room s m ([.ref m0, .int x1, .int x2] : List Value).toArray below meth c s.heap [] 0 0 (MQ below (vp_Si post) ([.ref m0, .int x1, .int x2] : List Value).toArray s 0 0 (fun _ => False)) (F0 m 17 ls []) := by
          intro n
          induction n with
          | zero => intro v3_3 v5_4 h; rw [L_X5_caughtOf_17] at h; exact h.elim
          | succ n ih_17 =>
            intro v3_3 v5_4 h ls hl
            rw [L_X5_caughtOf_17] at h
            refine lv_iload hx hb dX5_caughtOf_17 (lv_at hl 5 rfl) ?_
            refine lv_aload_n hx hb dX5_caughtOf_19 rfl (lv_at hl 0 rfl) ?_
            refine va_get (D := (dC, dI)) (ci := 3) (v := .int (u.1 1)) (C := RX5) (T := TX5) (N := 17) hx hb hts i_X5 hown hK hP 0 rfl rfl 1 (by decide) f_13 (fun _ h9 => h9) rfl dX5_caughtOf_20 ?_
            refine lv_icmp_ge (tgt := 77) hx hb dX5_caughtOf_23 (by decide) (fun c_23 => ?_) (fun c_23 => ?_)
            · have h := br1 h c_23
              exact hK_17 _ h _ (lv_sub hl [0, 1, 2, 3, 4] rfl)
            · have h := br2 h c_23
              refine lv_iload_n hx hb dX5_caughtOf_26 rfl (lv_at hl 3 rfl) ?_
              refine lv_iload_n hx hb dX5_caughtOf_27 rfl (lv_at hl 1 rfl) ?_
              refine lv_iload hx hb dX5_caughtOf_28 (lv_at hl 4 rfl) ?_
              refine lv_ishr hx hb dX5_caughtOf_30 ?_
              refine lv_iconst (v := 1) hx hb dX5_caughtOf_31 (by decide) ?_
              refine lv_iand hx hb dX5_caughtOf_32 ?_
              refine lv_iconst (v := 1) hx hb dX5_caughtOf_33 (by decide) ?_
              obtain ⟨J_69, hJi_69, h⟩ := jnE1 h
              have hJ_69 : ∀ (w_5 : Int32), J_69 w_5 → ∀ (ls : Array Slot), lv_has ls 6 [(0, .ref m0), (1, .int x1), (2, .int x2), (4, .int v4_2), (5, .int v5_4)] → W p l e (headSpec wsX5_caughtOf ({ frames := 0, cells := 0, slots := 0, locals := 0 } : Room)).room s m ([.ref m0, .int x1, .int x2] : List Value).toArray below meth c s.heap [] 0 0 (MQ below (vp_Si post) ([.ref m0, .int x1, .int x2] : List Value).toArray s 0 0 (fun _ => False)) (F0 m 69 ls [.int w_5, .int v3_3]) := by
                intro w_5 h ls hl
                have h := hJi_69 _ h
                refine lv_iadd hx hb dX5_caughtOf_69 ?_
                refine lv_topi (fun y_6 ey_6 => ?_)
                have h := h y_6 ey_6
                refine lv_istore_n (lv' := [(3, .int y_6), (0, .ref m0), (1, .int x1), (2, .int x2), (4, .int v4_2), (5, .int v5_4)]) hx hb dX5_caughtOf_70 rfl hl (by decide) rfl (fun ls hl => ?_)
                obtain ⟨y_7, ey_7⟩ : ∃ z : Int32, z = v5_4 + (1 : Int32) := ⟨_, rfl⟩
                have h := h y_7 ey_7
                refine lv_iinc (v := y_7) (lv' := [(5, .int y_7), (3, .int y_6), (0, .ref m0), (1, .int x1), (2, .int x2), (4, .int v4_2)]) hx hb dX5_caughtOf_71 hl (k := 5) rfl (by rw [ey_7]; rfl) (by decide) rfl (fun ls hl => ?_)
                refine lv_goto (tgt := 17) hx hb dX5_caughtOf_74 (by decide) ?_
                exact ih_17 _ _ h _ (lv_sub hl [2, 3, 4, 1, 5, 0] rfl)
              obtain ⟨J_68, hJi_68, h⟩ := jnE0 h
              have hJ_68 : J_68 → ∀ (ls : Array Slot), lv_has ls 6 [(0, .ref m0), (1, .int x1), (2, .int x2), (4, .int v4_2), (5, .int v5_4)] → W p l e (headSpec wsX5_caughtOf ({ frames := 0, cells := 0, slots := 0, locals := 0 } : Room)).room s m ([.ref m0, .int x1, .int x2] : List Value).toArray below meth c s.heap [] 0 0 (MQ below (vp_Si post) ([.ref m0, .int x1, .int x2] : List Value).toArray s 0 0 (fun _ => False)) (F0 m 68 ls [.int v3_3]) := by
                intro  h ls hl
                have h := hJi_68 h
                refine lv_iconst (v := 0) hx hb dX5_caughtOf_68 (by decide) ?_
                exact hJ_69 _ h _ (lv_sub hl [0, 1, 2, 3, 4] rfl)
              refine lv_icmp_ne (tgt := 68) hx hb dX5_caughtOf_34 (by decide) (fun c_34 => ?_) (fun c_34 => ?_)
              · have h := br2 h c_34
                exact hJ_68 h _ (lv_sub hl [0, 1, 2, 4, 5] rfl)
              · have h := br1 h c_34
                refine lv_iload_n hx hb dX5_caughtOf_37 rfl (lv_at hl 2 rfl) ?_
                refine lv_iload hx hb dX5_caughtOf_38 (lv_at hl 5 rfl) ?_
                refine lv_ishr hx hb dX5_caughtOf_40 ?_
                refine lv_iconst (v := 1) hx hb dX5_caughtOf_41 (by decide) ?_
                refine lv_iand hx hb dX5_caughtOf_42 ?_
                refine lv_iconst (v := 1) hx hb dX5_caughtOf_43 (by decide) ?_
                refine lv_icmp_ne (tgt := 68) hx hb dX5_caughtOf_44 (by decide) (fun c_44 => ?_) (fun c_44 => ?_)
                · have h := br2 h c_44
                  exact hJ_68 h _ (lv_sub hl [0, 1, 2, 4, 5] rfl)
                · have h := br1 h c_44
                  refine lv_aload_n hx hb dX5_caughtOf_47 rfl (lv_at hl 0 rfl) ?_
                  refine va_get (D := (dC, dI)) (ci := 3) (v := .ref m7) (C := RX5) (T := TX5) (N := 17) hx hb hts i_X5 hown hK hP 0 rfl rfl 12 (by decide) f_39 (fun _ h9 => h9) rfl dX5_caughtOf_48 ?_
                  refine lv_bipush (v := 8) hx hb dX5_caughtOf_51 (by decide) ?_
                  refine lv_iload hx hb dX5_caughtOf_53 (lv_at hl 4 rfl) ?_
                  refine lv_imul hx hb dX5_caughtOf_55 ?_
                  refine lv_iload hx hb dX5_caughtOf_56 (lv_at hl 5 rfl) ?_
                  refine lv_iadd hx hb dX5_caughtOf_58 ?_
                  obtain ⟨hi, h⟩ := h
                  refine va_iald hx hb hK hP 7 0 rfl rfl hi dX5_caughtOf_59 ?_
                  refine lv_iconst (v := 1) hx hb dX5_caughtOf_60 (by decide) ?_
                  refine lv_icmp_le (tgt := 68) hx hb dX5_caughtOf_61 (by decide) (fun c_61 => ?_) (fun c_61 => ?_)
                  · have h := br1 h c_61
                    exact hJ_68 h _ (lv_sub hl [0, 1, 2, 4, 5] rfl)
                  · have h := br2 h c_61
                    refine lv_iconst (v := 1) hx hb dX5_caughtOf_64 (by decide) ?_
                    refine lv_goto (tgt := 69) hx hb dX5_caughtOf_65 (by decide) ?_
                    exact hJ_69 _ h _ (lv_sub hl [0, 1, 2, 4, 5] rfl)
        exact loop_17 n _ _ h _ (lv_sub hl [1, 2, 3, 4, 5, 0] rfl)
  exact loop_5 n _ _ h _ (lv_sub hl [2, 3, 4, 1, 0] rfl)
set_option maxHeartbeats 4000000 in
set_option maxRecDepth 100000 in
theorem c_X5_lookAtColumns (l : Launch) (dC : Nat → ClassId) (dI : Nat → Nat → Nat) (m0 m1 m2 m3 m4 m5 m6 m7 m8 m9 : Nat) (cI cZ : ClassId) (sz : Nat) {u : St} {post : St → Prop} (h : P_X5_lookAtColumns u post) : Met l yX5_lookAtColumns wsX5_lookAtColumns ({ frames := 2, cells := 0, slots := 0, locals := 47 } : Room) (MPre (dC, dI) vwCl (wM m0 m1 m2 m3 m4 m5 m6 m7 m8 m9 cI cZ u) [(cI, .int), (cZ, .boolean)] sz [.ref m0]) (va_Qv post (fun (u2 : St) (t : State) => va_P (dC, dI) vwCl (wM m0 m1 m2 m3 m4 m5 m6 m7 m8 m9 cI cZ u2) t.heap) (va_A (wM m0 m1 m2 m3 m4 m5 m6 m7 m8 m9 cI cZ u) sz)) 0 0 (va_A (wM m0 m1 m2 m3 m4 m5 m6 m7 m8 m9 cI cZ u) sz) := by
  refine Met.ofW (cc := cX5_lookAtColumns) (maxL := 3) (ret := none) (by decide) rfl ?_
  intro p e s m args below meth c s₁ B hml hv
  obtain ⟨rfl, hsz, hP, hK, hD0⟩ := hv
  have hx := B.exec
  have hb := B.bytes
  have hr := B.returns
  have hts := atoms_spec (ws := wsX5_lookAtColumns) B.pre
  have hown : s.vm.findClass RX5 = some m.cls := findClass_of_methodNamed B.named
  have hlocks := B.notSynchronized
  subst hsz
  have hD1 := hD0.self (sz := s.heap.size)
  generalize hAe : va_A (wM m0 m1 m2 m3 m4 m5 m6 m7 m8 m9 cI cZ u) s.heap.size = A at hD1 ⊢
  have hA : ∀ q : Nat, s.heap.size ≤ q → A q := fun q h => by rw [← hAe]; exact Or.inr h
  have hD : ∀ z, va_D A (wM m0 m1 m2 m3 m4 m5 m6 m7 m8 m9 cI cZ z) := fun z => va_Dsame hD1 rfl
  have hS : va_S A s.heap s.heap [] := va_S.rf
  have hl := lv_entry ([.ref m0]) (n := 3) (Nat.le_of_ble_eq_true rfl)
  rw [lg_entry_eq]
  generalize (lg_sl ([.ref m0]) ++ List.replicate (3 - (lg_sl ([.ref m0])).length) Slot.unset).toArray = ls at hl ⊢
  have hl : lv_has ls 3 [(0, .ref m0)] := hl
  have i_X5 : ∀ w ∈ u_ws RX5 TX5 17, w ∈ wsX5_lookAtColumns := by decide +kernel
  have f_7 := hts (.fieldLink RX5 7 "SliceBodyModel" "wideX" "I") (by decide +kernel)
  have f_13 := hts (.fieldLink RX5 13 "SliceBodyModel" "wideY" "I") (by decide +kernel)
  have f_36 := hts (.fieldLink RX5 36 "SliceBodyModel" "column" "[I") (by decide +kernel)
  have f_39 := hts (.fieldLink RX5 39 "SliceBodyModel" "runsIn" "[I") (by decide +kernel)
  unfold P_X5_lookAtColumns at h
  refine lv_iconst (v := 0) hx hb dX5_lookAtColumns_0 (by decide) ?_
  refine lv_istore_n (lv' := [(1, .int (0 : Int32)), (0, .ref m0)]) hx hb dX5_lookAtColumns_1 rfl hl (by decide) rfl (fun ls hl => ?_)
  obtain ⟨K_2, hKi_2, h⟩ := jnE1 h
  have hK_2 : ∀ (u_13 : St), K_2 u_13 → ∀ (H : Heap) (locs : List Loc), va_P (dC, dI) vwCl (wM m0 m1 m2 m3 m4 m5 m6 m7 m8 m9 cI cZ u_13) H → va_S A s.heap H locs → ∀ (ls : Array Slot), lv_has ls 3 [] → W p l e (headSpec wsX5_lookAtColumns ({ frames := 2, cells := 0, slots := 0, locals := 47 } : Room)).room s m ([.ref m0] : List Value).toArray below meth c H locs 0 0 (MQ below (va_Qv post (fun (u2 : St) (t : State) => va_P (dC, dI) vwCl (wM m0 m1 m2 m3 m4 m5 m6 m7 m8 m9 cI cZ u2) t.heap) A) ([.ref m0] : List Value).toArray s 0 0 A) (F0 m 66 ls []) := by
    intro u_13 h H locs hP hS ls hl
    have h := hKi_2 _ h
    exact W.vret hx hb hr (fun t ht _ => ⟨⟨u_13, rfl, h, hPr ht hP⟩, hS.F ht⟩) hS.2.2 dX5_lookAtColumns_66
  obtain ⟨n, h⟩ := h
  have loop_2 : ∀ (n : Nat) (v1_1 : Int32) (u_2 : St), L_X5_lookAtColumns_2 post K_2 n v1_1 u_2 → ∀ (H : Heap) (locs : List Loc), va_P (dC, dI) vwCl (wM m0 m1 m2 m3 m4 m5 m6 m7 m8 m9 cI cZ u_2) H → va_S A s.heap H locs → ∀ (ls : Array Slot), lv_has ls 3 [(0, .ref m0), (1, .int v1_1)] → W p l e (headSpec wsX5_lookAtColumns ({ frames := 2, cells := 0, slots := 0, locals := 47 } : Room)).room s m ([.ref m0] : List Value).toArray below meth c H locs 0 0 (MQ below (va_Qv post (fun (u2 : St) (t : State) => va_P (dC, dI) vwCl (wM m0 m1 m2 m3 m4 m5 m6 m7 m8 m9 cI cZ u2) t.heap) A) ([.ref m0] : List Value).toArray s 0 0 A) (F0 m 2 ls []) := by
    intro n
    induction n with
    | zero => intro v1_1 u_2 h; rw [L_X5_lookAtColumns_2] at h; exact h.elim
    | succ n ih_2 =>
      intro v1_1 u_2 h H locs hP hS ls hl
      rw [L_X5_lookAtColumns_2] at h
      refine lv_iload_n hx hb dX5_lookAtColumns_2 rfl (lv_at hl 1 rfl) ?_
      refine lv_aload_n hx hb dX5_lookAtColumns_3 rfl (lv_at hl 0 rfl) ?_
      refine va_get (D := (dC, dI)) (ci := 3) (v := .int (u_2.1 0)) (C := RX5) (T := TX5) (N := 17) hx hb hts i_X5 hown hK hP 0 rfl rfl 0 (by decide) f_7 (fun _ h9 => h9) rfl dX5_lookAtColumns_4 ?_
      refine lv_icmp_ge (tgt := 66) hx hb dX5_lookAtColumns_7 (by decide) (fun c_7 => ?_) (fun c_7 => ?_)
      · have h := br1 h c_7
        exact hK_2 _ h _ _ hP hS _ (lv_sub hl [] rfl)
      · have h := br2 h c_7
        refine lv_iconst (v := 0) hx hb dX5_lookAtColumns_10 (by decide) ?_
        refine lv_istore_n (lv' := [(2, .int (0 : Int32)), (0, .ref m0), (1, .int v1_1)]) hx hb dX5_lookAtColumns_11 rfl hl (by decide) rfl (fun ls hl => ?_)
        obtain ⟨K_12, hKi_12, h⟩ := jnE1 h
        have hK_12 : ∀ (u_11 : St), K_12 u_11 → ∀ (H : Heap) (locs : List Loc), va_P (dC, dI) vwCl (wM m0 m1 m2 m3 m4 m5 m6 m7 m8 m9 cI cZ u_11) H → va_S A s.heap H locs → ∀ (ls : Array Slot), lv_has ls 3 [(0, .ref m0), (1, .int v1_1)] → W p l e (headSpec wsX5_lookAtColumns ({ frames := 2, cells := 0, slots := 0, locals := 47 } : Room)).room s m ([.ref m0] : List Value).toArray below meth c H locs 0 0 (MQ below (va_Qv post (fun (u2 : St) (t : State) => va_P (dC, dI) vwCl (wM m0 m1 m2 m3 m4 m5 m6 m7 m8 m9 cI cZ u2) t.heap) A) ([.ref m0] : List Value).toArray s 0 0 A) (F0 m 60 ls []) := by
          intro u_11 h H locs hP hS ls hl
          have h := hKi_12 _ h
          obtain ⟨y_12, ey_12⟩ : ∃ z : Int32, z = v1_1 + (1 : Int32) := ⟨_, rfl⟩
          have h := h y_12 ey_12
          refine lv_iinc (v := y_12) (lv' := [(1, .int y_12), (0, .ref m0)]) hx hb dX5_lookAtColumns_60 hl (k := 1) rfl (by rw [ey_12]; rfl) (by decide) rfl (fun ls hl => ?_)
          refine lv_goto (tgt := 2) hx hb dX5_lookAtColumns_63 (by decide) ?_
          exact ih_2 _ _ h _ _ hP hS _ (lv_sub hl [1, 0] rfl)
        obtain ⟨n, h⟩ := h
        have loop_12 : ∀ (n : Nat) (v2_3 : Int32) (u_4 : St), L_X5_lookAtColumns_12 post K_12 v1_1 n v2_3 u_4 → ∀ (H : Heap) (locs : List Loc), va_P (dC, dI) vwCl (wM m0 m1 m2 m3 m4 m5 m6 m7 m8 m9 cI cZ u_4) H → va_S A s.heap H locs → ∀ (ls : Array Slot), lv_has ls 3 [(0, .ref m0), (1, .int v1_1), (2, .int v2_3)] → W p l e (headSpec wsX5_lookAtColumns ({ frames := 2, cells := 0, slots := 0, locals := 47 } : Room)).room s m ([.ref m0] : List Value).toArray below meth c H locs 0 0 (MQ below (va_Qv post (fun (u2 : St) (t : State) => va_P (dC, dI) vwCl (wM m0 m1 m2 m3 m4 m5 m6 m7 m8 m9 cI cZ u2) t.heap) A) ([.ref m0] : List Value).toArray s 0 0 A) (F0 m 12 ls []) := by
          intro n
          induction n with
          | zero => intro v2_3 u_4 h; rw [L_X5_lookAtColumns_12] at h; exact h.elim
          | succ n ih_12 =>
            intro v2_3 u_4 h H locs hP hS ls hl
            rw [L_X5_lookAtColumns_12] at h
            refine lv_iload_n hx hb dX5_lookAtColumns_12 rfl (lv_at hl 2 rfl) ?_
            refine lv_aload_n hx hb dX5_lookAtColumns_13 rfl (lv_at hl 0 rfl) ?_
            refine va_get (D := (dC, dI)) (ci := 3) (v := .int (u_4.1 1)) (C := RX5) (T := TX5) (N := 17) hx hb hts i_X5 hown hK hP 0 rfl rfl 1 (by decide) f_13 (fun _ h9 => h9) rfl dX5_lookAtColumns_14 ?_
            refine lv_icmp_ge (tgt := 60) hx hb dX5_lookAtColumns_17 (by decide) (fun c_17 => ?_) (fun c_17 => ?_)
            · have h := br1 h c_17
              exact hK_12 _ h _ _ hP hS _ (lv_sub hl [0, 1] rfl)
            · have h := br2 h c_17
              refine lv_aload_n hx hb dX5_lookAtColumns_20 rfl (lv_at hl 0 rfl) ?_
              refine va_get (D := (dC, dI)) (ci := 3) (v := .ref m6) (C := RX5) (T := TX5) (N := 17) hx hb hts i_X5 hown hK hP 0 rfl rfl 11 (by decide) f_36 (fun _ h9 => h9) rfl dX5_lookAtColumns_21 ?_
              refine lv_bipush (v := 8) hx hb dX5_lookAtColumns_24 (by decide) ?_
              refine lv_iload_n hx hb dX5_lookAtColumns_26 rfl (lv_at hl 1 rfl) ?_
              refine lv_imul hx hb dX5_lookAtColumns_27 ?_
              refine lv_iload_n hx hb dX5_lookAtColumns_28 rfl (lv_at hl 2 rfl) ?_
              refine lv_iadd hx hb dX5_lookAtColumns_29 ?_
              refine lv_aload_n hx hb dX5_lookAtColumns_30 rfl (lv_at hl 0 rfl) ?_
              refine lv_iload_n hx hb dX5_lookAtColumns_31 rfl (lv_at hl 1 rfl) ?_
              refine lv_iload_n hx hb dX5_lookAtColumns_32 rfl (lv_at hl 2 rfl) ?_
              refine vp_callSi (W.runV (As := [.int _, .int _]) (rest := [.int _, .ref m6]) ⟨hx, hb, hml, hown, hts⟩ (c_X5_highOf l dC dI m0 m1 m2 m3 m4 m5 m6 m7 m8 m9 cI cZ h) (cwV 2 hts gX5_lookAtColumns_X5_highOf rfl rfl rfl (by decide +kernel) ⟨Nat.le_of_ble_eq_true rfl, Nat.le_of_ble_eq_true rfl⟩) ⟨fbR, va_recv hK hP (ci := 3) (q0 := 0) rfl rfl, fun U hU hW => ⟨rfl, by rw [hU]; exact hP, va_K.moved hW.alike hK⟩⟩ rfl rfl hl.1 rfl (lv_room (Nat.le_of_ble_eq_true rfl)) dX5_lookAtColumns_33 ⟨Nat.zero_le _, Nat.zero_le _⟩) (fun r_5 h => ?_)
              obtain ⟨hi, h⟩ := h
              refine va_iast hx hb hK hP (hD _) hS 6 0 rfl rfl hi dX5_lookAtColumns_36 (fun H locs hP _ hS => ?_)
              obtain ⟨u_6, eu_6⟩ : ∃ z : St, z = (u_4.1, va_up u_4.2 11 (upd (u_4.2 11) (((8 : Int32) * v1_1) + v2_3).toNatClampNeg r_5)) := ⟨_, rfl⟩
              have h := h u_6 eu_6
              have hP : va_P (dC, dI) vwCl (wM m0 m1 m2 m3 m4 m5 m6 m7 m8 m9 cI cZ u_6) H := by rw [eu_6]; exact hP
              refine lv_aload_n hx hb dX5_lookAtColumns_37 rfl (lv_at hl 0 rfl) ?_
              refine va_get (D := (dC, dI)) (ci := 3) (v := .ref m7) (C := RX5) (T := TX5) (N := 17) hx hb hts i_X5 hown hK hP 0 rfl rfl 12 (by decide) f_39 (fun _ h9 => h9) rfl dX5_lookAtColumns_38 ?_
              refine lv_bipush (v := 8) hx hb dX5_lookAtColumns_41 (by decide) ?_
              refine lv_iload_n hx hb dX5_lookAtColumns_43 rfl (lv_at hl 1 rfl) ?_
              refine lv_imul hx hb dX5_lookAtColumns_44 ?_
              refine lv_iload_n hx hb dX5_lookAtColumns_45 rfl (lv_at hl 2 rfl) ?_
              refine lv_iadd hx hb dX5_lookAtColumns_46 ?_
              refine lv_aload_n hx hb dX5_lookAtColumns_47 rfl (lv_at hl 0 rfl) ?_
              refine lv_iload_n hx hb dX5_lookAtColumns_48 rfl (lv_at hl 1 rfl) ?_
              refine lv_iload_n hx hb dX5_lookAtColumns_49 rfl (lv_at hl 2 rfl) ?_
              have hFc := fr_all (ws := wM m0 m1 m2 m3 m4 m5 m6 m7 m8 m9 cI cZ u_6) (hD u_6) hS hA
              refine va_calli (va_runV (As := [.int _, .int _]) (rest := [.int _, .ref m7]) ⟨hx, hb, hml, hown, hts⟩ (c_X5_findRuns l dC dI m0 m1 m2 m3 m4 m5 m6 m7 m8 m9 cI cZ (H).size h) (cwV 2 hts gX5_lookAtColumns_X5_findRuns rfl rfl rfl (by decide +kernel) ⟨Nat.le_of_ble_eq_true rfl, Nat.le_of_ble_eq_true rfl⟩) ⟨fbM, va_recv hK hP (ci := 3) (q0 := 0) rfl rfl, fun U hU hW => ⟨rfl, by rw [hU], by rw [hU]; exact hP, va_K.moved hW.alike hK, (hD u_6).weaken (fun _ _ _ _ => trivial)⟩⟩ rfl rfl hl.1 rfl (lv_room (Nat.le_of_ble_eq_true rfl)) dX5_lookAtColumns_50 ⟨Nat.zero_le _, Nat.zero_le _⟩) hS (fun q _ h => hFc q h) hFc (fun r_7 u_8 t H locs ht _ h hP1 _ hk1 hS => ?_)
              have hP : va_P (dC, dI) vwCl (wM m0 m1 m2 m3 m4 m5 m6 m7 m8 m9 cI cZ u_8) H := by rw [← ht]; exact hP1
              obtain ⟨hi, h⟩ := h
              refine va_iast hx hb hK hP (hD _) hS 7 0 rfl rfl hi dX5_lookAtColumns_53 (fun H locs hP _ hS => ?_)
              obtain ⟨u_9, eu_9⟩ : ∃ z : St, z = (u_8.1, va_up u_8.2 12 (upd (u_8.2 12) (((8 : Int32) * v1_1) + v2_3).toNatClampNeg r_7)) := ⟨_, rfl⟩
              have h := h u_9 eu_9
              have hP : va_P (dC, dI) vwCl (wM m0 m1 m2 m3 m4 m5 m6 m7 m8 m9 cI cZ u_9) H := by rw [eu_9]; exact hP
              obtain ⟨y_10, ey_10⟩ : ∃ z : Int32, z = v2_3 + (1 : Int32) := ⟨_, rfl⟩
              have h := h y_10 ey_10
              refine lv_iinc (v := y_10) (lv' := [(2, .int y_10), (0, .ref m0), (1, .int v1_1)]) hx hb dX5_lookAtColumns_54 hl (k := 2) rfl (by rw [ey_10]; rfl) (by decide) rfl (fun ls hl => ?_)
              refine lv_goto (tgt := 12) hx hb dX5_lookAtColumns_57 (by decide) ?_
              exact ih_12 _ _ h _ _ hP hS _ (lv_sub hl [1, 2, 0] rfl)
        exact loop_12 n _ _ h _ _ hP hS _ (lv_sub hl [1, 2, 0] rfl)
  exact loop_2 n _ _ h _ _ hP hS _ (lv_sub hl [1, 0] rfl)
set_option maxHeartbeats 4000000 in
set_option maxRecDepth 100000 in
theorem c_X5_cover (l : Launch) (dC : Nat → ClassId) (dI : Nat → Nat → Nat) (m0 m1 m2 m3 m4 m5 m6 m7 m8 m9 : Nat) (cI cZ : ClassId) (sz : Nat) {u : St} {post : Int32 → St → Prop} (h : P_X5_cover u post) : Met l yX5_cover wsX5_cover ({ frames := 3, cells := 0, slots := 0, locals := 69 } : Room) (MPre (dC, dI) vwCl (wM m0 m1 m2 m3 m4 m5 m6 m7 m8 m9 cI cZ u) [(cI, .int), (cZ, .boolean)] sz [.ref m0]) (va_Qi post (fun (u2 : St) (t : State) => va_P (dC, dI) vwCl (wM m0 m1 m2 m3 m4 m5 m6 m7 m8 m9 cI cZ u2) t.heap) (va_A (wM m0 m1 m2 m3 m4 m5 m6 m7 m8 m9 cI cZ u) sz)) 0 0 (va_A (wM m0 m1 m2 m3 m4 m5 m6 m7 m8 m9 cI cZ u) sz) := by
  refine Met.ofW (cc := cX5_cover) (maxL := 1) (ret := (some .int)) (by decide) rfl ?_
  intro p e s m args below meth c s₁ B hml hv
  obtain ⟨rfl, hsz, hP, hK, hD0⟩ := hv
  have hx := B.exec
  have hb := B.bytes
  have hr := B.returns
  have hts := atoms_spec (ws := wsX5_cover) B.pre
  have hown : s.vm.findClass RX5 = some m.cls := findClass_of_methodNamed B.named
  have hlocks := B.notSynchronized
  subst hsz
  have hD1 := hD0.self (sz := s.heap.size)
  generalize hAe : va_A (wM m0 m1 m2 m3 m4 m5 m6 m7 m8 m9 cI cZ u) s.heap.size = A at hD1 ⊢
  have hA : ∀ q : Nat, s.heap.size ≤ q → A q := fun q h => by rw [← hAe]; exact Or.inr h
  have hD : ∀ z, va_D A (wM m0 m1 m2 m3 m4 m5 m6 m7 m8 m9 cI cZ z) := fun z => va_Dsame hD1 rfl
  have hS : va_S A s.heap s.heap [] := va_S.rf
  have hl := lv_entry ([.ref m0]) (n := 1) (Nat.le_of_ble_eq_true rfl)
  rw [lg_entry_eq]
  generalize (lg_sl ([.ref m0]) ++ List.replicate (1 - (lg_sl ([.ref m0])).length) Slot.unset).toArray = ls at hl ⊢
  have hl : lv_has ls 1 [(0, .ref m0)] := hl
  have i_X5 : ∀ w ∈ u_ws RX5 TX5 17, w ∈ wsX5_cover := by decide +kernel
  have f_23 := hts (.fieldLink RX5 23 "SliceBodyModel" "chosen" "[I") (by decide +kernel)
  unfold P_X5_cover at h
  refine lv_aload_n hx hb dX5_cover_0 rfl (lv_at hl 0 rfl) ?_
  have hFc := fr_all (ws := wM m0 m1 m2 m3 m4 m5 m6 m7 m8 m9 cI cZ u) (hD u) hS hA
  refine va_callv (va_runV (As := []) (rest := []) ⟨hx, hb, hml, hown, hts⟩ (c_X5_lookAtColumns l dC dI m0 m1 m2 m3 m4 m5 m6 m7 m8 m9 cI cZ (s.heap).size h) (cwV 0 hts gX5_cover_X5_lookAtColumns rfl rfl rfl (by decide +kernel) ⟨Nat.le_of_ble_eq_true rfl, Nat.le_of_ble_eq_true rfl⟩) ⟨fbM, va_recv hK hP (ci := 3) (q0 := 0) rfl rfl, fun U hU hW => ⟨rfl, by rw [hU], by rw [hU]; exact hP, va_K.moved hW.alike hK, (hD u).weaken (fun _ _ _ _ => trivial)⟩⟩ rfl rfl hl.1 rfl (lv_room (Nat.le_of_ble_eq_true rfl)) dX5_cover_1 ⟨Nat.zero_le _, Nat.zero_le _⟩) hS (fun q _ h => hFc q h) hFc (fun u_2 t H locs ht _ h hP1 _ hk1 hS => ?_)
  have hP : va_P (dC, dI) vwCl (wM m0 m1 m2 m3 m4 m5 m6 m7 m8 m9 cI cZ u_2) H := by rw [← ht]; exact hP1
  refine lv_aload_n hx hb dX5_cover_4 rfl (lv_at hl 0 rfl) ?_
  refine lv_aload_n hx hb dX5_cover_5 rfl (lv_at hl 0 rfl) ?_
  refine va_get (D := (dC, dI)) (ci := 3) (v := .ref m2) (C := RX5) (T := TX5) (N := 17) hx hb hts i_X5 hown hK hP 0 rfl rfl 4 (by decide) f_23 (fun _ h9 => h9) rfl dX5_cover_6 ?_
  refine lv_iconst (v := 0) hx hb dX5_cover_9 (by decide) ?_
  obtain ⟨hi, h⟩ := h
  refine va_iald hx hb hK hP 2 0 rfl rfl hi dX5_cover_10 ?_
  refine lv_aload_n hx hb dX5_cover_11 rfl (lv_at hl 0 rfl) ?_
  refine va_get (D := (dC, dI)) (ci := 3) (v := .ref m2) (C := RX5) (T := TX5) (N := 17) hx hb hts i_X5 hown hK hP 0 rfl rfl 4 (by decide) f_23 (fun _ h9 => h9) rfl dX5_cover_12 ?_
  refine lv_iconst (v := 1) hx hb dX5_cover_15 (by decide) ?_
  obtain ⟨hi, h⟩ := h
  refine va_iald hx hb hK hP 2 0 rfl rfl hi dX5_cover_16 ?_
  refine vp_callSi (W.runV (As := [.int _, .int _]) (rest := []) ⟨hx, hb, hml, hown, hts⟩ (c_X5_coverOf l dC dI m0 m1 m2 m3 m4 m5 m6 m7 m8 m9 cI cZ h) (cwV 2 hts gX5_cover_X5_coverOf rfl rfl rfl (by decide +kernel) ⟨Nat.le_of_ble_eq_true rfl, Nat.le_of_ble_eq_true rfl⟩) ⟨fbR, va_recv hK hP (ci := 3) (q0 := 0) rfl rfl, fun U hU hW => ⟨rfl, by rw [hU]; exact hP, va_K.moved hW.alike hK⟩⟩ rfl rfl hl.1 rfl (lv_room (Nat.le_of_ble_eq_true rfl)) dX5_cover_17 ⟨Nat.zero_le _, Nat.zero_le _⟩) (fun r_3 h => ?_)
  exact W.iret hx hb hr (fun t ht _ => ⟨⟨_, u_2, rfl, h, hPr ht hP⟩, hS.F ht⟩) hS.2.2 dX5_cover_20
set_option maxHeartbeats 4000000 in
set_option maxRecDepth 100000 in
theorem c_X5_best (l : Launch) (dC : Nat → ClassId) (dI : Nat → Nat → Nat) (m0 m1 m2 m3 m4 m5 m6 m7 m8 m9 : Nat) (cI cZ : ClassId) (sz : Nat) {u : St} {x1 : Int32} {x2 : Int32} {post : Int32 → St → Prop} (h : P_X5_best u x1 x2 post) : Met l yX5_best wsX5_best ({ frames := 3, cells := 0, slots := 0, locals := 69 } : Room) (MPre (dC, dI) vwCl (wM m0 m1 m2 m3 m4 m5 m6 m7 m8 m9 cI cZ u) [(cI, .int), (cZ, .boolean)] sz [.ref m0, .int x1, .int x2]) (va_Qi post (fun (u2 : St) (t : State) => va_P (dC, dI) vwCl (wM m0 m1 m2 m3 m4 m5 m6 m7 m8 m9 cI cZ u2) t.heap) (va_A (wM m0 m1 m2 m3 m4 m5 m6 m7 m8 m9 cI cZ u) sz)) 0 0 (va_A (wM m0 m1 m2 m3 m4 m5 m6 m7 m8 m9 cI cZ u) sz) := by
  refine Met.ofW (cc := cX5_best) (maxL := 10) (ret := (some .int)) (by decide) rfl ?_
  intro p e s m args below meth c s₁ B hml hv
  obtain ⟨rfl, hsz, hP, hK, hD0⟩ := hv
  have hx := B.exec
  have hb := B.bytes
  have hr := B.returns
  have hts := atoms_spec (ws := wsX5_best) B.pre
  have hown : s.vm.findClass RX5 = some m.cls := findClass_of_methodNamed B.named
  have hlocks := B.notSynchronized
  subst hsz
  have hD1 := hD0.self (sz := s.heap.size)
  generalize hAe : va_A (wM m0 m1 m2 m3 m4 m5 m6 m7 m8 m9 cI cZ u) s.heap.size = A at hD1 ⊢
  have hA : ∀ q : Nat, s.heap.size ≤ q → A q := fun q h => by rw [← hAe]; exact Or.inr h
  have hD : ∀ z, va_D A (wM m0 m1 m2 m3 m4 m5 m6 m7 m8 m9 cI cZ z) := fun z => va_Dsame hD1 rfl
  have hS : va_S A s.heap s.heap [] := va_S.rf
  have hl := lv_entry ([.ref m0, .int x1, .int x2]) (n := 10) (Nat.le_of_ble_eq_true rfl)
  rw [lg_entry_eq]
  generalize (lg_sl ([.ref m0, .int x1, .int x2]) ++ List.replicate (10 - (lg_sl ([.ref m0, .int x1, .int x2])).length) Slot.unset).toArray = ls at hl ⊢
  have hl : lv_has ls 10 [(0, .ref m0), (1, .int x1), (2, .int x2)] := hl
  have i_X5 : ∀ w ∈ u_ws RX5 TX5 17, w ∈ wsX5_best := by decide +kernel
  have f_7 := hts (.fieldLink RX5 7 "SliceBodyModel" "wideX" "I") (by decide +kernel)
  have f_13 := hts (.fieldLink RX5 13 "SliceBodyModel" "wideY" "I") (by decide +kernel)
  have f_23 := hts (.fieldLink RX5 23 "SliceBodyModel" "chosen" "[I") (by decide +kernel)
  have f_54 := hts (.fieldLink RX5 54 "SliceBodyModel" "isLaid" "Z") (by decide +kernel)
  unfold P_X5_best at h
  refine lv_iload_n hx hb dX5_best_0 rfl (lv_at hl 1 rfl) ?_
  refine lv_i2l hx hb dX5_best_1 rfl ?_
  refine lv_lconst (v := 0) hx hb dX5_best_2 (by decide) ?_
  refine lv_aload_n hx hb dX5_best_3 rfl (lv_at hl 0 rfl) ?_
  refine va_get (D := (dC, dI)) (ci := 3) (v := .int (u.1 0)) (C := RX5) (T := TX5) (N := 17) hx hb hts i_X5 hown hK hP 0 rfl rfl 0 (by decide) f_7 (fun _ h9 => h9) rfl dX5_best_4 ?_
  refine lv_i2l hx hb dX5_best_7 rfl ?_
  refine vp_callSi (W.runS (As := [.long _, .long _, .long _]) (rest := []) ⟨hx, hb, hml, hown, hts⟩ (c_X5_in l h) (va_cwS 3 hts gX5_best_X5_in rfl rfl rfl (by decide +kernel) ⟨Nat.le_of_ble_eq_true rfl, Nat.le_of_ble_eq_true rfl⟩) ⟨fun _ _ _ _ q => q, fun _ _ _ => ⟨rfl, trivial⟩⟩ rfl rfl hl.1 rfl (lv_room (Nat.le_of_ble_eq_true rfl)) dX5_best_8 ⟨Nat.zero_le _, Nat.zero_le _⟩) (fun r_1 h => ?_)
  refine lv_if_eq (tgt := 28) hx hb dX5_best_11 (by decide) (fun c_11 => ?_) (fun c_11 => ?_)
  · have h := br1 h c_11
    refine lv_bipush (v := (-2)) hx hb dX5_best_28 (by decide) ?_
    exact W.iret hx hb hr (fun t ht _ => ⟨⟨_, u, rfl, h, hPr ht hP⟩, hS.F ht⟩) hS.2.2 dX5_best_30
  · have h := br2 h c_11
    refine lv_iload_n hx hb dX5_best_14 rfl (lv_at hl 2 rfl) ?_
    refine lv_i2l hx hb dX5_best_15 rfl ?_
    refine lv_lconst (v := 0) hx hb dX5_best_16 (by decide) ?_
    refine lv_aload_n hx hb dX5_best_17 rfl (lv_at hl 0 rfl) ?_
    refine va_get (D := (dC, dI)) (ci := 3) (v := .int (u.1 1)) (C := RX5) (T := TX5) (N := 17) hx hb hts i_X5 hown hK hP 0 rfl rfl 1 (by decide) f_13 (fun _ h9 => h9) rfl dX5_best_18 ?_
    refine lv_i2l hx hb dX5_best_21 rfl ?_
    refine vp_callSi (W.runS (As := [.long _, .long _, .long _]) (rest := []) ⟨hx, hb, hml, hown, hts⟩ (c_X5_in l h) (va_cwS 3 hts gX5_best_X5_in rfl rfl rfl (by decide +kernel) ⟨Nat.le_of_ble_eq_true rfl, Nat.le_of_ble_eq_true rfl⟩) ⟨fun _ _ _ _ q => q, fun _ _ _ => ⟨rfl, trivial⟩⟩ rfl rfl hl.1 rfl (lv_room (Nat.le_of_ble_eq_true rfl)) dX5_best_22 ⟨Nat.zero_le _, Nat.zero_le _⟩) (fun r_2 h => ?_)
    refine lv_if_ne (tgt := 31) hx hb dX5_best_25 (by decide) (fun c_25 => ?_) (fun c_25 => ?_)
    · have h := br2 h c_25
      refine lv_aload_n hx hb dX5_best_31 rfl (lv_at hl 0 rfl) ?_
      have hFc := fr_all (ws := wM m0 m1 m2 m3 m4 m5 m6 m7 m8 m9 cI cZ u) (hD u) hS hA
      refine va_callv (va_runV (As := []) (rest := []) ⟨hx, hb, hml, hown, hts⟩ (c_X5_lookAtColumns l dC dI m0 m1 m2 m3 m4 m5 m6 m7 m8 m9 cI cZ (s.heap).size h) (cwV 0 hts gX5_best_X5_lookAtColumns rfl rfl rfl (by decide +kernel) ⟨Nat.le_of_ble_eq_true rfl, Nat.le_of_ble_eq_true rfl⟩) ⟨fbM, va_recv hK hP (ci := 3) (q0 := 0) rfl rfl, fun U hU hW => ⟨rfl, by rw [hU], by rw [hU]; exact hP, va_K.moved hW.alike hK, (hD u).weaken (fun _ _ _ _ => trivial)⟩⟩ rfl rfl hl.1 rfl (lv_room (Nat.le_of_ble_eq_true rfl)) dX5_best_32 ⟨Nat.zero_le _, Nat.zero_le _⟩) hS (fun q _ h => hFc q h) hFc (fun u_4 t H locs ht _ h hP1 _ hk1 hS => ?_)
      have hP : va_P (dC, dI) vwCl (wM m0 m1 m2 m3 m4 m5 m6 m7 m8 m9 cI cZ u_4) H := by rw [← ht]; exact hP1
      refine lv_iconst (v := (-1)) hx hb dX5_best_35 (by decide) ?_
      refine lv_istore_n (lv' := [(3, .int (-1 : Int32)), (0, .ref m0), (1, .int x1), (2, .int x2)]) hx hb dX5_best_36 rfl hl (by decide) rfl (fun ls hl => ?_)
      refine lv_iconst (v := 0) hx hb dX5_best_37 (by decide) ?_
      refine lv_istore (lv' := [(4, .int (0 : Int32)), (3, .int (-1 : Int32)), (0, .ref m0), (1, .int x1), (2, .int x2)]) hx hb dX5_best_38 hl (by decide) rfl (fun ls hl => ?_)
      refine lv_iconst (v := 0) hx hb dX5_best_40 (by decide) ?_
      refine lv_istore (lv' := [(5, .int (0 : Int32)), (4, .int (0 : Int32)), (3, .int (-1 : Int32)), (0, .ref m0), (1, .int x1), (2, .int x2)]) hx hb dX5_best_41 hl (by decide) rfl (fun ls hl => ?_)
      refine lv_iconst (v := 0) hx hb dX5_best_43 (by decide) ?_
      refine lv_istore (lv' := [(6, .int (0 : Int32)), (5, .int (0 : Int32)), (4, .int (0 : Int32)), (3, .int (-1 : Int32)), (0, .ref m0), (1, .int x1), (2, .int x2)]) hx hb dX5_best_44 hl (by decide) rfl (fun ls hl => ?_)
      refine lv_iconst (v := 0) hx hb dX5_best_46 (by decide) ?_
      refine lv_istore (lv' := [(7, .int (0 : Int32)), (6, .int (0 : Int32)), (5, .int (0 : Int32)), (4, .int (0 : Int32)), (3, .int (-1 : Int32)), (0, .ref m0), (1, .int x1), (2, .int x2)]) hx hb dX5_best_47 hl (by decide) rfl (fun ls hl => ?_)
      obtain ⟨K_49, hKi_49, h⟩ := jnE3 h
      have hK_49 : ∀ (v3_30 : Int32) (v5_31 : Int32) (v6_32 : Int32), K_49 v3_30 v5_31 v6_32 → ∀ (H : Heap) (locs : List Loc), va_P (dC, dI) vwCl (wM m0 m1 m2 m3 m4 m5 m6 m7 m8 m9 cI cZ u_4) H → va_S A s.heap H locs → ∀ (ls : Array Slot), lv_has ls 10 [(0, .ref m0), (3, .int v3_30), (5, .int v5_31), (6, .int v6_32)] → W p l e (headSpec wsX5_best ({ frames := 3, cells := 0, slots := 0, locals := 69 } : Room)).room s m ([.ref m0, .int x1, .int x2] : List Value).toArray below meth c H locs 0 0 (MQ below (va_Qi post (fun (u2 : St) (t : State) => va_P (dC, dI) vwCl (wM m0 m1 m2 m3 m4 m5 m6 m7 m8 m9 cI cZ u2) t.heap) A) ([.ref m0, .int x1, .int x2] : List Value).toArray s 0 0 A) (F0 m 160 ls []) := by
        intro v3_30 v5_31 v6_32 h H locs hP hS ls hl
        have h := hKi_49 _ _ _ h
        refine lv_aload_n hx hb dX5_best_160 rfl (lv_at hl 0 rfl) ?_
        refine va_get (D := (dC, dI)) (ci := 3) (v := .ref m2) (C := RX5) (T := TX5) (N := 17) hx hb hts i_X5 hown hK hP 0 rfl rfl 4 (by decide) f_23 (fun _ h9 => h9) rfl dX5_best_161 ?_
        refine lv_iconst (v := 0) hx hb dX5_best_164 (by decide) ?_
        refine lv_iload hx hb dX5_best_165 (lv_at hl 2 rfl) ?_
        obtain ⟨hi, h⟩ := h
        refine va_iast hx hb hK hP (hD _) hS 2 0 rfl rfl hi dX5_best_167 (fun H locs hP _ hS => ?_)
        obtain ⟨u_33, eu_33⟩ : ∃ z : St, z = (u_4.1, va_up u_4.2 4 (upd (u_4.2 4) (0 : Int32).toNatClampNeg v5_31)) := ⟨_, rfl⟩
        have h := h u_33 eu_33
        have hP : va_P (dC, dI) vwCl (wM m0 m1 m2 m3 m4 m5 m6 m7 m8 m9 cI cZ u_33) H := by rw [eu_33]; exact hP
        refine lv_aload_n hx hb dX5_best_168 rfl (lv_at hl 0 rfl) ?_
        refine va_get (D := (dC, dI)) (ci := 3) (v := .ref m2) (C := RX5) (T := TX5) (N := 17) hx hb hts i_X5 hown hK hP 0 rfl rfl 4 (by decide) f_23 (fun _ h9 => h9) rfl dX5_best_169 ?_
        refine lv_iconst (v := 1) hx hb dX5_best_172 (by decide) ?_
        refine lv_iload hx hb dX5_best_173 (lv_at hl 3 rfl) ?_
        obtain ⟨hi, h⟩ := h
        refine va_iast hx hb hK hP (hD _) hS 2 0 rfl rfl hi dX5_best_175 (fun H locs hP _ hS => ?_)
        obtain ⟨u_34, eu_34⟩ : ∃ z : St, z = (u_33.1, va_up u_33.2 4 (upd (u_33.2 4) (1 : Int32).toNatClampNeg v6_32)) := ⟨_, rfl⟩
        have h := h u_34 eu_34
        have hP : va_P (dC, dI) vwCl (wM m0 m1 m2 m3 m4 m5 m6 m7 m8 m9 cI cZ u_34) H := by rw [eu_34]; exact hP
        refine lv_aload_n hx hb dX5_best_176 rfl (lv_at hl 0 rfl) ?_
        refine lv_iconst (v := 0) hx hb dX5_best_177 (by decide) ?_
        refine va_put (D := (dC, dI)) (ci := 3) (v := .int (0 : Int32)) (ty := .boolean) (C := RX5) (T := TX5) (N := 17) hx hb hts i_X5 tyX5 tyX5_ok nmX5 hown hK hP (hD _) hS 0 rfl rfl 5 (by decide) f_54 (fun _ h9 => h9) rfl (by decide +kernel) rfl rfl (Nat.le_of_ble_eq_true rfl) dX5_best_178 (fun H locs hP _ hS => ?_)
        obtain ⟨u_35, eu_35⟩ : ∃ z : St, z = (upd u_34.1 5 (0 : Int32), u_34.2) := ⟨_, rfl⟩
        have h := h u_35 eu_35
        have hP : va_P (dC, dI) vwCl (wM m0 m1 m2 m3 m4 m5 m6 m7 m8 m9 cI cZ u_35) H := by rw [eu_35]; exact hP
        refine lv_iload_n hx hb dX5_best_181 rfl (lv_at hl 1 rfl) ?_
        exact W.iret hx hb hr (fun t ht _ => ⟨⟨_, u_35, rfl, h, hPr ht hP⟩, hS.F ht⟩) hS.2.2 dX5_best_182
      obtain ⟨n, h⟩ := h
      have loop_49 : ∀ (n : Nat) (v3_5 : Int32) (v4_6 : Int32) (v5_7 : Int32) (v6_8 : Int32) (v7_9 : Int32), L_X5_best_49 post K_49 x1 x2 u_4 n v3_5 v4_6 v5_7 v6_8 v7_9 → ∀ (H : Heap) (locs : List Loc), va_P (dC, dI) vwCl (wM m0 m1 m2 m3 m4 m5 m6 m7 m8 m9 cI cZ u_4) H → va_S A s.heap H locs → ∀ (ls : Array Slot), lv_has ls 10 [(0, .ref m0), (1, .int x1), (2, .int x2), (3, .int v3_5), (4, .int v4_6), (5, .int v5_7), (6, .int v6_8), (7, .int v7_9)] → W p l e (headSpec wsX5_best ({ frames := 3, cells := 0, slots := 0, locals := 69 } : Room)).room s m ([.ref m0, .int x1, .int x2] : List Value).toArray below meth c H locs 0 0 (MQ below (va_Qi post (fun (u2 : St) (t : State) => va_P (dC, dI) vwCl (wM m0 m1 m2 m3 m4 m5 m6 m7 m8 m9 cI cZ u2) t.heap) A) ([.ref m0, .int x1, .int x2] : List Value).toArray s 0 0 A) (F0 m 49 ls []) := by
        intro n
        induction n with
        | zero => intro v3_5 v4_6 v5_7 v6_8 v7_9 h; rw [L_X5_best_49] at h; exact h.elim
        | succ n ih_49 =>
          intro v3_5 v4_6 v5_7 v6_8 v7_9 h H locs hP hS ls hl
          rw [L_X5_best_49] at h
          refine lv_iload hx hb dX5_best_49 (lv_at hl 7 rfl) ?_
          refine lv_iconst (v := 1) hx hb dX5_best_51 (by decide) ?_
          refine lv_aload_n hx hb dX5_best_52 rfl (lv_at hl 0 rfl) ?_
          refine va_get (D := (dC, dI)) (ci := 3) (v := .int (u_4.1 0)) (C := RX5) (T := TX5) (N := 17) hx hb hts i_X5 hown hK hP 0 rfl rfl 0 (by decide) f_7 (fun _ h9 => h9) rfl dX5_best_53 ?_
          refine lv_ishl hx hb dX5_best_56 ?_
          refine lv_icmp_ge (tgt := 160) hx hb dX5_best_57 (by decide) (fun c_57 => ?_) (fun c_57 => ?_)
          · have h := br1 h c_57
            exact hK_49 _ _ _ h _ _ hP hS _ (lv_sub hl [0, 3, 5, 6] rfl)
          · have h := br2 h c_57
            refine lv_iconst (v := 0) hx hb dX5_best_60 (by decide) ?_
            refine lv_istore (lv' := [(8, .int (0 : Int32)), (0, .ref m0), (1, .int x1), (2, .int x2), (3, .int v3_5), (4, .int v4_6), (5, .int v5_7), (6, .int v6_8), (7, .int v7_9)]) hx hb dX5_best_61 hl (by decide) rfl (fun ls hl => ?_)
            obtain ⟨K_63, hKi_63, h⟩ := jnE4 h
            have hK_63 : ∀ (v3_25 : Int32) (v4_26 : Int32) (v5_27 : Int32) (v6_28 : Int32), K_63 v3_25 v4_26 v5_27 v6_28 → ∀ (H : Heap) (locs : List Loc), va_P (dC, dI) vwCl (wM m0 m1 m2 m3 m4 m5 m6 m7 m8 m9 cI cZ u_4) H → va_S A s.heap H locs → ∀ (ls : Array Slot), lv_has ls 10 [(0, .ref m0), (1, .int x1), (2, .int x2), (3, .int v3_25), (4, .int v4_26), (5, .int v5_27), (6, .int v6_28), (7, .int v7_9)] → W p l e (headSpec wsX5_best ({ frames := 3, cells := 0, slots := 0, locals := 69 } : Room)).room s m ([.ref m0, .int x1, .int x2] : List Value).toArray below meth c H locs 0 0 (MQ below (va_Qi post (fun (u2 : St) (t : State) => va_P (dC, dI) vwCl (wM m0 m1 m2 m3 m4 m5 m6 m7 m8 m9 cI cZ u2) t.heap) A) ([.ref m0, .int x1, .int x2] : List Value).toArray s 0 0 A) (F0 m 154 ls []) := by
              intro v3_25 v4_26 v5_27 v6_28 h H locs hP hS ls hl
              have h := hKi_63 _ _ _ _ h
              obtain ⟨y_29, ey_29⟩ : ∃ z : Int32, z = v7_9 + (1 : Int32) := ⟨_, rfl⟩
              have h := h y_29 ey_29
              refine lv_iinc (v := y_29) (lv' := [(7, .int y_29), (0, .ref m0), (1, .int x1), (2, .int x2), (3, .int v3_25), (4, .int v4_26), (5, .int v5_27), (6, .int v6_28)]) hx hb dX5_best_154 hl (k := 7) rfl (by rw [ey_29]; rfl) (by decide) rfl (fun ls hl => ?_)
              refine lv_goto (tgt := 49) hx hb dX5_best_157 (by decide) ?_
              exact ih_49 _ _ _ _ _ h _ _ hP hS _ (lv_sub hl [1, 2, 3, 4, 5, 6, 7, 0] rfl)
            obtain ⟨n, h⟩ := h
            have loop_63 : ∀ (n : Nat) (v3_10 : Int32) (v4_11 : Int32) (v5_12 : Int32) (v6_13 : Int32) (v8_14 : Int32), L_X5_best_63 post K_63 x1 x2 u_4 v7_9 n v3_10 v4_11 v5_12 v6_13 v8_14 → ∀ (H : Heap) (locs : List Loc), va_P (dC, dI) vwCl (wM m0 m1 m2 m3 m4 m5 m6 m7 m8 m9 cI cZ u_4) H → va_S A s.heap H locs → ∀ (ls : Array Slot), lv_has ls 10 [(0, .ref m0), (1, .int x1), (2, .int x2), (3, .int v3_10), (4, .int v4_11), (5, .int v5_12), (6, .int v6_13), (7, .int v7_9), (8, .int v8_14)] → W p l e (headSpec wsX5_best ({ frames := 3, cells := 0, slots := 0, locals := 69 } : Room)).room s m ([.ref m0, .int x1, .int x2] : List Value).toArray below meth c H locs 0 0 (MQ below (va_Qi post (fun (u2 : St) (t : State) => va_P (dC, dI) vwCl (wM m0 m1 m2 m3 m4 m5 m6 m7 m8 m9 cI cZ u2) t.heap) A) ([.ref m0, .int x1, .int x2] : List Value).toArray s 0 0 A) (F0 m 63 ls []) := by
              intro n
              induction n with
              | zero => intro v3_10 v4_11 v5_12 v6_13 v8_14 h; rw [L_X5_best_63] at h; exact h.elim
              | succ n ih_63 =>
                intro v3_10 v4_11 v5_12 v6_13 v8_14 h H locs hP hS ls hl
                rw [L_X5_best_63] at h
                refine lv_iload hx hb dX5_best_63 (lv_at hl 8 rfl) ?_
                refine lv_iconst (v := 1) hx hb dX5_best_65 (by decide) ?_
                refine lv_aload_n hx hb dX5_best_66 rfl (lv_at hl 0 rfl) ?_
                refine va_get (D := (dC, dI)) (ci := 3) (v := .int (u_4.1 1)) (C := RX5) (T := TX5) (N := 17) hx hb hts i_X5 hown hK hP 0 rfl rfl 1 (by decide) f_13 (fun _ h9 => h9) rfl dX5_best_67 ?_
                refine lv_ishl hx hb dX5_best_70 ?_
                refine lv_icmp_ge (tgt := 154) hx hb dX5_best_71 (by decide) (fun c_71 => ?_) (fun c_71 => ?_)
                · have h := br1 h c_71
                  exact hK_63 _ _ _ _ h _ _ hP hS _ (lv_sub hl [0, 1, 2, 3, 4, 5, 6, 7] rfl)
                · have h := br2 h c_71
                  refine lv_iload hx hb dX5_best_74 (lv_at hl 7 rfl) ?_
                  refine vp_callSi (W.runS (As := [.int _]) (rest := []) ⟨hx, hb, hml, hown, hts⟩ (c_X5_ones l h) (va_cwS 1 hts gX5_best_X5_ones rfl rfl rfl (by decide +kernel) ⟨Nat.le_of_ble_eq_true rfl, Nat.le_of_ble_eq_true rfl⟩) ⟨fun _ _ _ _ q => q, fun _ _ _ => ⟨rfl, trivial⟩⟩ rfl rfl hl.1 rfl (lv_room (Nat.le_of_ble_eq_true rfl)) dX5_best_76 ⟨Nat.zero_le _, Nat.zero_le _⟩) (fun r_15 h => ?_)
                  refine lv_iload_n hx hb dX5_best_79 rfl (lv_at hl 1 rfl) ?_
                  refine lv_icmp_ne (tgt := 154) hx hb dX5_best_80 (by decide) (fun c_80 => ?_) (fun c_80 => ?_)
                  · have h := br2 h c_80
                    exact hK_63 _ _ _ _ h _ _ hP hS _ (lv_sub hl [0, 1, 2, 3, 4, 5, 6, 7] rfl)
                  · have h := br1 h c_80
                    refine lv_iload hx hb dX5_best_83 (lv_at hl 8 rfl) ?_
                    refine vp_callSi (W.runS (As := [.int _]) (rest := []) ⟨hx, hb, hml, hown, hts⟩ (c_X5_ones l h) (va_cwS 1 hts gX5_best_X5_ones rfl rfl rfl (by decide +kernel) ⟨Nat.le_of_ble_eq_true rfl, Nat.le_of_ble_eq_true rfl⟩) ⟨fun _ _ _ _ q => q, fun _ _ _ => ⟨rfl, trivial⟩⟩ rfl rfl hl.1 rfl (lv_room (Nat.le_of_ble_eq_true rfl)) dX5_best_85 ⟨Nat.zero_le _, Nat.zero_le _⟩) (fun r_16 h => ?_)
                    refine lv_iload_n hx hb dX5_best_88 rfl (lv_at hl 2 rfl) ?_
                    obtain ⟨J_148, hJi_148, h⟩ := jnE4 h
                    have hJ_148 : ∀ (v3_20 : Int32) (v4_21 : Int32) (v5_22 : Int32) (v6_23 : Int32), J_148 v3_20 v4_21 v5_22 v6_23 → ∀ (H : Heap) (locs : List Loc), va_P (dC, dI) vwCl (wM m0 m1 m2 m3 m4 m5 m6 m7 m8 m9 cI cZ u_4) H → va_S A s.heap H locs → ∀ (ls : Array Slot), lv_has ls 10 [(0, .ref m0), (1, .int x1), (2, .int x2), (3, .int v3_20), (4, .int v4_21), (5, .int v5_22), (6, .int v6_23), (7, .int v7_9), (8, .int v8_14)] → W p l e (headSpec wsX5_best ({ frames := 3, cells := 0, slots := 0, locals := 69 } : Room)).room s m ([.ref m0, .int x1, .int x2] : List Value).toArray below meth c H locs 0 0 (MQ below (va_Qi post (fun (u2 : St) (t : State) => va_P (dC, dI) vwCl (wM m0 m1 m2 m3 m4 m5 m6 m7 m8 m9 cI cZ u2) t.heap) A) ([.ref m0, .int x1, .int x2] : List Value).toArray s 0 0 A) (F0 m 148 ls []) := by
                      intro v3_20 v4_21 v5_22 v6_23 h H locs hP hS ls hl
                      have h := hJi_148 _ _ _ _ h
                      obtain ⟨y_24, ey_24⟩ : ∃ z : Int32, z = v8_14 + (1 : Int32) := ⟨_, rfl⟩
                      have h := h y_24 ey_24
                      refine lv_iinc (v := y_24) (lv' := [(8, .int y_24), (0, .ref m0), (1, .int x1), (2, .int x2), (3, .int v3_20), (4, .int v4_21), (5, .int v5_22), (6, .int v6_23), (7, .int v7_9)]) hx hb dX5_best_148 hl (k := 8) rfl (by rw [ey_24]; rfl) (by decide) rfl (fun ls hl => ?_)
                      refine lv_goto (tgt := 63) hx hb dX5_best_151 (by decide) ?_
                      exact ih_63 _ _ _ _ _ h _ _ hP hS _ (lv_sub hl [1, 2, 3, 4, 5, 6, 7, 8, 0] rfl)
                    refine lv_icmp_ne (tgt := 148) hx hb dX5_best_89 (by decide) (fun c_89 => ?_) (fun c_89 => ?_)
                    · have h := br2 h c_89
                      exact hJ_148 _ _ _ _ h _ _ hP hS _ (lv_sub hl [0, 1, 2, 3, 4, 5, 6, 7, 8] rfl)
                    · have h := br1 h c_89
                      refine lv_aload_n hx hb dX5_best_92 rfl (lv_at hl 0 rfl) ?_
                      refine lv_iload hx hb dX5_best_93 (lv_at hl 7 rfl) ?_
                      refine lv_iload hx hb dX5_best_95 (lv_at hl 8 rfl) ?_
                      refine vp_callSi (W.runV (As := [.int _, .int _]) (rest := []) ⟨hx, hb, hml, hown, hts⟩ (c_X5_coverOf l dC dI m0 m1 m2 m3 m4 m5 m6 m7 m8 m9 cI cZ h) (cwV 2 hts gX5_best_X5_coverOf rfl rfl rfl (by decide +kernel) ⟨Nat.le_of_ble_eq_true rfl, Nat.le_of_ble_eq_true rfl⟩) ⟨fbR, va_recv hK hP (ci := 3) (q0 := 0) rfl rfl, fun U hU hW => ⟨rfl, by rw [hU]; exact hP, va_K.moved hW.alike hK⟩⟩ rfl rfl hl.1 rfl (lv_room (Nat.le_of_ble_eq_true rfl)) dX5_best_97 ⟨Nat.zero_le _, Nat.zero_le _⟩) (fun r_17 h => ?_)
                      refine lv_istore (lv' := [(9, .int r_17), (0, .ref m0), (1, .int x1), (2, .int x2), (3, .int v3_10), (4, .int v4_11), (5, .int v5_12), (6, .int v6_13), (7, .int v7_9), (8, .int v8_14)]) hx hb dX5_best_100 hl (by decide) rfl (fun ls hl => ?_)
                      refine lv_iload hx hb dX5_best_102 (lv_at hl 0 rfl) ?_
                      refine lv_iload_n hx hb dX5_best_104 rfl (lv_at hl 4 rfl) ?_
                      obtain ⟨J_127, hJi_127, h⟩ := jnE0 h
                      have hJ_127 : J_127 → ∀ (H : Heap) (locs : List Loc), va_P (dC, dI) vwCl (wM m0 m1 m2 m3 m4 m5 m6 m7 m8 m9 cI cZ u_4) H → va_S A s.heap H locs → ∀ (ls : Array Slot), lv_has ls 10 [(0, .ref m0), (1, .int x1), (2, .int x2), (7, .int v7_9), (8, .int v8_14), (9, .int r_17)] → W p l e (headSpec wsX5_best ({ frames := 3, cells := 0, slots := 0, locals := 69 } : Room)).room s m ([.ref m0, .int x1, .int x2] : List Value).toArray below meth c H locs 0 0 (MQ below (va_Qi post (fun (u2 : St) (t : State) => va_P (dC, dI) vwCl (wM m0 m1 m2 m3 m4 m5 m6 m7 m8 m9 cI cZ u2) t.heap) A) ([.ref m0, .int x1, .int x2] : List Value).toArray s 0 0 A) (F0 m 127 ls []) := by
                        intro  h H locs hP hS ls hl
                        have h := hJi_127 h
                        refine lv_iload hx hb dX5_best_127 (lv_at hl 5 rfl) ?_
                        refine lv_istore_n (lv' := [(3, .int r_17), (0, .ref m0), (1, .int x1), (2, .int x2), (7, .int v7_9), (8, .int v8_14), (9, .int r_17)]) hx hb dX5_best_129 rfl hl (by decide) rfl (fun ls hl => ?_)
                        refine lv_aload_n hx hb dX5_best_130 rfl (lv_at hl 1 rfl) ?_
                        refine lv_iload hx hb dX5_best_131 (lv_at hl 4 rfl) ?_
                        refine lv_iload hx hb dX5_best_133 (lv_at hl 5 rfl) ?_
                        refine vp_callSi (W.runV (As := [.int _, .int _]) (rest := []) ⟨hx, hb, hml, hown, hts⟩ (c_X5_caughtOf l dC dI m0 m1 m2 m3 m4 m5 m6 m7 m8 m9 cI cZ h) (cwV 2 hts gX5_best_X5_caughtOf rfl rfl rfl (by decide +kernel) ⟨Nat.le_of_ble_eq_true rfl, Nat.le_of_ble_eq_true rfl⟩) ⟨fbR, va_recv hK hP (ci := 3) (q0 := 0) rfl rfl, fun U hU hW => ⟨rfl, by rw [hU]; exact hP, va_K.moved hW.alike hK⟩⟩ rfl rfl hl.1 rfl (lv_room (Nat.le_of_ble_eq_true rfl)) dX5_best_135 ⟨Nat.zero_le _, Nat.zero_le _⟩) (fun r_19 h => ?_)
                        refine lv_istore (lv' := [(4, .int r_19), (3, .int r_17), (0, .ref m0), (1, .int x1), (2, .int x2), (7, .int v7_9), (8, .int v8_14), (9, .int r_17)]) hx hb dX5_best_138 hl (by decide) rfl (fun ls hl => ?_)
                        refine lv_iload hx hb dX5_best_140 (lv_at hl 5 rfl) ?_
                        refine lv_istore (lv' := [(5, .int v7_9), (4, .int r_19), (3, .int r_17), (0, .ref m0), (1, .int x1), (2, .int x2), (7, .int v7_9), (8, .int v8_14), (9, .int r_17)]) hx hb dX5_best_142 hl (by decide) rfl (fun ls hl => ?_)
                        refine lv_iload hx hb dX5_best_144 (lv_at hl 7 rfl) ?_
                        refine lv_istore (lv' := [(6, .int v8_14), (5, .int v7_9), (4, .int r_19), (3, .int r_17), (0, .ref m0), (1, .int x1), (2, .int x2), (7, .int v7_9), (8, .int v8_14), (9, .int r_17)]) hx hb dX5_best_146 hl (by decide) rfl (fun ls hl => ?_)
                        exact hJ_148 _ _ _ _ h _ _ hP hS _ (lv_sub hl [4, 5, 6, 3, 2, 1, 0, 7, 8] rfl)
                      refine lv_icmp_gt (tgt := 127) hx hb dX5_best_105 (by decide) (fun c_105 => ?_) (fun c_105 => ?_)
                      · have h := br1 h c_105
                        exact hJ_127 h _ _ hP hS _ (lv_sub hl [1, 2, 3, 8, 9, 0] rfl)
                      · have h := br2 h c_105
                        refine lv_iload hx hb dX5_best_108 (lv_at hl 0 rfl) ?_
                        refine lv_iload_n hx hb dX5_best_110 rfl (lv_at hl 4 rfl) ?_
                        refine lv_icmp_ne (tgt := 148) hx hb dX5_best_111 (by decide) (fun c_111 => ?_) (fun c_111 => ?_)
                        · have h := br2 h c_111
                          exact hJ_148 _ _ _ _ h _ _ hP hS _ (lv_sub hl [1, 2, 3, 4, 5, 6, 7, 8, 9] rfl)
                        · have h := br1 h c_111
                          refine lv_aload_n hx hb dX5_best_114 rfl (lv_at hl 1 rfl) ?_
                          refine lv_iload hx hb dX5_best_115 (lv_at hl 8 rfl) ?_
                          refine lv_iload hx hb dX5_best_117 (lv_at hl 9 rfl) ?_
                          refine vp_callSi (W.runV (As := [.int _, .int _]) (rest := []) ⟨hx, hb, hml, hown, hts⟩ (c_X5_caughtOf l dC dI m0 m1 m2 m3 m4 m5 m6 m7 m8 m9 cI cZ h) (cwV 2 hts gX5_best_X5_caughtOf rfl rfl rfl (by decide +kernel) ⟨Nat.le_of_ble_eq_true rfl, Nat.le_of_ble_eq_true rfl⟩) ⟨fbR, va_recv hK hP (ci := 3) (q0 := 0) rfl rfl, fun U hU hW => ⟨rfl, by rw [hU]; exact hP, va_K.moved hW.alike hK⟩⟩ rfl rfl hl.1 rfl (lv_room (Nat.le_of_ble_eq_true rfl)) dX5_best_119 ⟨Nat.zero_le _, Nat.zero_le _⟩) (fun r_18 h => ?_)
                          refine lv_iload hx hb dX5_best_122 (lv_at hl 5 rfl) ?_
                          refine lv_icmp_ge (tgt := 148) hx hb dX5_best_124 (by decide) (fun c_124 => ?_) (fun c_124 => ?_)
                          · have h := br1 h c_124
                            exact hJ_148 _ _ _ _ h _ _ hP hS _ (lv_sub hl [1, 2, 3, 4, 5, 6, 7, 8, 9] rfl)
                          · have h := br2 h c_124
                            exact hJ_127 h _ _ hP hS _ (lv_sub hl [1, 2, 3, 8, 9, 0] rfl)
            exact loop_63 n _ _ _ _ _ h _ _ hP hS _ (lv_sub hl [1, 2, 3, 4, 5, 6, 7, 8, 0] rfl)
      exact loop_49 n _ _ _ _ _ h _ _ hP hS _ (lv_sub hl [5, 6, 7, 4, 3, 2, 1, 0] rfl)
    · have h := br1 h c_25
      refine lv_bipush (v := (-2)) hx hb dX5_best_28 (by decide) ?_
      exact W.iret hx hb hr (fun t ht _ => ⟨⟨_, u, rfl, h, hPr ht hP⟩, hS.F ht⟩) hS.2.2 dX5_best_30
set_option maxHeartbeats 4000000 in
set_option maxRecDepth 100000 in
theorem c_X5_told (l : Launch) (dC : Nat → ClassId) (dI : Nat → Nat → Nat) (m0 m1 m2 m3 m4 m5 m6 m7 m8 m9 : Nat) (cI cZ : ClassId) (sz : Nat) {u : St} {x1 : Int32} {post : Int32 → St → Prop} (h : P_X5_told u x1 post) : Met l yX5_told wsX5_told ({ frames := 6, cells := 0, slots := 0, locals := 151 } : Room) (MPre (dC, dI) vwCl (wM m0 m1 m2 m3 m4 m5 m6 m7 m8 m9 cI cZ u) [(cI, .int), (cZ, .boolean)] sz [.ref m0, .int x1]) (va_Qi post (fun (u2 : St) (t : State) => va_P (dC, dI) vwCl (wM m0 m1 m2 m3 m4 m5 m6 m7 m8 m9 cI cZ u2) t.heap) (va_A (wM m0 m1 m2 m3 m4 m5 m6 m7 m8 m9 cI cZ u) sz)) 0 0 (va_A (wM m0 m1 m2 m3 m4 m5 m6 m7 m8 m9 cI cZ u) sz) := by
  refine Met.ofW (cc := cX5_told) (maxL := 4) (ret := (some .int)) (by decide) rfl ?_
  intro p e s m args below meth c s₁ B hml hv
  obtain ⟨rfl, hsz, hP, hK, hD0⟩ := hv
  have hx := B.exec
  have hb := B.bytes
  have hr := B.returns
  have hts := atoms_spec (ws := wsX5_told) B.pre
  have hown : s.vm.findClass RX5 = some m.cls := findClass_of_methodNamed B.named
  have hlocks := B.notSynchronized
  subst hsz
  have hD1 := hD0.self (sz := s.heap.size)
  generalize hAe : va_A (wM m0 m1 m2 m3 m4 m5 m6 m7 m8 m9 cI cZ u) s.heap.size = A at hD1 ⊢
  have hA : ∀ q : Nat, s.heap.size ≤ q → A q := fun q h => by rw [← hAe]; exact Or.inr h
  have hD : ∀ z, va_D A (wM m0 m1 m2 m3 m4 m5 m6 m7 m8 m9 cI cZ z) := fun z => va_Dsame hD1 rfl
  have hS : va_S A s.heap s.heap [] := va_S.rf
  have hl := lv_entry ([.ref m0, .int x1]) (n := 4) (Nat.le_of_ble_eq_true rfl)
  rw [lg_entry_eq]
  generalize (lg_sl ([.ref m0, .int x1]) ++ List.replicate (4 - (lg_sl ([.ref m0, .int x1])).length) Slot.unset).toArray = ls at hl ⊢
  have hl : lv_has ls 4 [(0, .ref m0), (1, .int x1)] := hl
  have i_X5 : ∀ w ∈ u_ws RX5 TX5 17, w ∈ wsX5_told := by decide +kernel
  have f_7 := hts (.fieldLink RX5 7 "SliceBodyModel" "wideX" "I") (by decide +kernel)
  have f_13 := hts (.fieldLink RX5 13 "SliceBodyModel" "wideY" "I") (by decide +kernel)
  have f_16 := hts (.fieldLink RX5 16 "SliceBodyModel" "wideZ" "I") (by decide +kernel)
  have f_19 := hts (.fieldLink RX5 19 "SliceBodyModel" "cubes" "[Z") (by decide +kernel)
  have f_23 := hts (.fieldLink RX5 23 "SliceBodyModel" "chosen" "[I") (by decide +kernel)
  have f_93 := hts (.fieldLink RX5 93 "SliceBodyModel" "cubeMany" "I") (by decide +kernel)
  unfold P_X5_told at h
  refine lv_iconst (v := 0) hx hb dX5_told_0 (by decide) ?_
  refine lv_istore_n (lv' := [(2, .int (0 : Int32)), (0, .ref m0), (1, .int x1)]) hx hb dX5_told_1 rfl hl (by decide) rfl (fun ls hl => ?_)
  refine lv_iload_n hx hb dX5_told_2 rfl (lv_at hl 2 rfl) ?_
  rcases Decidable.em (x1 = 0) with c_3_0 | c_3_0
  · have h := br1 h c_3_0
    refine lv_tableIn (off := 45) (tgt := 48) hx hb dX5_told_3 (by rw [c_3_0]; decide) (by rw [c_3_0]; decide) (by rw [c_3_0]; rfl) (by decide) ?_
    refine lv_aload_n hx hb dX5_told_48 rfl (lv_at hl 1 rfl) ?_
    refine va_get (D := (dC, dI)) (ci := 3) (v := .int (u.1 0)) (C := RX5) (T := TX5) (N := 17) hx hb hts i_X5 hown hK hP 0 rfl rfl 0 (by decide) f_7 (fun _ h9 => h9) rfl dX5_told_49 ?_
    exact W.iret hx hb hr (fun t ht _ => ⟨⟨_, u, rfl, h, hPr ht hP⟩, hS.F ht⟩) hS.2.2 dX5_told_52
  · have h := br2 h c_3_0
    rcases Decidable.em (x1 = 1) with c_3_1 | c_3_1
    · have h := br1 h c_3_1
      refine lv_tableIn (off := 50) (tgt := 53) hx hb dX5_told_3 (by rw [c_3_1]; decide) (by rw [c_3_1]; decide) (by rw [c_3_1]; rfl) (by decide) ?_
      refine lv_aload_n hx hb dX5_told_53 rfl (lv_at hl 1 rfl) ?_
      refine va_get (D := (dC, dI)) (ci := 3) (v := .int (u.1 1)) (C := RX5) (T := TX5) (N := 17) hx hb hts i_X5 hown hK hP 0 rfl rfl 1 (by decide) f_13 (fun _ h9 => h9) rfl dX5_told_54 ?_
      exact W.iret hx hb hr (fun t ht _ => ⟨⟨_, u, rfl, h, hPr ht hP⟩, hS.F ht⟩) hS.2.2 dX5_told_57
    · have h := br2 h c_3_1
      rcases Decidable.em (x1 = 2) with c_3_2 | c_3_2
      · have h := br1 h c_3_2
        refine lv_tableIn (off := 55) (tgt := 58) hx hb dX5_told_3 (by rw [c_3_2]; decide) (by rw [c_3_2]; decide) (by rw [c_3_2]; rfl) (by decide) ?_
        refine lv_aload_n hx hb dX5_told_58 rfl (lv_at hl 1 rfl) ?_
        refine va_get (D := (dC, dI)) (ci := 3) (v := .int (u.1 2)) (C := RX5) (T := TX5) (N := 17) hx hb hts i_X5 hown hK hP 0 rfl rfl 2 (by decide) f_16 (fun _ h9 => h9) rfl dX5_told_59 ?_
        exact W.iret hx hb hr (fun t ht _ => ⟨⟨_, u, rfl, h, hPr ht hP⟩, hS.F ht⟩) hS.2.2 dX5_told_62
      · have h := br2 h c_3_2
        rcases Decidable.em (x1 = 3) with c_3_3 | c_3_3
        · have h := br1 h c_3_3
          refine lv_tableIn (off := 60) (tgt := 63) hx hb dX5_told_3 (by rw [c_3_3]; decide) (by rw [c_3_3]; decide) (by rw [c_3_3]; rfl) (by decide) ?_
          refine lv_iconst (v := 0) hx hb dX5_told_63 (by decide) ?_
          refine lv_istore_n (lv' := [(3, .int (0 : Int32)), (2, .int (0 : Int32)), (0, .ref m0), (1, .int x1)]) hx hb dX5_told_64 rfl hl (by decide) rfl (fun ls hl => ?_)
          obtain ⟨K_65, hKi_65, h⟩ := jnE1 h
          have hK_65 : ∀ (v2_6 : Int32), K_65 v2_6 → ∀ (H : Heap) (locs : List Loc), va_P (dC, dI) vwCl (wM m0 m1 m2 m3 m4 m5 m6 m7 m8 m9 cI cZ u) H → va_S A s.heap H locs → ∀ (ls : Array Slot), lv_has ls 4 [(2, .int v2_6)] → W p l e (headSpec wsX5_told ({ frames := 6, cells := 0, slots := 0, locals := 151 } : Room)).room s m ([.ref m0, .int x1] : List Value).toArray below meth c H locs 0 0 (MQ below (va_Qi post (fun (u2 : St) (t : State) => va_P (dC, dI) vwCl (wM m0 m1 m2 m3 m4 m5 m6 m7 m8 m9 cI cZ u2) t.heap) A) ([.ref m0, .int x1] : List Value).toArray s 0 0 A) (F0 m 95 ls []) := by
            intro v2_6 h H locs hP hS ls hl
            have h := hKi_65 _ h
            refine lv_iload_n hx hb dX5_told_95 rfl (lv_at hl 0 rfl) ?_
            exact W.iret hx hb hr (fun t ht _ => ⟨⟨_, u, rfl, h, hPr ht hP⟩, hS.F ht⟩) hS.2.2 dX5_told_96
          obtain ⟨n, h⟩ := h
          have loop_65 : ∀ (n : Nat) (v2_1 : Int32) (v3_2 : Int32), L_X5_told_65 post K_65 u n v2_1 v3_2 → ∀ (H : Heap) (locs : List Loc), va_P (dC, dI) vwCl (wM m0 m1 m2 m3 m4 m5 m6 m7 m8 m9 cI cZ u) H → va_S A s.heap H locs → ∀ (ls : Array Slot), lv_has ls 4 [(0, .ref m0), (2, .int v2_1), (3, .int v3_2)] → W p l e (headSpec wsX5_told ({ frames := 6, cells := 0, slots := 0, locals := 151 } : Room)).room s m ([.ref m0, .int x1] : List Value).toArray below meth c H locs 0 0 (MQ below (va_Qi post (fun (u2 : St) (t : State) => va_P (dC, dI) vwCl (wM m0 m1 m2 m3 m4 m5 m6 m7 m8 m9 cI cZ u2) t.heap) A) ([.ref m0, .int x1] : List Value).toArray s 0 0 A) (F0 m 65 ls []) := by
            intro n
            induction n with
            | zero => intro v2_1 v3_2 h; rw [L_X5_told_65] at h; exact h.elim
            | succ n ih_65 =>
              intro v2_1 v3_2 h H locs hP hS ls hl
              rw [L_X5_told_65] at h
              refine lv_iload_n hx hb dX5_told_65 rfl (lv_at hl 2 rfl) ?_
              refine lv_sipush (v := 512) hx hb dX5_told_66 (by decide) ?_
              refine lv_icmp_ge (tgt := 95) hx hb dX5_told_69 (by decide) (fun c_69 => ?_) (fun c_69 => ?_)
              · have h := br1 h c_69
                exact hK_65 _ h _ _ hP hS _ (lv_sub hl [1] rfl)
              · have h := br2 h c_69
                refine lv_iload_n hx hb dX5_told_72 rfl (lv_at hl 1 rfl) ?_
                refine lv_aload_n hx hb dX5_told_73 rfl (lv_at hl 0 rfl) ?_
                refine va_get (D := (dC, dI)) (ci := 3) (v := .ref m1) (C := RX5) (T := TX5) (N := 17) hx hb hts i_X5 hown hK hP 0 rfl rfl 3 (by decide) f_19 (fun _ h9 => h9) rfl dX5_told_74 ?_
                refine lv_iload_n hx hb dX5_told_77 rfl (lv_at hl 2 rfl) ?_
                obtain ⟨hi, h⟩ := h
                refine va_zald hx hb hK hP 1 1 rfl rfl hi dX5_told_78 ?_
                obtain ⟨J_87, hJi_87, h⟩ := jnE1 h
                have hJ_87 : ∀ (w_3 : Int32), J_87 w_3 → ∀ (H : Heap) (locs : List Loc), va_P (dC, dI) vwCl (wM m0 m1 m2 m3 m4 m5 m6 m7 m8 m9 cI cZ u) H → va_S A s.heap H locs → ∀ (ls : Array Slot), lv_has ls 4 [(0, .ref m0), (3, .int v3_2)] → W p l e (headSpec wsX5_told ({ frames := 6, cells := 0, slots := 0, locals := 151 } : Room)).room s m ([.ref m0, .int x1] : List Value).toArray below meth c H locs 0 0 (MQ below (va_Qi post (fun (u2 : St) (t : State) => va_P (dC, dI) vwCl (wM m0 m1 m2 m3 m4 m5 m6 m7 m8 m9 cI cZ u2) t.heap) A) ([.ref m0, .int x1] : List Value).toArray s 0 0 A) (F0 m 87 ls [.int w_3, .int v2_1]) := by
                  intro w_3 h H locs hP hS ls hl
                  have h := hJi_87 _ h
                  refine lv_iadd hx hb dX5_told_87 ?_
                  refine lv_topi (fun y_4 ey_4 => ?_)
                  have h := h y_4 ey_4
                  refine lv_istore_n (lv' := [(2, .int y_4), (0, .ref m0), (3, .int v3_2)]) hx hb dX5_told_88 rfl hl (by decide) rfl (fun ls hl => ?_)
                  obtain ⟨y_5, ey_5⟩ : ∃ z : Int32, z = v3_2 + (1 : Int32) := ⟨_, rfl⟩
                  have h := h y_5 ey_5
                  refine lv_iinc (v := y_5) (lv' := [(3, .int y_5), (2, .int y_4), (0, .ref m0)]) hx hb dX5_told_89 hl (k := 2) rfl (by rw [ey_5]; rfl) (by decide) rfl (fun ls hl => ?_)
                  refine lv_goto (tgt := 65) hx hb dX5_told_92 (by decide) ?_
                  exact ih_65 _ _ h _ _ hP hS _ (lv_sub hl [2, 1, 0] rfl)
                refine lv_if_eq (tgt := 86) hx hb dX5_told_79 (by decide) (fun c_79 => ?_) (fun c_79 => ?_)
                · have h := br1 h c_79
                  refine lv_iconst (v := 0) hx hb dX5_told_86 (by decide) ?_
                  exact hJ_87 _ h _ _ hP hS _ (lv_sub hl [0, 2] rfl)
                · have h := br2 h c_79
                  refine lv_iconst (v := 1) hx hb dX5_told_82 (by decide) ?_
                  refine lv_goto (tgt := 87) hx hb dX5_told_83 (by decide) ?_
                  exact hJ_87 _ h _ _ hP hS _ (lv_sub hl [0, 2] rfl)
          exact loop_65 n _ _ h _ _ hP hS _ (lv_sub hl [2, 1, 0] rfl)
        · have h := br2 h c_3_3
          rcases Decidable.em (x1 = 4) with c_3_4 | c_3_4
          · have h := br1 h c_3_4
            refine lv_tableIn (off := 94) (tgt := 97) hx hb dX5_told_3 (by rw [c_3_4]; decide) (by rw [c_3_4]; decide) (by rw [c_3_4]; rfl) (by decide) ?_
            refine lv_aload_n hx hb dX5_told_97 rfl (lv_at hl 1 rfl) ?_
            refine va_get (D := (dC, dI)) (ci := 3) (v := .ref m2) (C := RX5) (T := TX5) (N := 17) hx hb hts i_X5 hown hK hP 0 rfl rfl 4 (by decide) f_23 (fun _ h9 => h9) rfl dX5_told_98 ?_
            refine lv_iconst (v := 0) hx hb dX5_told_101 (by decide) ?_
            obtain ⟨hi, h⟩ := h
            refine va_iald hx hb hK hP 2 0 rfl rfl hi dX5_told_102 ?_
            exact W.iret hx hb hr (fun t ht _ => ⟨⟨_, u, rfl, h, hPr ht hP⟩, hS.F ht⟩) hS.2.2 dX5_told_103
          · have h := br2 h c_3_4
            rcases Decidable.em (x1 = 5) with c_3_5 | c_3_5
            · have h := br1 h c_3_5
              refine lv_tableIn (off := 101) (tgt := 104) hx hb dX5_told_3 (by rw [c_3_5]; decide) (by rw [c_3_5]; decide) (by rw [c_3_5]; rfl) (by decide) ?_
              refine lv_aload_n hx hb dX5_told_104 rfl (lv_at hl 1 rfl) ?_
              refine va_get (D := (dC, dI)) (ci := 3) (v := .ref m2) (C := RX5) (T := TX5) (N := 17) hx hb hts i_X5 hown hK hP 0 rfl rfl 4 (by decide) f_23 (fun _ h9 => h9) rfl dX5_told_105 ?_
              refine lv_iconst (v := 1) hx hb dX5_told_108 (by decide) ?_
              obtain ⟨hi, h⟩ := h
              refine va_iald hx hb hK hP 2 0 rfl rfl hi dX5_told_109 ?_
              exact W.iret hx hb hr (fun t ht _ => ⟨⟨_, u, rfl, h, hPr ht hP⟩, hS.F ht⟩) hS.2.2 dX5_told_110
            · have h := br2 h c_3_5
              rcases Decidable.em (x1 = 6) with c_3_6 | c_3_6
              · have h := br1 h c_3_6
                refine lv_tableIn (off := 108) (tgt := 111) hx hb dX5_told_3 (by rw [c_3_6]; decide) (by rw [c_3_6]; decide) (by rw [c_3_6]; rfl) (by decide) ?_
                refine lv_iconst (v := 0) hx hb dX5_told_111 (by decide) ?_
                refine lv_istore_n (lv' := [(3, .int (0 : Int32)), (2, .int (0 : Int32)), (0, .ref m0), (1, .int x1)]) hx hb dX5_told_112 rfl hl (by decide) rfl (fun ls hl => ?_)
                obtain ⟨K_113, hKi_113, h⟩ := jnE2 h
                have hK_113 : ∀ (v2_17 : Int32) (u_18 : St), K_113 v2_17 u_18 → ∀ (H : Heap) (locs : List Loc), va_P (dC, dI) vwCl (wM m0 m1 m2 m3 m4 m5 m6 m7 m8 m9 cI cZ u_18) H → va_S A s.heap H locs → ∀ (ls : Array Slot), lv_has ls 4 [(2, .int v2_17)] → W p l e (headSpec wsX5_told ({ frames := 6, cells := 0, slots := 0, locals := 151 } : Room)).room s m ([.ref m0, .int x1] : List Value).toArray below meth c H locs 0 0 (MQ below (va_Qi post (fun (u2 : St) (t : State) => va_P (dC, dI) vwCl (wM m0 m1 m2 m3 m4 m5 m6 m7 m8 m9 cI cZ u2) t.heap) A) ([.ref m0, .int x1] : List Value).toArray s 0 0 A) (F0 m 160 ls []) := by
                  intro v2_17 u_18 h H locs hP hS ls hl
                  have h := hKi_113 _ _ h
                  refine lv_iload_n hx hb dX5_told_160 rfl (lv_at hl 0 rfl) ?_
                  exact W.iret hx hb hr (fun t ht _ => ⟨⟨_, u_18, rfl, h, hPr ht hP⟩, hS.F ht⟩) hS.2.2 dX5_told_161
                obtain ⟨n, h⟩ := h
                have loop_113 : ∀ (n : Nat) (v2_7 : Int32) (v3_8 : Int32) (u_9 : St), L_X5_told_113 post K_113 n v2_7 v3_8 u_9 → ∀ (H : Heap) (locs : List Loc), va_P (dC, dI) vwCl (wM m0 m1 m2 m3 m4 m5 m6 m7 m8 m9 cI cZ u_9) H → va_S A s.heap H locs → ∀ (ls : Array Slot), lv_has ls 4 [(0, .ref m0), (2, .int v2_7), (3, .int v3_8)] → W p l e (headSpec wsX5_told ({ frames := 6, cells := 0, slots := 0, locals := 151 } : Room)).room s m ([.ref m0, .int x1] : List Value).toArray below meth c H locs 0 0 (MQ below (va_Qi post (fun (u2 : St) (t : State) => va_P (dC, dI) vwCl (wM m0 m1 m2 m3 m4 m5 m6 m7 m8 m9 cI cZ u2) t.heap) A) ([.ref m0, .int x1] : List Value).toArray s 0 0 A) (F0 m 113 ls []) := by
                  intro n
                  induction n with
                  | zero => intro v2_7 v3_8 u_9 h; rw [L_X5_told_113] at h; exact h.elim
                  | succ n ih_113 =>
                    intro v2_7 v3_8 u_9 h H locs hP hS ls hl
                    rw [L_X5_told_113] at h
                    refine lv_iload_n hx hb dX5_told_113 rfl (lv_at hl 2 rfl) ?_
                    refine lv_bipush (v := 16) hx hb dX5_told_114 (by decide) ?_
                    refine lv_icmp_ge (tgt := 160) hx hb dX5_told_116 (by decide) (fun c_116 => ?_) (fun c_116 => ?_)
                    · have h := br1 h c_116
                      exact hK_113 _ _ h _ _ hP hS _ (lv_sub hl [1] rfl)
                    · have h := br2 h c_116
                      refine lv_aload_n hx hb dX5_told_119 rfl (lv_at hl 0 rfl) ?_
                      refine lv_iload_n hx hb dX5_told_120 rfl (lv_at hl 2 rfl) ?_
                      refine lv_bipush (v := 8) hx hb dX5_told_121 (by decide) ?_
                      refine lv_idiv hx hb dX5_told_123 (by decide) ?_
                      refine lv_iload_n hx hb dX5_told_124 rfl (lv_at hl 2 rfl) ?_
                      refine lv_bipush (v := 8) hx hb dX5_told_125 (by decide) ?_
                      refine lv_irem hx hb dX5_told_127 (by decide) ?_
                      refine vp_callSi (W.runV (As := [.int _, .int _]) (rest := []) ⟨hx, hb, hml, hown, hts⟩ (c_X5_isChosen l dC dI m0 m1 m2 m3 m4 m5 m6 m7 m8 m9 cI cZ h) (cwV 2 hts gX5_told_X5_isChosen rfl rfl rfl (by decide +kernel) ⟨Nat.le_of_ble_eq_true rfl, Nat.le_of_ble_eq_true rfl⟩) ⟨fbR, va_recv hK hP (ci := 3) (q0 := 0) rfl rfl, fun U hU hW => ⟨rfl, by rw [hU]; exact hP, va_K.moved hW.alike hK⟩⟩ rfl rfl hl.1 rfl (lv_room (Nat.le_of_ble_eq_true rfl)) dX5_told_128 ⟨Nat.zero_le _, Nat.zero_le _⟩) (fun r_10 h => ?_)
                      obtain ⟨J_154, hJi_154, h⟩ := jnE2 h
                      have hJ_154 : ∀ (v2_14 : Int32) (u_15 : St), J_154 v2_14 u_15 → ∀ (H : Heap) (locs : List Loc), va_P (dC, dI) vwCl (wM m0 m1 m2 m3 m4 m5 m6 m7 m8 m9 cI cZ u_15) H → va_S A s.heap H locs → ∀ (ls : Array Slot), lv_has ls 4 [(0, .ref m0), (2, .int v2_14), (3, .int v3_8)] → W p l e (headSpec wsX5_told ({ frames := 6, cells := 0, slots := 0, locals := 151 } : Room)).room s m ([.ref m0, .int x1] : List Value).toArray below meth c H locs 0 0 (MQ below (va_Qi post (fun (u2 : St) (t : State) => va_P (dC, dI) vwCl (wM m0 m1 m2 m3 m4 m5 m6 m7 m8 m9 cI cZ u2) t.heap) A) ([.ref m0, .int x1] : List Value).toArray s 0 0 A) (F0 m 154 ls []) := by
                        intro v2_14 u_15 h H locs hP hS ls hl
                        have h := hJi_154 _ _ h
                        obtain ⟨y_16, ey_16⟩ : ∃ z : Int32, z = v3_8 + (1 : Int32) := ⟨_, rfl⟩
                        have h := h y_16 ey_16
                        refine lv_iinc (v := y_16) (lv' := [(3, .int y_16), (0, .ref m0), (2, .int v2_14)]) hx hb dX5_told_154 hl (k := 2) rfl (by rw [ey_16]; rfl) (by decide) rfl (fun ls hl => ?_)
                        refine lv_goto (tgt := 113) hx hb dX5_told_157 (by decide) ?_
                        exact ih_113 _ _ _ h _ _ hP hS _ (lv_sub hl [1, 2, 0] rfl)
                      refine lv_if_eq (tgt := 154) hx hb dX5_told_131 (by decide) (fun c_131 => ?_) (fun c_131 => ?_)
                      · have h := br1 h c_131
                        exact hJ_154 _ _ h _ _ hP hS _ (lv_sub hl [0, 1, 2] rfl)
                      · have h := br2 h c_131
                        refine lv_aload_n hx hb dX5_told_134 rfl (lv_at hl 0 rfl) ?_
                        refine lv_iload_n hx hb dX5_told_135 rfl (lv_at hl 2 rfl) ?_
                        refine lv_bipush (v := 8) hx hb dX5_told_136 (by decide) ?_
                        refine lv_idiv hx hb dX5_told_138 (by decide) ?_
                        refine lv_iload_n hx hb dX5_told_139 rfl (lv_at hl 2 rfl) ?_
                        refine lv_bipush (v := 8) hx hb dX5_told_140 (by decide) ?_
                        refine lv_irem hx hb dX5_told_142 (by decide) ?_
                        refine lv_iconst (v := 1) hx hb dX5_told_143 (by decide) ?_
                        have hFc := fr_all (ws := wM m0 m1 m2 m3 m4 m5 m6 m7 m8 m9 cI cZ u_9) (hD u_9) hS hA
                        refine va_callv (va_runV (As := [.int _, .int _, .int _]) (rest := []) ⟨hx, hb, hml, hown, hts⟩ (c_X5_findParts l dC dI m0 m1 m2 m3 m4 m5 m6 m7 m8 m9 cI cZ (H).size h) (cwV 3 hts gX5_told_X5_findParts rfl rfl rfl (by decide +kernel) ⟨Nat.le_of_ble_eq_true rfl, Nat.le_of_ble_eq_true rfl⟩) ⟨fbM, va_recv hK hP (ci := 3) (q0 := 0) rfl rfl, fun U hU hW => ⟨rfl, by rw [hU], by rw [hU]; exact hP, va_K.moved hW.alike hK, (hD u_9).weaken (fun _ _ _ _ => trivial)⟩⟩ rfl rfl hl.1 rfl (lv_room (Nat.le_of_ble_eq_true rfl)) dX5_told_144 ⟨Nat.zero_le _, Nat.zero_le _⟩) hS (fun q _ h => hFc q h) hFc (fun u_12 t H locs ht _ h hP1 _ hk1 hS => ?_)
                        have hP : va_P (dC, dI) vwCl (wM m0 m1 m2 m3 m4 m5 m6 m7 m8 m9 cI cZ u_12) H := by rw [← ht]; exact hP1
                        refine lv_iload_n hx hb dX5_told_147 rfl (lv_at hl 1 rfl) ?_
                        refine lv_aload_n hx hb dX5_told_148 rfl (lv_at hl 0 rfl) ?_
                        refine va_get (D := (dC, dI)) (ci := 3) (v := .int (u_12.1 10)) (C := RX5) (T := TX5) (N := 17) hx hb hts i_X5 hown hK hP 0 rfl rfl 10 (by decide) f_93 (fun _ h9 => h9) rfl dX5_told_149 ?_
                        refine lv_iadd hx hb dX5_told_152 ?_
                        refine lv_topi (fun y_13 ey_13 => ?_)
                        have h := h y_13 ey_13
                        refine lv_istore_n (lv' := [(2, .int y_13), (0, .ref m0), (3, .int v3_8)]) hx hb dX5_told_153 rfl hl (by decide) rfl (fun ls hl => ?_)
                        exact hJ_154 _ _ h _ _ hP hS _ (lv_sub hl [1, 0, 2] rfl)
                exact loop_113 n _ _ _ h _ _ hP hS _ (lv_sub hl [2, 1, 0] rfl)
              · have h := br2 h c_3_6
                rcases Decidable.em (x1 = 7) with c_3_7 | c_3_7
                · have h := br1 h c_3_7
                  refine lv_tableIn (off := 159) (tgt := 162) hx hb dX5_told_3 (by rw [c_3_7]; decide) (by rw [c_3_7]; decide) (by rw [c_3_7]; rfl) (by decide) ?_
                  refine lv_iconst (v := 0) hx hb dX5_told_162 (by decide) ?_
                  refine lv_istore_n (lv' := [(3, .int (0 : Int32)), (2, .int (0 : Int32)), (0, .ref m0), (1, .int x1)]) hx hb dX5_told_163 rfl hl (by decide) rfl (fun ls hl => ?_)
                  obtain ⟨K_164, hKi_164, h⟩ := jnE2 h
                  have hK_164 : ∀ (v2_29 : Int32) (u_30 : St), K_164 v2_29 u_30 → ∀ (H : Heap) (locs : List Loc), va_P (dC, dI) vwCl (wM m0 m1 m2 m3 m4 m5 m6 m7 m8 m9 cI cZ u_30) H → va_S A s.heap H locs → ∀ (ls : Array Slot), lv_has ls 4 [(2, .int v2_29)] → W p l e (headSpec wsX5_told ({ frames := 6, cells := 0, slots := 0, locals := 151 } : Room)).room s m ([.ref m0, .int x1] : List Value).toArray below meth c H locs 0 0 (MQ below (va_Qi post (fun (u2 : St) (t : State) => va_P (dC, dI) vwCl (wM m0 m1 m2 m3 m4 m5 m6 m7 m8 m9 cI cZ u2) t.heap) A) ([.ref m0, .int x1] : List Value).toArray s 0 0 A) (F0 m 210 ls []) := by
                    intro v2_29 u_30 h H locs hP hS ls hl
                    have h := hKi_164 _ _ h
                    refine lv_iload_n hx hb dX5_told_210 rfl (lv_at hl 0 rfl) ?_
                    exact W.iret hx hb hr (fun t ht _ => ⟨⟨_, u_30, rfl, h, hPr ht hP⟩, hS.F ht⟩) hS.2.2 dX5_told_211
                  obtain ⟨n, h⟩ := h
                  have loop_164 : ∀ (n : Nat) (v2_19 : Int32) (v3_20 : Int32) (u_21 : St), L_X5_told_164 post K_164 n v2_19 v3_20 u_21 → ∀ (H : Heap) (locs : List Loc), va_P (dC, dI) vwCl (wM m0 m1 m2 m3 m4 m5 m6 m7 m8 m9 cI cZ u_21) H → va_S A s.heap H locs → ∀ (ls : Array Slot), lv_has ls 4 [(0, .ref m0), (2, .int v2_19), (3, .int v3_20)] → W p l e (headSpec wsX5_told ({ frames := 6, cells := 0, slots := 0, locals := 151 } : Room)).room s m ([.ref m0, .int x1] : List Value).toArray below meth c H locs 0 0 (MQ below (va_Qi post (fun (u2 : St) (t : State) => va_P (dC, dI) vwCl (wM m0 m1 m2 m3 m4 m5 m6 m7 m8 m9 cI cZ u2) t.heap) A) ([.ref m0, .int x1] : List Value).toArray s 0 0 A) (F0 m 164 ls []) := by
                    intro n
                    induction n with
                    | zero => intro v2_19 v3_20 u_21 h; rw [L_X5_told_164] at h; exact h.elim
                    | succ n ih_164 =>
                      intro v2_19 v3_20 u_21 h H locs hP hS ls hl
                      rw [L_X5_told_164] at h
                      refine lv_iload_n hx hb dX5_told_164 rfl (lv_at hl 2 rfl) ?_
                      refine lv_bipush (v := 16) hx hb dX5_told_165 (by decide) ?_
                      refine lv_icmp_ge (tgt := 210) hx hb dX5_told_167 (by decide) (fun c_167 => ?_) (fun c_167 => ?_)
                      · have h := br1 h c_167
                        exact hK_164 _ _ h _ _ hP hS _ (lv_sub hl [1] rfl)
                      · have h := br2 h c_167
                        refine lv_iload_n hx hb dX5_told_170 rfl (lv_at hl 1 rfl) ?_
                        refine lv_aload_n hx hb dX5_told_171 rfl (lv_at hl 0 rfl) ?_
                        refine lv_iload_n hx hb dX5_told_172 rfl (lv_at hl 2 rfl) ?_
                        refine lv_bipush (v := 8) hx hb dX5_told_173 (by decide) ?_
                        refine lv_idiv hx hb dX5_told_175 (by decide) ?_
                        refine lv_iload_n hx hb dX5_told_176 rfl (lv_at hl 2 rfl) ?_
                        refine lv_bipush (v := 8) hx hb dX5_told_177 (by decide) ?_
                        refine lv_irem hx hb dX5_told_179 (by decide) ?_
                        refine vp_callSi (W.runV (As := [.int _, .int _]) (rest := [.int _]) ⟨hx, hb, hml, hown, hts⟩ (c_X5_isChosen l dC dI m0 m1 m2 m3 m4 m5 m6 m7 m8 m9 cI cZ h) (cwV 2 hts gX5_told_X5_isChosen rfl rfl rfl (by decide +kernel) ⟨Nat.le_of_ble_eq_true rfl, Nat.le_of_ble_eq_true rfl⟩) ⟨fbR, va_recv hK hP (ci := 3) (q0 := 0) rfl rfl, fun U hU hW => ⟨rfl, by rw [hU]; exact hP, va_K.moved hW.alike hK⟩⟩ rfl rfl hl.1 rfl (lv_room (Nat.le_of_ble_eq_true rfl)) dX5_told_180 ⟨Nat.zero_le _, Nat.zero_le _⟩) (fun r_22 h => ?_)
                        obtain ⟨J_202, hJi_202, h⟩ := jnE2 h
                        have hJ_202 : ∀ (w_25 : Int32) (u_26 : St), J_202 w_25 u_26 → ∀ (H : Heap) (locs : List Loc), va_P (dC, dI) vwCl (wM m0 m1 m2 m3 m4 m5 m6 m7 m8 m9 cI cZ u_26) H → va_S A s.heap H locs → ∀ (ls : Array Slot), lv_has ls 4 [(0, .ref m0), (3, .int v3_20)] → W p l e (headSpec wsX5_told ({ frames := 6, cells := 0, slots := 0, locals := 151 } : Room)).room s m ([.ref m0, .int x1] : List Value).toArray below meth c H locs 0 0 (MQ below (va_Qi post (fun (u2 : St) (t : State) => va_P (dC, dI) vwCl (wM m0 m1 m2 m3 m4 m5 m6 m7 m8 m9 cI cZ u2) t.heap) A) ([.ref m0, .int x1] : List Value).toArray s 0 0 A) (F0 m 202 ls [.int w_25, .int v2_19]) := by
                          intro w_25 u_26 h H locs hP hS ls hl
                          have h := hJi_202 _ _ h
                          refine lv_iadd hx hb dX5_told_202 ?_
                          refine lv_topi (fun y_27 ey_27 => ?_)
                          have h := h y_27 ey_27
                          refine lv_istore_n (lv' := [(2, .int y_27), (0, .ref m0), (3, .int v3_20)]) hx hb dX5_told_203 rfl hl (by decide) rfl (fun ls hl => ?_)
                          obtain ⟨y_28, ey_28⟩ : ∃ z : Int32, z = v3_20 + (1 : Int32) := ⟨_, rfl⟩
                          have h := h y_28 ey_28
                          refine lv_iinc (v := y_28) (lv' := [(3, .int y_28), (2, .int y_27), (0, .ref m0)]) hx hb dX5_told_204 hl (k := 2) rfl (by rw [ey_28]; rfl) (by decide) rfl (fun ls hl => ?_)
                          refine lv_goto (tgt := 164) hx hb dX5_told_207 (by decide) ?_
                          exact ih_164 _ _ _ h _ _ hP hS _ (lv_sub hl [2, 1, 0] rfl)
                        refine lv_if_eq (tgt := 201) hx hb dX5_told_183 (by decide) (fun c_183 => ?_) (fun c_183 => ?_)
                        · have h := br1 h c_183
                          refine lv_iconst (v := 0) hx hb dX5_told_201 (by decide) ?_
                          exact hJ_202 _ _ h _ _ hP hS _ (lv_sub hl [0, 2] rfl)
                        · have h := br2 h c_183
                          refine lv_aload_n hx hb dX5_told_186 rfl (lv_at hl 0 rfl) ?_
                          refine lv_iload_n hx hb dX5_told_187 rfl (lv_at hl 2 rfl) ?_
                          refine lv_bipush (v := 8) hx hb dX5_told_188 (by decide) ?_
                          refine lv_idiv hx hb dX5_told_190 (by decide) ?_
                          refine lv_iload_n hx hb dX5_told_191 rfl (lv_at hl 2 rfl) ?_
                          refine lv_bipush (v := 8) hx hb dX5_told_192 (by decide) ?_
                          refine lv_irem hx hb dX5_told_194 (by decide) ?_
                          have hFc := fr_all (ws := wM m0 m1 m2 m3 m4 m5 m6 m7 m8 m9 cI cZ u_21) (hD u_21) hS hA
                          refine va_calli (va_runV (As := [.int _, .int _]) (rest := [.int _]) ⟨hx, hb, hml, hown, hts⟩ (c_X5_looseOf l dC dI m0 m1 m2 m3 m4 m5 m6 m7 m8 m9 cI cZ (H).size h) (cwV 2 hts gX5_told_X5_looseOf rfl rfl rfl (by decide +kernel) ⟨Nat.le_of_ble_eq_true rfl, Nat.le_of_ble_eq_true rfl⟩) ⟨fbM, va_recv hK hP (ci := 3) (q0 := 0) rfl rfl, fun U hU hW => ⟨rfl, by rw [hU], by rw [hU]; exact hP, va_K.moved hW.alike hK, (hD u_21).weaken (fun _ _ _ _ => trivial)⟩⟩ rfl rfl hl.1 rfl (lv_room (Nat.le_of_ble_eq_true rfl)) dX5_told_195 ⟨Nat.zero_le _, Nat.zero_le _⟩) hS (fun q _ h => hFc q h) hFc (fun r_23 u_24 t H locs ht _ h hP1 _ hk1 hS => ?_)
                          have hP : va_P (dC, dI) vwCl (wM m0 m1 m2 m3 m4 m5 m6 m7 m8 m9 cI cZ u_24) H := by rw [← ht]; exact hP1
                          refine lv_goto (tgt := 202) hx hb dX5_told_198 (by decide) ?_
                          exact hJ_202 _ _ h _ _ hP hS _ (lv_sub hl [0, 2] rfl)
                  exact loop_164 n _ _ _ h _ _ hP hS _ (lv_sub hl [2, 1, 0] rfl)
                · have h := br2 h c_3_7
                  refine lv_tableOut (tgt := 212) hx hb dX5_told_3 (by
                    have t_0 : x1.toInt ≠ 0 := fun q => c_3_0 (Int32.toInt_inj.mp (q.trans (by decide)))
                    have t_1 : x1.toInt ≠ 1 := fun q => c_3_1 (Int32.toInt_inj.mp (q.trans (by decide)))
                    have t_2 : x1.toInt ≠ 2 := fun q => c_3_2 (Int32.toInt_inj.mp (q.trans (by decide)))
                    have t_3 : x1.toInt ≠ 3 := fun q => c_3_3 (Int32.toInt_inj.mp (q.trans (by decide)))
                    have t_4 : x1.toInt ≠ 4 := fun q => c_3_4 (Int32.toInt_inj.mp (q.trans (by decide)))
                    have t_5 : x1.toInt ≠ 5 := fun q => c_3_5 (Int32.toInt_inj.mp (q.trans (by decide)))
                    have t_6 : x1.toInt ≠ 6 := fun q => c_3_6 (Int32.toInt_inj.mp (q.trans (by decide)))
                    have t_7 : x1.toInt ≠ 7 := fun q => c_3_7 (Int32.toInt_inj.mp (q.trans (by decide)))
                    omega) (by decide) ?_
                  refine lv_bipush (v := (-2)) hx hb dX5_told_212 (by decide) ?_
                  exact W.iret hx hb hr (fun t ht _ => ⟨⟨_, u, rfl, h, hPr ht hP⟩, hS.F ht⟩) hS.2.2 dX5_told_214
set_option maxHeartbeats 4000000 in
set_option maxRecDepth 100000 in
theorem c_X5_isAhead (l : Launch) (dC : Nat → ClassId) (dI : Nat → Nat → Nat) (m0 m1 m2 m3 m4 m5 m6 m7 m8 m9 : Nat) (cI cZ : ClassId) {u : St} {x1 : Int32} {x2 : Int32} {post : Int32 → Prop} (h : P_X5_isAhead u x1 x2 post) : Met l yX5_isAhead wsX5_isAhead ({ frames := 0, cells := 0, slots := 0, locals := 0 } : Room) (RPre (dC, dI) vwCl (wM m0 m1 m2 m3 m4 m5 m6 m7 m8 m9 cI cZ u) [(cI, .int), (cZ, .boolean)] [.ref m0, .int x1, .int x2]) (vp_Si post) 0 0 (fun _ => False) := by
  refine Met.ofW (cc := cX5_isAhead) (maxL := 3) (ret := (some .boolean)) (by decide) rfl ?_
  intro p e s m args below meth c s₁ B hml hv
  obtain ⟨rfl, hP, hK⟩ := hv
  have hx := B.exec
  have hb := B.bytes
  have hr := B.returns
  have hts := atoms_spec (ws := wsX5_isAhead) B.pre
  have hown : s.vm.findClass RX5 = some m.cls := findClass_of_methodNamed B.named
  have hlocks := B.notSynchronized
  have hl := lv_entry ([.ref m0, .int x1, .int x2]) (n := 3) (Nat.le_of_ble_eq_true rfl)
  rw [lg_entry_eq]
  generalize (lg_sl ([.ref m0, .int x1, .int x2]) ++ List.replicate (3 - (lg_sl ([.ref m0, .int x1, .int x2])).length) Slot.unset).toArray = ls at hl ⊢
  have hl : lv_has ls 3 [(0, .ref m0), (1, .int x1), (2, .int x2)] := hl
  have i_X5 : ∀ w ∈ u_ws RX5 TX5 17, w ∈ wsX5_isAhead := by decide +kernel
  have f_45 := hts (.fieldLink RX5 45 "SliceBodyModel" "aside" "[I") (by decide +kernel)
  unfold P_X5_isAhead at h
  refine lv_aload_n hx hb dX5_isAhead_0 rfl (lv_at hl 0 rfl) ?_
  refine va_get (D := (dC, dI)) (ci := 3) (v := .ref m9) (C := RX5) (T := TX5) (N := 17) hx hb hts i_X5 hown hK hP 0 rfl rfl 16 (by decide) f_45 (fun _ h9 => h9) rfl dX5_isAhead_1 ?_
  refine lv_bipush (v := 7) hx hb dX5_isAhead_4 (by decide) ?_
  refine lv_iload_n hx hb dX5_isAhead_6 rfl (lv_at hl 1 rfl) ?_
  refine lv_imul hx hb dX5_isAhead_7 ?_
  refine lv_bipush (v := 6) hx hb dX5_isAhead_8 (by decide) ?_
  refine lv_iadd hx hb dX5_isAhead_10 ?_
  obtain ⟨hi, h⟩ := h
  refine va_iald hx hb hK hP 9 0 rfl rfl hi dX5_isAhead_11 ?_
  refine lv_aload_n hx hb dX5_isAhead_12 rfl (lv_at hl 0 rfl) ?_
  refine va_get (D := (dC, dI)) (ci := 3) (v := .ref m9) (C := RX5) (T := TX5) (N := 17) hx hb hts i_X5 hown hK hP 0 rfl rfl 16 (by decide) f_45 (fun _ h9 => h9) rfl dX5_isAhead_13 ?_
  refine lv_bipush (v := 7) hx hb dX5_isAhead_16 (by decide) ?_
  refine lv_iload_n hx hb dX5_isAhead_18 rfl (lv_at hl 2 rfl) ?_
  refine lv_imul hx hb dX5_isAhead_19 ?_
  refine lv_bipush (v := 6) hx hb dX5_isAhead_20 (by decide) ?_
  refine lv_iadd hx hb dX5_isAhead_22 ?_
  obtain ⟨hi, h⟩ := h
  refine va_iald hx hb hK hP 9 0 rfl rfl hi dX5_isAhead_23 ?_
  refine lv_icmp_eq (tgt := 60) hx hb dX5_isAhead_24 (by decide) (fun c_24 => ?_) (fun c_24 => ?_)
  · have h := br1 h c_24
    refine lv_aload_n hx hb dX5_isAhead_60 rfl (lv_at hl 0 rfl) ?_
    refine va_get (D := (dC, dI)) (ci := 3) (v := .ref m9) (C := RX5) (T := TX5) (N := 17) hx hb hts i_X5 hown hK hP 0 rfl rfl 16 (by decide) f_45 (fun _ h9 => h9) rfl dX5_isAhead_61 ?_
    refine lv_bipush (v := 7) hx hb dX5_isAhead_64 (by decide) ?_
    refine lv_iload_n hx hb dX5_isAhead_66 rfl (lv_at hl 1 rfl) ?_
    refine lv_imul hx hb dX5_isAhead_67 ?_
    refine lv_iconst (v := 5) hx hb dX5_isAhead_68 (by decide) ?_
    refine lv_iadd hx hb dX5_isAhead_69 ?_
    obtain ⟨hi, h⟩ := h
    refine va_iald hx hb hK hP 9 0 rfl rfl hi dX5_isAhead_70 ?_
    refine lv_aload_n hx hb dX5_isAhead_71 rfl (lv_at hl 0 rfl) ?_
    refine va_get (D := (dC, dI)) (ci := 3) (v := .ref m9) (C := RX5) (T := TX5) (N := 17) hx hb hts i_X5 hown hK hP 0 rfl rfl 16 (by decide) f_45 (fun _ h9 => h9) rfl dX5_isAhead_72 ?_
    refine lv_bipush (v := 7) hx hb dX5_isAhead_75 (by decide) ?_
    refine lv_iload_n hx hb dX5_isAhead_77 rfl (lv_at hl 2 rfl) ?_
    refine lv_imul hx hb dX5_isAhead_78 ?_
    refine lv_iconst (v := 5) hx hb dX5_isAhead_79 (by decide) ?_
    refine lv_iadd hx hb dX5_isAhead_80 ?_
    obtain ⟨hi, h⟩ := h
    refine va_iald hx hb hK hP 9 0 rfl rfl hi dX5_isAhead_81 ?_
    refine lv_icmp_le (tgt := 89) hx hb dX5_isAhead_82 (by decide) (fun c_82 => ?_) (fun c_82 => ?_)
    · have h := br1 h c_82
      refine lv_iconst (v := 0) hx hb dX5_isAhead_89 (by decide) ?_
      exact W.zret (ty := .boolean) hx hb hr rfl (fun t ht _ => ⟨_, rfl, h, ht⟩) (fun q hq => by cases hq) dX5_isAhead_90
    · have h := br2 h c_82
      refine lv_iconst (v := 1) hx hb dX5_isAhead_85 (by decide) ?_
      refine lv_goto (tgt := 90) hx hb dX5_isAhead_86 (by decide) ?_
      exact W.zret (ty := .boolean) hx hb hr rfl (fun t ht _ => ⟨_, rfl, h, ht⟩) (fun q hq => by cases hq) dX5_isAhead_90
  · have h := br2 h c_24
    refine lv_aload_n hx hb dX5_isAhead_27 rfl (lv_at hl 0 rfl) ?_
    refine va_get (D := (dC, dI)) (ci := 3) (v := .ref m9) (C := RX5) (T := TX5) (N := 17) hx hb hts i_X5 hown hK hP 0 rfl rfl 16 (by decide) f_45 (fun _ h9 => h9) rfl dX5_isAhead_28 ?_
    refine lv_bipush (v := 7) hx hb dX5_isAhead_31 (by decide) ?_
    refine lv_iload_n hx hb dX5_isAhead_33 rfl (lv_at hl 1 rfl) ?_
    refine lv_imul hx hb dX5_isAhead_34 ?_
    refine lv_bipush (v := 6) hx hb dX5_isAhead_35 (by decide) ?_
    refine lv_iadd hx hb dX5_isAhead_37 ?_
    obtain ⟨hi, h⟩ := h
    refine va_iald hx hb hK hP 9 0 rfl rfl hi dX5_isAhead_38 ?_
    refine lv_aload_n hx hb dX5_isAhead_39 rfl (lv_at hl 0 rfl) ?_
    refine va_get (D := (dC, dI)) (ci := 3) (v := .ref m9) (C := RX5) (T := TX5) (N := 17) hx hb hts i_X5 hown hK hP 0 rfl rfl 16 (by decide) f_45 (fun _ h9 => h9) rfl dX5_isAhead_40 ?_
    refine lv_bipush (v := 7) hx hb dX5_isAhead_43 (by decide) ?_
    refine lv_iload_n hx hb dX5_isAhead_45 rfl (lv_at hl 2 rfl) ?_
    refine lv_imul hx hb dX5_isAhead_46 ?_
    refine lv_bipush (v := 6) hx hb dX5_isAhead_47 (by decide) ?_
    refine lv_iadd hx hb dX5_isAhead_49 ?_
    obtain ⟨hi, h⟩ := h
    refine va_iald hx hb hK hP 9 0 rfl rfl hi dX5_isAhead_50 ?_
    refine lv_icmp_le (tgt := 58) hx hb dX5_isAhead_51 (by decide) (fun c_51 => ?_) (fun c_51 => ?_)
    · have h := br1 h c_51
      refine lv_iconst (v := 0) hx hb dX5_isAhead_58 (by decide) ?_
      exact W.zret (ty := .boolean) hx hb hr rfl (fun t ht _ => ⟨_, rfl, h, ht⟩) (fun q hq => by cases hq) dX5_isAhead_59
    · have h := br2 h c_51
      refine lv_iconst (v := 1) hx hb dX5_isAhead_54 (by decide) ?_
      refine lv_goto (tgt := 59) hx hb dX5_isAhead_55 (by decide) ?_
      exact W.zret (ty := .boolean) hx hb hr rfl (fun t ht _ => ⟨_, rfl, h, ht⟩) (fun q hq => by cases hq) dX5_isAhead_59
set_option maxHeartbeats 4000000 in
set_option maxRecDepth 100000 in
theorem c_X5_exchange (l : Launch) (dC : Nat → ClassId) (dI : Nat → Nat → Nat) (m0 m1 m2 m3 m4 m5 m6 m7 m8 m9 : Nat) (cI cZ : ClassId) (sz : Nat) {u : St} {x1 : Int32} {x2 : Int32} {post : St → Prop} (h : P_X5_exchange u x1 x2 post) : Met l yX5_exchange wsX5_exchange ({ frames := 0, cells := 0, slots := 0, locals := 0 } : Room) (MPre (dC, dI) vwCl (wM m0 m1 m2 m3 m4 m5 m6 m7 m8 m9 cI cZ u) [(cI, .int), (cZ, .boolean)] sz [.ref m0, .int x1, .int x2]) (va_Qv post (fun (u2 : St) (t : State) => va_P (dC, dI) vwCl (wM m0 m1 m2 m3 m4 m5 m6 m7 m8 m9 cI cZ u2) t.heap) (va_A (wM m0 m1 m2 m3 m4 m5 m6 m7 m8 m9 cI cZ u) sz)) 0 0 (va_A (wM m0 m1 m2 m3 m4 m5 m6 m7 m8 m9 cI cZ u) sz) := by
  refine Met.ofW (cc := cX5_exchange) (maxL := 5) (ret := none) (by decide) rfl ?_
  intro p e s m args below meth c s₁ B hml hv
  obtain ⟨rfl, hsz, hP, hK, hD0⟩ := hv
  have hx := B.exec
  have hb := B.bytes
  have hr := B.returns
  have hts := atoms_spec (ws := wsX5_exchange) B.pre
  have hown : s.vm.findClass RX5 = some m.cls := findClass_of_methodNamed B.named
  have hlocks := B.notSynchronized
  subst hsz
  have hD1 := hD0.self (sz := s.heap.size)
  generalize hAe : va_A (wM m0 m1 m2 m3 m4 m5 m6 m7 m8 m9 cI cZ u) s.heap.size = A at hD1 ⊢
  have hA : ∀ q : Nat, s.heap.size ≤ q → A q := fun q h => by rw [← hAe]; exact Or.inr h
  have hD : ∀ z, va_D A (wM m0 m1 m2 m3 m4 m5 m6 m7 m8 m9 cI cZ z) := fun z => va_Dsame hD1 rfl
  have hS : va_S A s.heap s.heap [] := va_S.rf
  have hl := lv_entry ([.ref m0, .int x1, .int x2]) (n := 5) (Nat.le_of_ble_eq_true rfl)
  rw [lg_entry_eq]
  generalize (lg_sl ([.ref m0, .int x1, .int x2]) ++ List.replicate (5 - (lg_sl ([.ref m0, .int x1, .int x2])).length) Slot.unset).toArray = ls at hl ⊢
  have hl : lv_has ls 5 [(0, .ref m0), (1, .int x1), (2, .int x2)] := hl
  have i_X5 : ∀ w ∈ u_ws RX5 TX5 17, w ∈ wsX5_exchange := by decide +kernel
  have f_45 := hts (.fieldLink RX5 45 "SliceBodyModel" "aside" "[I") (by decide +kernel)
  unfold P_X5_exchange at h
  refine lv_iconst (v := 0) hx hb dX5_exchange_0 (by decide) ?_
  refine lv_istore_n (lv' := [(3, .int (0 : Int32)), (0, .ref m0), (1, .int x1), (2, .int x2)]) hx hb dX5_exchange_1 rfl hl (by decide) rfl (fun ls hl => ?_)
  obtain ⟨K_2, hKi_2, h⟩ := jnE1 h
  have hK_2 : ∀ (u_8 : St), K_2 u_8 → ∀ (H : Heap) (locs : List Loc), va_P (dC, dI) vwCl (wM m0 m1 m2 m3 m4 m5 m6 m7 m8 m9 cI cZ u_8) H → va_S A s.heap H locs → ∀ (ls : Array Slot), lv_has ls 5 [] → W p l e (headSpec wsX5_exchange ({ frames := 0, cells := 0, slots := 0, locals := 0 } : Room)).room s m ([.ref m0, .int x1, .int x2] : List Value).toArray below meth c H locs 0 0 (MQ below (va_Qv post (fun (u2 : St) (t : State) => va_P (dC, dI) vwCl (wM m0 m1 m2 m3 m4 m5 m6 m7 m8 m9 cI cZ u2) t.heap) A) ([.ref m0, .int x1, .int x2] : List Value).toArray s 0 0 A) (F0 m 62 ls []) := by
    intro u_8 h H locs hP hS ls hl
    have h := hKi_2 _ h
    exact W.vret hx hb hr (fun t ht _ => ⟨⟨u_8, rfl, h, hPr ht hP⟩, hS.F ht⟩) hS.2.2 dX5_exchange_62
  obtain ⟨n, h⟩ := h
  have loop_2 : ∀ (n : Nat) (v3_1 : Int32) (u_2 : St), L_X5_exchange_2 post K_2 x1 x2 n v3_1 u_2 → ∀ (H : Heap) (locs : List Loc), va_P (dC, dI) vwCl (wM m0 m1 m2 m3 m4 m5 m6 m7 m8 m9 cI cZ u_2) H → va_S A s.heap H locs → ∀ (ls : Array Slot), lv_has ls 5 [(0, .ref m0), (1, .int x1), (2, .int x2), (3, .int v3_1)] → W p l e (headSpec wsX5_exchange ({ frames := 0, cells := 0, slots := 0, locals := 0 } : Room)).room s m ([.ref m0, .int x1, .int x2] : List Value).toArray below meth c H locs 0 0 (MQ below (va_Qv post (fun (u2 : St) (t : State) => va_P (dC, dI) vwCl (wM m0 m1 m2 m3 m4 m5 m6 m7 m8 m9 cI cZ u2) t.heap) A) ([.ref m0, .int x1, .int x2] : List Value).toArray s 0 0 A) (F0 m 2 ls []) := by
    intro n
    induction n with
    | zero => intro v3_1 u_2 h; rw [L_X5_exchange_2] at h; exact h.elim
    | succ n ih_2 =>
      intro v3_1 u_2 h H locs hP hS ls hl
      rw [L_X5_exchange_2] at h
      refine lv_iload_n hx hb dX5_exchange_2 rfl (lv_at hl 3 rfl) ?_
      refine lv_bipush (v := 7) hx hb dX5_exchange_3 (by decide) ?_
      refine lv_icmp_ge (tgt := 62) hx hb dX5_exchange_5 (by decide) (fun c_5 => ?_) (fun c_5 => ?_)
      · have h := br1 h c_5
        exact hK_2 _ h _ _ hP hS _ (lv_sub hl [] rfl)
      · have h := br2 h c_5
        refine lv_aload_n hx hb dX5_exchange_8 rfl (lv_at hl 0 rfl) ?_
        refine va_get (D := (dC, dI)) (ci := 3) (v := .ref m9) (C := RX5) (T := TX5) (N := 17) hx hb hts i_X5 hown hK hP 0 rfl rfl 16 (by decide) f_45 (fun _ h9 => h9) rfl dX5_exchange_9 ?_
        refine lv_bipush (v := 7) hx hb dX5_exchange_12 (by decide) ?_
        refine lv_iload_n hx hb dX5_exchange_14 rfl (lv_at hl 1 rfl) ?_
        refine lv_imul hx hb dX5_exchange_15 ?_
        refine lv_iload_n hx hb dX5_exchange_16 rfl (lv_at hl 3 rfl) ?_
        refine lv_iadd hx hb dX5_exchange_17 ?_
        obtain ⟨hi, h⟩ := h
        refine va_iald hx hb hK hP 9 0 rfl rfl hi dX5_exchange_18 ?_
        refine lv_topi (fun y_3 ey_3 => ?_)
        have h := h y_3 ey_3
        refine lv_istore (lv' := [(4, .int y_3), (0, .ref m0), (1, .int x1), (2, .int x2), (3, .int v3_1)]) hx hb dX5_exchange_19 hl (by decide) rfl (fun ls hl => ?_)
        refine lv_aload_n hx hb dX5_exchange_21 rfl (lv_at hl 1 rfl) ?_
        refine va_get (D := (dC, dI)) (ci := 3) (v := .ref m9) (C := RX5) (T := TX5) (N := 17) hx hb hts i_X5 hown hK hP 0 rfl rfl 16 (by decide) f_45 (fun _ h9 => h9) rfl dX5_exchange_22 ?_
        refine lv_bipush (v := 7) hx hb dX5_exchange_25 (by decide) ?_
        refine lv_iload_n hx hb dX5_exchange_27 rfl (lv_at hl 2 rfl) ?_
        refine lv_imul hx hb dX5_exchange_28 ?_
        refine lv_iload_n hx hb dX5_exchange_29 rfl (lv_at hl 4 rfl) ?_
        refine lv_iadd hx hb dX5_exchange_30 ?_
        refine lv_aload_n hx hb dX5_exchange_31 rfl (lv_at hl 1 rfl) ?_
        refine va_get (D := (dC, dI)) (ci := 3) (v := .ref m9) (C := RX5) (T := TX5) (N := 17) hx hb hts i_X5 hown hK hP 0 rfl rfl 16 (by decide) f_45 (fun _ h9 => h9) rfl dX5_exchange_32 ?_
        refine lv_bipush (v := 7) hx hb dX5_exchange_35 (by decide) ?_
        refine lv_iload_n hx hb dX5_exchange_37 rfl (lv_at hl 3 rfl) ?_
        refine lv_imul hx hb dX5_exchange_38 ?_
        refine lv_iload_n hx hb dX5_exchange_39 rfl (lv_at hl 4 rfl) ?_
        refine lv_iadd hx hb dX5_exchange_40 ?_
        obtain ⟨hi, h⟩ := h
        refine va_iald hx hb hK hP 9 0 rfl rfl hi dX5_exchange_41 ?_
        refine lv_topi (fun y_4 ey_4 => ?_)
        have h := h y_4 ey_4
        obtain ⟨hi, h⟩ := h
        refine va_iast hx hb hK hP (hD _) hS 9 0 rfl rfl hi dX5_exchange_42 (fun H locs hP _ hS => ?_)
        obtain ⟨u_5, eu_5⟩ : ∃ z : St, z = (u_2.1, va_up u_2.2 16 (upd (u_2.2 16) (((7 : Int32) * x1) + v3_1).toNatClampNeg y_4)) := ⟨_, rfl⟩
        have h := h u_5 eu_5
        have hP : va_P (dC, dI) vwCl (wM m0 m1 m2 m3 m4 m5 m6 m7 m8 m9 cI cZ u_5) H := by rw [eu_5]; exact hP
        refine lv_aload_n hx hb dX5_exchange_43 rfl (lv_at hl 1 rfl) ?_
        refine va_get (D := (dC, dI)) (ci := 3) (v := .ref m9) (C := RX5) (T := TX5) (N := 17) hx hb hts i_X5 hown hK hP 0 rfl rfl 16 (by decide) f_45 (fun _ h9 => h9) rfl dX5_exchange_44 ?_
        refine lv_bipush (v := 7) hx hb dX5_exchange_47 (by decide) ?_
        refine lv_iload_n hx hb dX5_exchange_49 rfl (lv_at hl 3 rfl) ?_
        refine lv_imul hx hb dX5_exchange_50 ?_
        refine lv_iload_n hx hb dX5_exchange_51 rfl (lv_at hl 4 rfl) ?_
        refine lv_iadd hx hb dX5_exchange_52 ?_
        refine lv_iload hx hb dX5_exchange_53 (lv_at hl 0 rfl) ?_
        obtain ⟨hi, h⟩ := h
        refine va_iast hx hb hK hP (hD _) hS 9 0 rfl rfl hi dX5_exchange_55 (fun H locs hP _ hS => ?_)
        obtain ⟨u_6, eu_6⟩ : ∃ z : St, z = (u_5.1, va_up u_5.2 16 (upd (u_5.2 16) (((7 : Int32) * x2) + v3_1).toNatClampNeg y_3)) := ⟨_, rfl⟩
        have h := h u_6 eu_6
        have hP : va_P (dC, dI) vwCl (wM m0 m1 m2 m3 m4 m5 m6 m7 m8 m9 cI cZ u_6) H := by rw [eu_6]; exact hP
        obtain ⟨y_7, ey_7⟩ : ∃ z : Int32, z = v3_1 + (1 : Int32) := ⟨_, rfl⟩
        have h := h y_7 ey_7
        refine lv_iinc (v := y_7) (lv' := [(3, .int y_7), (4, .int y_3), (0, .ref m0), (1, .int x1), (2, .int x2)]) hx hb dX5_exchange_56 hl (k := 4) rfl (by rw [ey_7]; rfl) (by decide) rfl (fun ls hl => ?_)
        refine lv_goto (tgt := 2) hx hb dX5_exchange_59 (by decide) ?_
        exact ih_2 _ _ h _ _ hP hS _ (lv_sub hl [2, 3, 4, 0] rfl)
  exact loop_2 n _ _ h _ _ hP hS _ (lv_sub hl [1, 2, 3, 0] rfl)
set_option maxHeartbeats 4000000 in
set_option maxRecDepth 100000 in
theorem c_X5_gather (l : Launch) (dC : Nat → ClassId) (dI : Nat → Nat → Nat) (m0 m1 m2 m3 m4 m5 m6 m7 m8 m9 : Nat) (cI cZ : ClassId) (sz : Nat) {u : St} {x1 : Int32} {post : Int32 → St → Prop} (h : P_X5_gather u x1 post) : Met l yX5_gather wsX5_gather ({ frames := 3, cells := 0, slots := 0, locals := 75 } : Room) (MPre (dC, dI) vwCl (wM m0 m1 m2 m3 m4 m5 m6 m7 m8 m9 cI cZ u) [(cI, .int), (cZ, .boolean)] sz [.ref m0, .int x1]) (va_Qi post (fun (u2 : St) (t : State) => va_P (dC, dI) vwCl (wM m0 m1 m2 m3 m4 m5 m6 m7 m8 m9 cI cZ u2) t.heap) (va_A (wM m0 m1 m2 m3 m4 m5 m6 m7 m8 m9 cI cZ u) sz)) 0 0 (va_A (wM m0 m1 m2 m3 m4 m5 m6 m7 m8 m9 cI cZ u) sz) := by
  refine Met.ofW (cc := cX5_gather) (maxL := 5) (ret := (some .int)) (by decide) rfl ?_
  intro p e s m args below meth c s₁ B hml hv
  obtain ⟨rfl, hsz, hP, hK, hD0⟩ := hv
  have hx := B.exec
  have hb := B.bytes
  have hr := B.returns
  have hts := atoms_spec (ws := wsX5_gather) B.pre
  have hown : s.vm.findClass RX5 = some m.cls := findClass_of_methodNamed B.named
  have hlocks := B.notSynchronized
  subst hsz
  have hD1 := hD0.self (sz := s.heap.size)
  generalize hAe : va_A (wM m0 m1 m2 m3 m4 m5 m6 m7 m8 m9 cI cZ u) s.heap.size = A at hD1 ⊢
  have hA : ∀ q : Nat, s.heap.size ≤ q → A q := fun q h => by rw [← hAe]; exact Or.inr h
  have hD : ∀ z, va_D A (wM m0 m1 m2 m3 m4 m5 m6 m7 m8 m9 cI cZ z) := fun z => va_Dsame hD1 rfl
  have hS : va_S A s.heap s.heap [] := va_S.rf
  have hl := lv_entry ([.ref m0, .int x1]) (n := 5) (Nat.le_of_ble_eq_true rfl)
  rw [lg_entry_eq]
  generalize (lg_sl ([.ref m0, .int x1]) ++ List.replicate (5 - (lg_sl ([.ref m0, .int x1])).length) Slot.unset).toArray = ls at hl ⊢
  have hl : lv_has ls 5 [(0, .ref m0), (1, .int x1)] := hl
  have i_X5 : ∀ w ∈ u_ws RX5 TX5 17, w ∈ wsX5_gather := by decide +kernel
  have f_45 := hts (.fieldLink RX5 45 "SliceBodyModel" "aside" "[I") (by decide +kernel)
  unfold P_X5_gather at h
  refine lv_iconst (v := 0) hx hb dX5_gather_0 (by decide) ?_
  refine lv_istore_n (lv' := [(2, .int (0 : Int32)), (0, .ref m0), (1, .int x1)]) hx hb dX5_gather_1 rfl hl (by decide) rfl (fun ls hl => ?_)
  refine lv_iconst (v := 0) hx hb dX5_gather_2 (by decide) ?_
  refine lv_istore_n (lv' := [(3, .int (0 : Int32)), (2, .int (0 : Int32)), (0, .ref m0), (1, .int x1)]) hx hb dX5_gather_3 rfl hl (by decide) rfl (fun ls hl => ?_)
  obtain ⟨K_4, hKi_4, h⟩ := jnE2 h
  have hK_4 : ∀ (v2_27 : Int32) (u_28 : St), K_4 v2_27 u_28 → ∀ (H : Heap) (locs : List Loc), va_P (dC, dI) vwCl (wM m0 m1 m2 m3 m4 m5 m6 m7 m8 m9 cI cZ u_28) H → va_S A s.heap H locs → ∀ (ls : Array Slot), lv_has ls 5 [(2, .int v2_27)] → W p l e (headSpec wsX5_gather ({ frames := 3, cells := 0, slots := 0, locals := 75 } : Room)).room s m ([.ref m0, .int x1] : List Value).toArray below meth c H locs 0 0 (MQ below (va_Qi post (fun (u2 : St) (t : State) => va_P (dC, dI) vwCl (wM m0 m1 m2 m3 m4 m5 m6 m7 m8 m9 cI cZ u2) t.heap) A) ([.ref m0, .int x1] : List Value).toArray s 0 0 A) (F0 m 168 ls []) := by
    intro v2_27 u_28 h H locs hP hS ls hl
    have h := hKi_4 _ _ h
    refine lv_iload_n hx hb dX5_gather_168 rfl (lv_at hl 0 rfl) ?_
    exact W.iret hx hb hr (fun t ht _ => ⟨⟨_, u_28, rfl, h, hPr ht hP⟩, hS.F ht⟩) hS.2.2 dX5_gather_169
  obtain ⟨n, h⟩ := h
  have loop_4 : ∀ (n : Nat) (v2_1 : Int32) (v3_2 : Int32) (u_3 : St), L_X5_gather_4 post K_4 x1 n v2_1 v3_2 u_3 → ∀ (H : Heap) (locs : List Loc), va_P (dC, dI) vwCl (wM m0 m1 m2 m3 m4 m5 m6 m7 m8 m9 cI cZ u_3) H → va_S A s.heap H locs → ∀ (ls : Array Slot), lv_has ls 5 [(0, .ref m0), (1, .int x1), (2, .int v2_1), (3, .int v3_2)] → W p l e (headSpec wsX5_gather ({ frames := 3, cells := 0, slots := 0, locals := 75 } : Room)).room s m ([.ref m0, .int x1] : List Value).toArray below meth c H locs 0 0 (MQ below (va_Qi post (fun (u2 : St) (t : State) => va_P (dC, dI) vwCl (wM m0 m1 m2 m3 m4 m5 m6 m7 m8 m9 cI cZ u2) t.heap) A) ([.ref m0, .int x1] : List Value).toArray s 0 0 A) (F0 m 4 ls []) := by
    intro n
    induction n with
    | zero => intro v2_1 v3_2 u_3 h; rw [L_X5_gather_4] at h; exact h.elim
    | succ n ih_4 =>
      intro v2_1 v3_2 u_3 h H locs hP hS ls hl
      rw [L_X5_gather_4] at h
      refine lv_iload_n hx hb dX5_gather_4 rfl (lv_at hl 3 rfl) ?_
      refine lv_bipush (v := 16) hx hb dX5_gather_5 (by decide) ?_
      refine lv_icmp_ge (tgt := 168) hx hb dX5_gather_7 (by decide) (fun c_7 => ?_) (fun c_7 => ?_)
      · have h := br1 h c_7
        exact hK_4 _ _ h _ _ hP hS _ (lv_sub hl [2] rfl)
      · have h := br2 h c_7
        refine lv_aload_n hx hb dX5_gather_10 rfl (lv_at hl 0 rfl) ?_
        refine lv_iload_n hx hb dX5_gather_11 rfl (lv_at hl 3 rfl) ?_
        refine lv_bipush (v := 8) hx hb dX5_gather_12 (by decide) ?_
        refine lv_idiv hx hb dX5_gather_14 (by decide) ?_
        refine lv_iload_n hx hb dX5_gather_15 rfl (lv_at hl 3 rfl) ?_
        refine lv_bipush (v := 8) hx hb dX5_gather_16 (by decide) ?_
        refine lv_irem hx hb dX5_gather_18 (by decide) ?_
        refine vp_callSi (W.runV (As := [.int _, .int _]) (rest := []) ⟨hx, hb, hml, hown, hts⟩ (c_X5_isChosen l dC dI m0 m1 m2 m3 m4 m5 m6 m7 m8 m9 cI cZ h) (cwV 2 hts gX5_gather_X5_isChosen rfl rfl rfl (by decide +kernel) ⟨Nat.le_of_ble_eq_true rfl, Nat.le_of_ble_eq_true rfl⟩) ⟨fbR, va_recv hK hP (ci := 3) (q0 := 0) rfl rfl, fun U hU hW => ⟨rfl, by rw [hU]; exact hP, va_K.moved hW.alike hK⟩⟩ rfl rfl hl.1 rfl (lv_room (Nat.le_of_ble_eq_true rfl)) dX5_gather_19 ⟨Nat.zero_le _, Nat.zero_le _⟩) (fun r_4 h => ?_)
        obtain ⟨J_162, hJi_162, h⟩ := jnE2 h
        have hJ_162 : ∀ (v2_24 : Int32) (u_25 : St), J_162 v2_24 u_25 → ∀ (H : Heap) (locs : List Loc), va_P (dC, dI) vwCl (wM m0 m1 m2 m3 m4 m5 m6 m7 m8 m9 cI cZ u_25) H → va_S A s.heap H locs → ∀ (ls : Array Slot), lv_has ls 5 [(0, .ref m0), (1, .int x1), (2, .int v2_24), (3, .int v3_2)] → W p l e (headSpec wsX5_gather ({ frames := 3, cells := 0, slots := 0, locals := 75 } : Room)).room s m ([.ref m0, .int x1] : List Value).toArray below meth c H locs 0 0 (MQ below (va_Qi post (fun (u2 : St) (t : State) => va_P (dC, dI) vwCl (wM m0 m1 m2 m3 m4 m5 m6 m7 m8 m9 cI cZ u2) t.heap) A) ([.ref m0, .int x1] : List Value).toArray s 0 0 A) (F0 m 162 ls []) := by
          intro v2_24 u_25 h H locs hP hS ls hl
          have h := hJi_162 _ _ h
          obtain ⟨y_26, ey_26⟩ : ∃ z : Int32, z = v3_2 + (1 : Int32) := ⟨_, rfl⟩
          have h := h y_26 ey_26
          refine lv_iinc (v := y_26) (lv' := [(3, .int y_26), (0, .ref m0), (1, .int x1), (2, .int v2_24)]) hx hb dX5_gather_162 hl (k := 3) rfl (by rw [ey_26]; rfl) (by decide) rfl (fun ls hl => ?_)
          refine lv_goto (tgt := 4) hx hb dX5_gather_165 (by decide) ?_
          exact ih_4 _ _ _ h _ _ hP hS _ (lv_sub hl [1, 2, 3, 0] rfl)
        refine lv_if_eq (tgt := 162) hx hb dX5_gather_22 (by decide) (fun c_22 => ?_) (fun c_22 => ?_)
        · have h := br1 h c_22
          exact hJ_162 _ _ h _ _ hP hS _ (lv_sub hl [0, 1, 2, 3] rfl)
        · have h := br2 h c_22
          refine lv_aload_n hx hb dX5_gather_25 rfl (lv_at hl 0 rfl) ?_
          refine lv_iload_n hx hb dX5_gather_26 rfl (lv_at hl 3 rfl) ?_
          refine lv_bipush (v := 8) hx hb dX5_gather_27 (by decide) ?_
          refine lv_idiv hx hb dX5_gather_29 (by decide) ?_
          refine lv_iload_n hx hb dX5_gather_30 rfl (lv_at hl 3 rfl) ?_
          refine lv_bipush (v := 8) hx hb dX5_gather_31 (by decide) ?_
          refine lv_irem hx hb dX5_gather_33 (by decide) ?_
          refine lv_iconst (v := 0) hx hb dX5_gather_34 (by decide) ?_
          refine vp_callSi (W.runV (As := [.int _, .int _, .int _]) (rest := []) ⟨hx, hb, hml, hown, hts⟩ (c_X5_spanOf l dC dI m0 m1 m2 m3 m4 m5 m6 m7 m8 m9 cI cZ h) (cwV 3 hts gX5_gather_X5_spanOf rfl rfl rfl (by decide +kernel) ⟨Nat.le_of_ble_eq_true rfl, Nat.le_of_ble_eq_true rfl⟩) ⟨fbR, va_recv hK hP (ci := 3) (q0 := 0) rfl rfl, fun U hU hW => ⟨rfl, by rw [hU]; exact hP, va_K.moved hW.alike hK⟩⟩ rfl rfl hl.1 rfl (lv_room (Nat.le_of_ble_eq_true rfl)) dX5_gather_35 ⟨Nat.zero_le _, Nat.zero_le _⟩) (fun r_5 h => ?_)
          refine lv_if_le (tgt := 162) hx hb dX5_gather_38 (by decide) (fun c_38 => ?_) (fun c_38 => ?_)
          · have h := br1 h c_38
            exact hJ_162 _ _ h _ _ hP hS _ (lv_sub hl [0, 1, 2, 3] rfl)
          · have h := br2 h c_38
            refine lv_aload_n hx hb dX5_gather_41 rfl (lv_at hl 0 rfl) ?_
            refine va_get (D := (dC, dI)) (ci := 3) (v := .ref m9) (C := RX5) (T := TX5) (N := 17) hx hb hts i_X5 hown hK hP 0 rfl rfl 16 (by decide) f_45 (fun _ h9 => h9) rfl dX5_gather_42 ?_
            refine lv_bipush (v := 7) hx hb dX5_gather_45 (by decide) ?_
            refine lv_iload_n hx hb dX5_gather_47 rfl (lv_at hl 2 rfl) ?_
            refine lv_imul hx hb dX5_gather_48 ?_
            refine lv_iload_n hx hb dX5_gather_49 rfl (lv_at hl 3 rfl) ?_
            refine lv_bipush (v := 8) hx hb dX5_gather_50 (by decide) ?_
            refine lv_idiv hx hb dX5_gather_52 (by decide) ?_
            refine lv_topi (fun y_6 ey_6 => ?_)
            have h := h y_6 ey_6
            obtain ⟨hi, h⟩ := h
            refine va_iast hx hb hK hP (hD _) hS 9 0 rfl rfl hi dX5_gather_53 (fun H locs hP _ hS => ?_)
            obtain ⟨u_7, eu_7⟩ : ∃ z : St, z = (u_3.1, va_up u_3.2 16 (upd (u_3.2 16) ((7 : Int32) * v2_1).toNatClampNeg y_6)) := ⟨_, rfl⟩
            have h := h u_7 eu_7
            have hP : va_P (dC, dI) vwCl (wM m0 m1 m2 m3 m4 m5 m6 m7 m8 m9 cI cZ u_7) H := by rw [eu_7]; exact hP
            refine lv_aload_n hx hb dX5_gather_54 rfl (lv_at hl 0 rfl) ?_
            refine va_get (D := (dC, dI)) (ci := 3) (v := .ref m9) (C := RX5) (T := TX5) (N := 17) hx hb hts i_X5 hown hK hP 0 rfl rfl 16 (by decide) f_45 (fun _ h9 => h9) rfl dX5_gather_55 ?_
            refine lv_bipush (v := 7) hx hb dX5_gather_58 (by decide) ?_
            refine lv_iload_n hx hb dX5_gather_60 rfl (lv_at hl 2 rfl) ?_
            refine lv_imul hx hb dX5_gather_61 ?_
            refine lv_iconst (v := 1) hx hb dX5_gather_62 (by decide) ?_
            refine lv_iadd hx hb dX5_gather_63 ?_
            refine lv_iload_n hx hb dX5_gather_64 rfl (lv_at hl 3 rfl) ?_
            refine lv_bipush (v := 8) hx hb dX5_gather_65 (by decide) ?_
            refine lv_irem hx hb dX5_gather_67 (by decide) ?_
            refine lv_topi (fun y_8 ey_8 => ?_)
            have h := h y_8 ey_8
            obtain ⟨hi, h⟩ := h
            refine va_iast hx hb hK hP (hD _) hS 9 0 rfl rfl hi dX5_gather_68 (fun H locs hP _ hS => ?_)
            obtain ⟨u_9, eu_9⟩ : ∃ z : St, z = (u_7.1, va_up u_7.2 16 (upd (u_7.2 16) (((7 : Int32) * v2_1) + (1 : Int32)).toNatClampNeg y_8)) := ⟨_, rfl⟩
            have h := h u_9 eu_9
            have hP : va_P (dC, dI) vwCl (wM m0 m1 m2 m3 m4 m5 m6 m7 m8 m9 cI cZ u_9) H := by rw [eu_9]; exact hP
            refine lv_aload_n hx hb dX5_gather_69 rfl (lv_at hl 0 rfl) ?_
            refine va_get (D := (dC, dI)) (ci := 3) (v := .ref m9) (C := RX5) (T := TX5) (N := 17) hx hb hts i_X5 hown hK hP 0 rfl rfl 16 (by decide) f_45 (fun _ h9 => h9) rfl dX5_gather_70 ?_
            refine lv_bipush (v := 7) hx hb dX5_gather_73 (by decide) ?_
            refine lv_iload_n hx hb dX5_gather_75 rfl (lv_at hl 2 rfl) ?_
            refine lv_imul hx hb dX5_gather_76 ?_
            refine lv_iconst (v := 5) hx hb dX5_gather_77 (by decide) ?_
            refine lv_iadd hx hb dX5_gather_78 ?_
            refine lv_aload_n hx hb dX5_gather_79 rfl (lv_at hl 0 rfl) ?_
            refine lv_iload_n hx hb dX5_gather_80 rfl (lv_at hl 3 rfl) ?_
            refine lv_bipush (v := 8) hx hb dX5_gather_81 (by decide) ?_
            refine lv_idiv hx hb dX5_gather_83 (by decide) ?_
            refine lv_iload_n hx hb dX5_gather_84 rfl (lv_at hl 3 rfl) ?_
            refine lv_bipush (v := 8) hx hb dX5_gather_85 (by decide) ?_
            refine lv_irem hx hb dX5_gather_87 (by decide) ?_
            refine lv_iconst (v := 0) hx hb dX5_gather_88 (by decide) ?_
            refine vp_callSi (W.runV (As := [.int _, .int _, .int _]) (rest := [.int _, .ref m9]) ⟨hx, hb, hml, hown, hts⟩ (c_X5_spanOf l dC dI m0 m1 m2 m3 m4 m5 m6 m7 m8 m9 cI cZ h) (cwV 3 hts gX5_gather_X5_spanOf rfl rfl rfl (by decide +kernel) ⟨Nat.le_of_ble_eq_true rfl, Nat.le_of_ble_eq_true rfl⟩) ⟨fbR, va_recv hK hP (ci := 3) (q0 := 0) rfl rfl, fun U hU hW => ⟨rfl, by rw [hU]; exact hP, va_K.moved hW.alike hK⟩⟩ rfl rfl hl.1 rfl (lv_room (Nat.le_of_ble_eq_true rfl)) dX5_gather_89 ⟨Nat.zero_le _, Nat.zero_le _⟩) (fun r_10 h => ?_)
            refine lv_iload_n hx hb dX5_gather_92 rfl (lv_at hl 1 rfl) ?_
            refine lv_iadd hx hb dX5_gather_93 ?_
            refine lv_topi (fun y_11 ey_11 => ?_)
            have h := h y_11 ey_11
            obtain ⟨hi, h⟩ := h
            refine va_iast hx hb hK hP (hD _) hS 9 0 rfl rfl hi dX5_gather_94 (fun H locs hP _ hS => ?_)
            obtain ⟨u_12, eu_12⟩ : ∃ z : St, z = (u_9.1, va_up u_9.2 16 (upd (u_9.2 16) (((7 : Int32) * v2_1) + (5 : Int32)).toNatClampNeg y_11)) := ⟨_, rfl⟩
            have h := h u_12 eu_12
            have hP : va_P (dC, dI) vwCl (wM m0 m1 m2 m3 m4 m5 m6 m7 m8 m9 cI cZ u_12) H := by rw [eu_12]; exact hP
            refine lv_aload_n hx hb dX5_gather_95 rfl (lv_at hl 0 rfl) ?_
            refine va_get (D := (dC, dI)) (ci := 3) (v := .ref m9) (C := RX5) (T := TX5) (N := 17) hx hb hts i_X5 hown hK hP 0 rfl rfl 16 (by decide) f_45 (fun _ h9 => h9) rfl dX5_gather_96 ?_
            refine lv_bipush (v := 7) hx hb dX5_gather_99 (by decide) ?_
            refine lv_iload_n hx hb dX5_gather_101 rfl (lv_at hl 2 rfl) ?_
            refine lv_imul hx hb dX5_gather_102 ?_
            refine lv_bipush (v := 6) hx hb dX5_gather_103 (by decide) ?_
            refine lv_iadd hx hb dX5_gather_105 ?_
            refine lv_aload_n hx hb dX5_gather_106 rfl (lv_at hl 0 rfl) ?_
            refine lv_iload_n hx hb dX5_gather_107 rfl (lv_at hl 3 rfl) ?_
            refine lv_bipush (v := 8) hx hb dX5_gather_108 (by decide) ?_
            refine lv_idiv hx hb dX5_gather_110 (by decide) ?_
            refine lv_iload_n hx hb dX5_gather_111 rfl (lv_at hl 3 rfl) ?_
            refine lv_bipush (v := 8) hx hb dX5_gather_112 (by decide) ?_
            refine lv_irem hx hb dX5_gather_114 (by decide) ?_
            refine lv_iconst (v := 1) hx hb dX5_gather_115 (by decide) ?_
            refine vp_callSi (W.runV (As := [.int _, .int _, .int _]) (rest := [.int _, .ref m9]) ⟨hx, hb, hml, hown, hts⟩ (c_X5_spanOf l dC dI m0 m1 m2 m3 m4 m5 m6 m7 m8 m9 cI cZ h) (cwV 3 hts gX5_gather_X5_spanOf rfl rfl rfl (by decide +kernel) ⟨Nat.le_of_ble_eq_true rfl, Nat.le_of_ble_eq_true rfl⟩) ⟨fbR, va_recv hK hP (ci := 3) (q0 := 0) rfl rfl, fun U hU hW => ⟨rfl, by rw [hU]; exact hP, va_K.moved hW.alike hK⟩⟩ rfl rfl hl.1 rfl (lv_room (Nat.le_of_ble_eq_true rfl)) dX5_gather_116 ⟨Nat.zero_le _, Nat.zero_le _⟩) (fun r_13 h => ?_)
            refine lv_iload_n hx hb dX5_gather_119 rfl (lv_at hl 1 rfl) ?_
            refine lv_iadd hx hb dX5_gather_120 ?_
            refine lv_topi (fun y_14 ey_14 => ?_)
            have h := h y_14 ey_14
            obtain ⟨hi, h⟩ := h
            refine va_iast hx hb hK hP (hD _) hS 9 0 rfl rfl hi dX5_gather_121 (fun H locs hP _ hS => ?_)
            obtain ⟨u_15, eu_15⟩ : ∃ z : St, z = (u_12.1, va_up u_12.2 16 (upd (u_12.2 16) (((7 : Int32) * v2_1) + (6 : Int32)).toNatClampNeg y_14)) := ⟨_, rfl⟩
            have h := h u_15 eu_15
            have hP : va_P (dC, dI) vwCl (wM m0 m1 m2 m3 m4 m5 m6 m7 m8 m9 cI cZ u_15) H := by rw [eu_15]; exact hP
            refine lv_iload_n hx hb dX5_gather_122 rfl (lv_at hl 2 rfl) ?_
            refine lv_istore (lv' := [(4, .int v2_1), (0, .ref m0), (1, .int x1), (2, .int v2_1), (3, .int v3_2)]) hx hb dX5_gather_123 hl (by decide) rfl (fun ls hl => ?_)
            obtain ⟨K_125, hKi_125, h⟩ := jnE1 h
            have hK_125 : ∀ (u_22 : St), K_125 u_22 → ∀ (H : Heap) (locs : List Loc), va_P (dC, dI) vwCl (wM m0 m1 m2 m3 m4 m5 m6 m7 m8 m9 cI cZ u_22) H → va_S A s.heap H locs → ∀ (ls : Array Slot), lv_has ls 5 [(0, .ref m0), (1, .int x1), (2, .int v2_1), (3, .int v3_2)] → W p l e (headSpec wsX5_gather ({ frames := 3, cells := 0, slots := 0, locals := 75 } : Room)).room s m ([.ref m0, .int x1] : List Value).toArray below meth c H locs 0 0 (MQ below (va_Qi post (fun (u2 : St) (t : State) => va_P (dC, dI) vwCl (wM m0 m1 m2 m3 m4 m5 m6 m7 m8 m9 cI cZ u2) t.heap) A) ([.ref m0, .int x1] : List Value).toArray s 0 0 A) (F0 m 159 ls []) := by
              intro u_22 h H locs hP hS ls hl
              have h := hKi_125 _ h
              obtain ⟨y_23, ey_23⟩ : ∃ z : Int32, z = v2_1 + (1 : Int32) := ⟨_, rfl⟩
              have h := h y_23 ey_23
              refine lv_iinc (v := y_23) (lv' := [(2, .int y_23), (0, .ref m0), (1, .int x1), (3, .int v3_2)]) hx hb dX5_gather_159 hl (k := 2) rfl (by rw [ey_23]; rfl) (by decide) rfl (fun ls hl => ?_)
              exact hJ_162 _ _ h _ _ hP hS _ (lv_sub hl [1, 2, 0, 3] rfl)
            obtain ⟨n, h⟩ := h
            have loop_125 : ∀ (n : Nat) (v4_16 : Int32) (u_17 : St), L_X5_gather_125 post K_125 n v4_16 u_17 → ∀ (H : Heap) (locs : List Loc), va_P (dC, dI) vwCl (wM m0 m1 m2 m3 m4 m5 m6 m7 m8 m9 cI cZ u_17) H → va_S A s.heap H locs → ∀ (ls : Array Slot), lv_has ls 5 [(0, .ref m0), (1, .int x1), (2, .int v2_1), (3, .int v3_2), (4, .int v4_16)] → W p l e (headSpec wsX5_gather ({ frames := 3, cells := 0, slots := 0, locals := 75 } : Room)).room s m ([.ref m0, .int x1] : List Value).toArray below meth c H locs 0 0 (MQ below (va_Qi post (fun (u2 : St) (t : State) => va_P (dC, dI) vwCl (wM m0 m1 m2 m3 m4 m5 m6 m7 m8 m9 cI cZ u2) t.heap) A) ([.ref m0, .int x1] : List Value).toArray s 0 0 A) (F0 m 125 ls []) := by
              intro n
              induction n with
              | zero => intro v4_16 u_17 h; rw [L_X5_gather_125] at h; exact h.elim
              | succ n ih_125 =>
                intro v4_16 u_17 h H locs hP hS ls hl
                rw [L_X5_gather_125] at h
                refine lv_iload hx hb dX5_gather_125 (lv_at hl 4 rfl) ?_
                refine lv_if_le (tgt := 159) hx hb dX5_gather_127 (by decide) (fun c_127 => ?_) (fun c_127 => ?_)
                · have h := br1 h c_127
                  exact hK_125 _ h _ _ hP hS _ (lv_sub hl [0, 1, 2, 3] rfl)
                · have h := br2 h c_127
                  refine lv_aload_n hx hb dX5_gather_130 rfl (lv_at hl 0 rfl) ?_
                  refine lv_iload hx hb dX5_gather_131 (lv_at hl 4 rfl) ?_
                  refine lv_iload hx hb dX5_gather_133 (lv_at hl 4 rfl) ?_
                  refine lv_iconst (v := 1) hx hb dX5_gather_135 (by decide) ?_
                  refine lv_isub hx hb dX5_gather_136 ?_
                  refine vp_callSi (W.runV (As := [.int _, .int _]) (rest := []) ⟨hx, hb, hml, hown, hts⟩ (c_X5_isAhead l dC dI m0 m1 m2 m3 m4 m5 m6 m7 m8 m9 cI cZ h) (cwV 2 hts gX5_gather_X5_isAhead rfl rfl rfl (by decide +kernel) ⟨Nat.le_of_ble_eq_true rfl, Nat.le_of_ble_eq_true rfl⟩) ⟨fbR, va_recv hK hP (ci := 3) (q0 := 0) rfl rfl, fun U hU hW => ⟨rfl, by rw [hU]; exact hP, va_K.moved hW.alike hK⟩⟩ rfl rfl hl.1 rfl (lv_room (Nat.le_of_ble_eq_true rfl)) dX5_gather_137 ⟨Nat.zero_le _, Nat.zero_le _⟩) (fun r_18 h => ?_)
                  refine lv_if_eq (tgt := 159) hx hb dX5_gather_140 (by decide) (fun c_140 => ?_) (fun c_140 => ?_)
                  · have h := br1 h c_140
                    exact hK_125 _ h _ _ hP hS _ (lv_sub hl [0, 1, 2, 3] rfl)
                  · have h := br2 h c_140
                    refine lv_aload_n hx hb dX5_gather_143 rfl (lv_at hl 0 rfl) ?_
                    refine lv_iload hx hb dX5_gather_144 (lv_at hl 4 rfl) ?_
                    refine lv_iload hx hb dX5_gather_146 (lv_at hl 4 rfl) ?_
                    refine lv_iconst (v := 1) hx hb dX5_gather_148 (by decide) ?_
                    refine lv_isub hx hb dX5_gather_149 ?_
                    have hFc := fr_all (ws := wM m0 m1 m2 m3 m4 m5 m6 m7 m8 m9 cI cZ u_17) (hD u_17) hS hA
                    refine va_callv (va_runV (As := [.int _, .int _]) (rest := []) ⟨hx, hb, hml, hown, hts⟩ (c_X5_exchange l dC dI m0 m1 m2 m3 m4 m5 m6 m7 m8 m9 cI cZ (H).size h) (cwV 2 hts gX5_gather_X5_exchange rfl rfl rfl (by decide +kernel) ⟨Nat.le_of_ble_eq_true rfl, Nat.le_of_ble_eq_true rfl⟩) ⟨fbM, va_recv hK hP (ci := 3) (q0 := 0) rfl rfl, fun U hU hW => ⟨rfl, by rw [hU], by rw [hU]; exact hP, va_K.moved hW.alike hK, (hD u_17).weaken (fun _ _ _ _ => trivial)⟩⟩ rfl rfl hl.1 rfl (lv_room (Nat.le_of_ble_eq_true rfl)) dX5_gather_150 ⟨Nat.zero_le _, Nat.zero_le _⟩) hS (fun q _ h => hFc q h) hFc (fun u_20 t H locs ht _ h hP1 _ hk1 hS => ?_)
                    have hP : va_P (dC, dI) vwCl (wM m0 m1 m2 m3 m4 m5 m6 m7 m8 m9 cI cZ u_20) H := by rw [← ht]; exact hP1
                    obtain ⟨y_21, ey_21⟩ : ∃ z : Int32, z = v4_16 + (-1 : Int32) := ⟨_, rfl⟩
                    have h := h y_21 ey_21
                    refine lv_iinc (v := y_21) (lv' := [(4, .int y_21), (0, .ref m0), (1, .int x1), (2, .int v2_1), (3, .int v3_2)]) hx hb dX5_gather_153 hl (k := 4) rfl (by rw [ey_21]; rfl) (by decide) rfl (fun ls hl => ?_)
                    refine lv_goto (tgt := 125) hx hb dX5_gather_156 (by decide) ?_
                    exact ih_125 _ _ h _ _ hP hS _ (lv_sub hl [1, 2, 3, 4, 0] rfl)
            exact loop_125 n _ _ h _ _ hP hS _ (lv_sub hl [1, 2, 3, 4, 0] rfl)
  exact loop_4 n _ _ _ h _ _ hP hS _ (lv_sub hl [2, 3, 1, 0] rfl)
set_option maxHeartbeats 4000000 in
set_option maxRecDepth 100000 in
theorem c_X5_lay (l : Launch) (dC : Nat → ClassId) (dI : Nat → Nat → Nat) (m0 m1 m2 m3 m4 m5 m6 m7 m8 m9 : Nat) (cI cZ : ClassId) (sz : Nat) {u : St} {x1 : Int32} {x2 : Int32} {x3 : Int32} {post : Int32 → St → Prop} (h : P_X5_lay u x1 x2 x3 post) : Met l yX5_lay wsX5_lay ({ frames := 4, cells := 0, slots := 0, locals := 99 } : Room) (MPre (dC, dI) vwCl (wM m0 m1 m2 m3 m4 m5 m6 m7 m8 m9 cI cZ u) [(cI, .int), (cZ, .boolean)] sz [.ref m0, .int x1, .int x2, .int x3]) (va_Qi post (fun (u2 : St) (t : State) => va_P (dC, dI) vwCl (wM m0 m1 m2 m3 m4 m5 m6 m7 m8 m9 cI cZ u2) t.heap) (va_A (wM m0 m1 m2 m3 m4 m5 m6 m7 m8 m9 cI cZ u) sz)) 0 0 (va_A (wM m0 m1 m2 m3 m4 m5 m6 m7 m8 m9 cI cZ u) sz) := by
  refine Met.ofW (cc := cX5_lay) (maxL := 13) (ret := (some .int)) (by decide) rfl ?_
  intro p e s m args below meth c s₁ B hml hv
  obtain ⟨rfl, hsz, hP, hK, hD0⟩ := hv
  have hx := B.exec
  have hb := B.bytes
  have hr := B.returns
  have hts := atoms_spec (ws := wsX5_lay) B.pre
  have hown : s.vm.findClass RX5 = some m.cls := findClass_of_methodNamed B.named
  have hlocks := B.notSynchronized
  subst hsz
  have hD1 := hD0.self (sz := s.heap.size)
  generalize hAe : va_A (wM m0 m1 m2 m3 m4 m5 m6 m7 m8 m9 cI cZ u) s.heap.size = A at hD1 ⊢
  have hA : ∀ q : Nat, s.heap.size ≤ q → A q := fun q h => by rw [← hAe]; exact Or.inr h
  have hD : ∀ z, va_D A (wM m0 m1 m2 m3 m4 m5 m6 m7 m8 m9 cI cZ z) := fun z => va_Dsame hD1 rfl
  have hS : va_S A s.heap s.heap [] := va_S.rf
  have hl := lv_entry ([.ref m0, .int x1, .int x2, .int x3]) (n := 13) (Nat.le_of_ble_eq_true rfl)
  rw [lg_entry_eq]
  generalize (lg_sl ([.ref m0, .int x1, .int x2, .int x3]) ++ List.replicate (13 - (lg_sl ([.ref m0, .int x1, .int x2, .int x3])).length) Slot.unset).toArray = ls at hl ⊢
  have hl : lv_has ls 13 [(0, .ref m0), (1, .int x1), (2, .int x2), (3, .int x3)] := hl
  have i_X5 : ∀ w ∈ u_ws RX5 TX5 17, w ∈ wsX5_lay := by decide +kernel
  have f_42 := hts (.fieldLink RX5 42 "SliceBodyModel" "rows" "[I") (by decide +kernel)
  have f_45 := hts (.fieldLink RX5 45 "SliceBodyModel" "aside" "[I") (by decide +kernel)
  have f_54 := hts (.fieldLink RX5 54 "SliceBodyModel" "isLaid" "Z") (by decide +kernel)
  have f_146 := hts (.fieldLink RX5 146 "SliceBodyModel" "laidMany" "I") (by decide +kernel)
  have f_149 := hts (.fieldLink RX5 149 "SliceBodyModel" "leastMany" "I") (by decide +kernel)
  have k_139 := hts (.constantLong RX5 139 (60)) (by decide +kernel)
  have k_141 := hts (.constantLong RX5 141 (5)) (by decide +kernel)
  unfold P_X5_lay at h
  refine lv_iload_n hx hb dX5_lay_0 rfl (lv_at hl 1 rfl) ?_
  refine lv_i2l hx hb dX5_lay_1 rfl ?_
  refine lv_lconst (v := 1) hx hb dX5_lay_2 (by decide) ?_
  refine lv_ldc2 hx hb hown k_139 dX5_lay_3 ?_
  refine vp_callSi (W.runS (As := [.long _, .long _, .long _]) (rest := []) ⟨hx, hb, hml, hown, hts⟩ (c_X5_in l h) (va_cwS 3 hts gX5_lay_X5_in rfl rfl rfl (by decide +kernel) ⟨Nat.le_of_ble_eq_true rfl, Nat.le_of_ble_eq_true rfl⟩) ⟨fun _ _ _ _ q => q, fun _ _ _ => ⟨rfl, trivial⟩⟩ rfl rfl hl.1 rfl (lv_room (Nat.le_of_ble_eq_true rfl)) dX5_lay_6 ⟨Nat.zero_le _, Nat.zero_le _⟩) (fun r_1 h => ?_)
  refine lv_if_eq (tgt := 36) hx hb dX5_lay_9 (by decide) (fun c_9 => ?_) (fun c_9 => ?_)
  · have h := br1 h c_9
    refine lv_bipush (v := (-2)) hx hb dX5_lay_36 (by decide) ?_
    exact W.iret hx hb hr (fun t ht _ => ⟨⟨_, u, rfl, h, hPr ht hP⟩, hS.F ht⟩) hS.2.2 dX5_lay_38
  · have h := br2 h c_9
    refine lv_iload_n hx hb dX5_lay_12 rfl (lv_at hl 2 rfl) ?_
    refine lv_i2l hx hb dX5_lay_13 rfl ?_
    refine lv_lconst (v := 1) hx hb dX5_lay_14 (by decide) ?_
    refine lv_ldc2 hx hb hown k_139 dX5_lay_15 ?_
    refine vp_callSi (W.runS (As := [.long _, .long _, .long _]) (rest := []) ⟨hx, hb, hml, hown, hts⟩ (c_X5_in l h) (va_cwS 3 hts gX5_lay_X5_in rfl rfl rfl (by decide +kernel) ⟨Nat.le_of_ble_eq_true rfl, Nat.le_of_ble_eq_true rfl⟩) ⟨fun _ _ _ _ q => q, fun _ _ _ => ⟨rfl, trivial⟩⟩ rfl rfl hl.1 rfl (lv_room (Nat.le_of_ble_eq_true rfl)) dX5_lay_18 ⟨Nat.zero_le _, Nat.zero_le _⟩) (fun r_2 h => ?_)
    refine lv_if_eq (tgt := 36) hx hb dX5_lay_21 (by decide) (fun c_21 => ?_) (fun c_21 => ?_)
    · have h := br1 h c_21
      refine lv_bipush (v := (-2)) hx hb dX5_lay_36 (by decide) ?_
      exact W.iret hx hb hr (fun t ht _ => ⟨⟨_, u, rfl, h, hPr ht hP⟩, hS.F ht⟩) hS.2.2 dX5_lay_38
    · have h := br2 h c_21
      refine lv_iload_n hx hb dX5_lay_24 rfl (lv_at hl 3 rfl) ?_
      refine lv_i2l hx hb dX5_lay_25 rfl ?_
      refine lv_lconst (v := 0) hx hb dX5_lay_26 (by decide) ?_
      refine lv_ldc2 hx hb hown k_141 dX5_lay_27 ?_
      refine vp_callSi (W.runS (As := [.long _, .long _, .long _]) (rest := []) ⟨hx, hb, hml, hown, hts⟩ (c_X5_in l h) (va_cwS 3 hts gX5_lay_X5_in rfl rfl rfl (by decide +kernel) ⟨Nat.le_of_ble_eq_true rfl, Nat.le_of_ble_eq_true rfl⟩) ⟨fun _ _ _ _ q => q, fun _ _ _ => ⟨rfl, trivial⟩⟩ rfl rfl hl.1 rfl (lv_room (Nat.le_of_ble_eq_true rfl)) dX5_lay_30 ⟨Nat.zero_le _, Nat.zero_le _⟩) (fun r_3 h => ?_)
      refine lv_if_ne (tgt := 39) hx hb dX5_lay_33 (by decide) (fun c_33 => ?_) (fun c_33 => ?_)
      · have h := br2 h c_33
        refine lv_aload_n hx hb dX5_lay_39 rfl (lv_at hl 0 rfl) ?_
        refine lv_iload_n hx hb dX5_lay_40 rfl (lv_at hl 3 rfl) ?_
        have hFc := fr_all (ws := wM m0 m1 m2 m3 m4 m5 m6 m7 m8 m9 cI cZ u) (hD u) hS hA
        refine va_calli (va_runV (As := [.int _]) (rest := []) ⟨hx, hb, hml, hown, hts⟩ (c_X5_gather l dC dI m0 m1 m2 m3 m4 m5 m6 m7 m8 m9 cI cZ (s.heap).size h) (cwV 1 hts gX5_lay_X5_gather rfl rfl rfl (by decide +kernel) ⟨Nat.le_of_ble_eq_true rfl, Nat.le_of_ble_eq_true rfl⟩) ⟨fbM, va_recv hK hP (ci := 3) (q0 := 0) rfl rfl, fun U hU hW => ⟨rfl, by rw [hU], by rw [hU]; exact hP, va_K.moved hW.alike hK, (hD u).weaken (fun _ _ _ _ => trivial)⟩⟩ rfl rfl hl.1 rfl (lv_room (Nat.le_of_ble_eq_true rfl)) dX5_lay_41 ⟨Nat.zero_le _, Nat.zero_le _⟩) hS (fun q _ h => hFc q h) hFc (fun r_4 u_5 t H locs ht _ h hP1 _ hk1 hS => ?_)
        have hP : va_P (dC, dI) vwCl (wM m0 m1 m2 m3 m4 m5 m6 m7 m8 m9 cI cZ u_5) H := by rw [← ht]; exact hP1
        refine lv_istore (lv' := [(4, .int r_4), (0, .ref m0), (1, .int x1), (2, .int x2), (3, .int x3)]) hx hb dX5_lay_44 hl (by decide) rfl (fun ls hl => ?_)
        refine lv_iconst (v := 0) hx hb dX5_lay_46 (by decide) ?_
        refine lv_istore (lv' := [(5, .int (0 : Int32)), (4, .int r_4), (0, .ref m0), (1, .int x1), (2, .int x2), (3, .int x3)]) hx hb dX5_lay_47 hl (by decide) rfl (fun ls hl => ?_)
        obtain ⟨K_49, hKi_49, h⟩ := jnE0 h
        have hK_49 : K_49 → ∀ (H : Heap) (locs : List Loc), va_P (dC, dI) vwCl (wM m0 m1 m2 m3 m4 m5 m6 m7 m8 m9 cI cZ u_5) H → va_S A s.heap H locs → ∀ (ls : Array Slot), lv_has ls 13 [(0, .ref m0), (1, .int x1), (2, .int x2), (4, .int r_4)] → W p l e (headSpec wsX5_lay ({ frames := 4, cells := 0, slots := 0, locals := 99 } : Room)).room s m ([.ref m0, .int x1, .int x2, .int x3] : List Value).toArray below meth c H locs 0 0 (MQ below (va_Qi post (fun (u2 : St) (t : State) => va_P (dC, dI) vwCl (wM m0 m1 m2 m3 m4 m5 m6 m7 m8 m9 cI cZ u2) t.heap) A) ([.ref m0, .int x1, .int x2, .int x3] : List Value).toArray s 0 0 A) (F0 m 98 ls []) := by
          intro  h H locs hP hS ls hl
          have h := hKi_49 h
          refine lv_iconst (v := 0) hx hb dX5_lay_98 (by decide) ?_
          refine lv_istore (lv' := [(5, .int (0 : Int32)), (0, .ref m0), (1, .int x1), (2, .int x2), (4, .int r_4)]) hx hb dX5_lay_99 hl (by decide) rfl (fun ls hl => ?_)
          refine lv_iconst (v := 0) hx hb dX5_lay_101 (by decide) ?_
          refine lv_istore (lv' := [(6, .int (0 : Int32)), (5, .int (0 : Int32)), (0, .ref m0), (1, .int x1), (2, .int x2), (4, .int r_4)]) hx hb dX5_lay_102 hl (by decide) rfl (fun ls hl => ?_)
          refine lv_iconst (v := 0) hx hb dX5_lay_104 (by decide) ?_
          refine lv_istore (lv' := [(7, .int (0 : Int32)), (6, .int (0 : Int32)), (5, .int (0 : Int32)), (0, .ref m0), (1, .int x1), (2, .int x2), (4, .int r_4)]) hx hb dX5_lay_105 hl (by decide) rfl (fun ls hl => ?_)
          refine lv_iconst (v := 0) hx hb dX5_lay_107 (by decide) ?_
          refine lv_istore (lv' := [(8, .int (0 : Int32)), (7, .int (0 : Int32)), (6, .int (0 : Int32)), (5, .int (0 : Int32)), (0, .ref m0), (1, .int x1), (2, .int x2), (4, .int r_4)]) hx hb dX5_lay_108 hl (by decide) rfl (fun ls hl => ?_)
          refine lv_iconst (v := 0) hx hb dX5_lay_110 (by decide) ?_
          refine lv_istore (lv' := [(9, .int (0 : Int32)), (8, .int (0 : Int32)), (7, .int (0 : Int32)), (6, .int (0 : Int32)), (5, .int (0 : Int32)), (0, .ref m0), (1, .int x1), (2, .int x2), (4, .int r_4)]) hx hb dX5_lay_111 hl (by decide) rfl (fun ls hl => ?_)
          refine lv_iconst (v := 0) hx hb dX5_lay_113 (by decide) ?_
          refine lv_istore (lv' := [(10, .int (0 : Int32)), (9, .int (0 : Int32)), (8, .int (0 : Int32)), (7, .int (0 : Int32)), (6, .int (0 : Int32)), (5, .int (0 : Int32)), (0, .ref m0), (1, .int x1), (2, .int x2), (4, .int r_4)]) hx hb dX5_lay_114 hl (by decide) rfl (fun ls hl => ?_)
          obtain ⟨K_116, hKi_116, h⟩ := jnE3 h
          have hK_116 : ∀ (v5_30 : Int32) (v9_31 : Int32) (u_32 : St), K_116 v5_30 v9_31 u_32 → ∀ (H : Heap) (locs : List Loc), va_P (dC, dI) vwCl (wM m0 m1 m2 m3 m4 m5 m6 m7 m8 m9 cI cZ u_32) H → va_S A s.heap H locs → ∀ (ls : Array Slot), lv_has ls 13 [(0, .ref m0), (1, .int x1), (2, .int x2), (4, .int r_4), (5, .int v5_30), (9, .int v9_31)] → W p l e (headSpec wsX5_lay ({ frames := 4, cells := 0, slots := 0, locals := 99 } : Room)).room s m ([.ref m0, .int x1, .int x2, .int x3] : List Value).toArray below meth c H locs 0 0 (MQ below (va_Qi post (fun (u2 : St) (t : State) => va_P (dC, dI) vwCl (wM m0 m1 m2 m3 m4 m5 m6 m7 m8 m9 cI cZ u2) t.heap) A) ([.ref m0, .int x1, .int x2, .int x3] : List Value).toArray s 0 0 A) (F0 m 273 ls []) := by
            intro v5_30 v9_31 u_32 h H locs hP hS ls hl
            have h := hKi_116 _ _ _ h
            refine lv_iconst (v := 0) hx hb dX5_lay_273 (by decide) ?_
            refine lv_istore (lv' := [(10, .int (0 : Int32)), (0, .ref m0), (1, .int x1), (2, .int x2), (4, .int r_4), (5, .int v5_30), (9, .int v9_31)]) hx hb dX5_lay_274 hl (by decide) rfl (fun ls hl => ?_)
            obtain ⟨K_276, hKi_276, h⟩ := jnE1 h
            have hK_276 : ∀ (u_38 : St), K_276 u_38 → ∀ (H : Heap) (locs : List Loc), va_P (dC, dI) vwCl (wM m0 m1 m2 m3 m4 m5 m6 m7 m8 m9 cI cZ u_38) H → va_S A s.heap H locs → ∀ (ls : Array Slot), lv_has ls 13 [(0, .ref m0), (1, .int x1), (2, .int x2), (4, .int r_4), (5, .int v5_30), (9, .int v9_31)] → W p l e (headSpec wsX5_lay ({ frames := 4, cells := 0, slots := 0, locals := 99 } : Room)).room s m ([.ref m0, .int x1, .int x2, .int x3] : List Value).toArray below meth c H locs 0 0 (MQ below (va_Qi post (fun (u2 : St) (t : State) => va_P (dC, dI) vwCl (wM m0 m1 m2 m3 m4 m5 m6 m7 m8 m9 cI cZ u2) t.heap) A) ([.ref m0, .int x1, .int x2, .int x3] : List Value).toArray s 0 0 A) (F0 m 306 ls []) := by
              intro u_38 h H locs hP hS ls hl
              have h := hKi_276 _ h
              refine lv_aload_n hx hb dX5_lay_306 rfl (lv_at hl 0 rfl) ?_
              refine lv_iload hx hb dX5_lay_307 (lv_at hl 3 rfl) ?_
              refine va_put (D := (dC, dI)) (ci := 3) (v := .int r_4) (ty := .int) (C := RX5) (T := TX5) (N := 17) hx hb hts i_X5 tyX5 tyX5_ok nmX5 hown hK hP (hD _) hS 0 rfl rfl 14 (by decide) f_146 (fun _ h9 => h9) rfl (by decide +kernel) rfl rfl (Nat.le_of_ble_eq_true rfl) dX5_lay_309 (fun H locs hP _ hS => ?_)
              obtain ⟨u_39, eu_39⟩ : ∃ z : St, z = (upd u_38.1 14 r_4, u_38.2) := ⟨_, rfl⟩
              have h := h u_39 eu_39
              have hP : va_P (dC, dI) vwCl (wM m0 m1 m2 m3 m4 m5 m6 m7 m8 m9 cI cZ u_39) H := by rw [eu_39]; exact hP
              refine lv_aload_n hx hb dX5_lay_312 rfl (lv_at hl 0 rfl) ?_
              refine lv_iload hx hb dX5_lay_313 (lv_at hl 5 rfl) ?_
              refine lv_iload_n hx hb dX5_lay_315 rfl (lv_at hl 1 rfl) ?_
              refine lv_iload_n hx hb dX5_lay_316 rfl (lv_at hl 2 rfl) ?_
              refine lv_imul hx hb dX5_lay_317 ?_
              refine lv_iadd hx hb dX5_lay_318 ?_
              refine lv_iconst (v := 1) hx hb dX5_lay_319 (by decide) ?_
              refine lv_isub hx hb dX5_lay_320 ?_
              refine lv_iload_n hx hb dX5_lay_321 rfl (lv_at hl 1 rfl) ?_
              refine lv_iload_n hx hb dX5_lay_322 rfl (lv_at hl 2 rfl) ?_
              refine lv_imul hx hb dX5_lay_323 ?_
              obtain ⟨hn, h⟩ := h
              refine lv_idiv hx hb dX5_lay_324 hn ?_
              refine lv_topi (fun y_40 ey_40 => ?_)
              have h := h y_40 ey_40
              refine va_put (D := (dC, dI)) (ci := 3) (v := .int y_40) (ty := .int) (C := RX5) (T := TX5) (N := 17) hx hb hts i_X5 tyX5 tyX5_ok nmX5 hown hK hP (hD _) hS 0 rfl rfl 15 (by decide) f_149 (fun _ h9 => h9) rfl (by decide +kernel) rfl rfl (Nat.le_of_ble_eq_true rfl) dX5_lay_325 (fun H locs hP _ hS => ?_)
              obtain ⟨u_41, eu_41⟩ : ∃ z : St, z = (upd u_39.1 15 y_40, u_39.2) := ⟨_, rfl⟩
              have h := h u_41 eu_41
              have hP : va_P (dC, dI) vwCl (wM m0 m1 m2 m3 m4 m5 m6 m7 m8 m9 cI cZ u_41) H := by rw [eu_41]; exact hP
              refine lv_aload_n hx hb dX5_lay_328 rfl (lv_at hl 0 rfl) ?_
              refine lv_iconst (v := 1) hx hb dX5_lay_329 (by decide) ?_
              refine va_put (D := (dC, dI)) (ci := 3) (v := .int (1 : Int32)) (ty := .boolean) (C := RX5) (T := TX5) (N := 17) hx hb hts i_X5 tyX5 tyX5_ok nmX5 hown hK hP (hD _) hS 0 rfl rfl 5 (by decide) f_54 (fun _ h9 => h9) rfl (by decide +kernel) rfl rfl (Nat.le_of_ble_eq_true rfl) dX5_lay_330 (fun H locs hP _ hS => ?_)
              obtain ⟨u_42, eu_42⟩ : ∃ z : St, z = (upd u_41.1 5 (1 : Int32), u_41.2) := ⟨_, rfl⟩
              have h := h u_42 eu_42
              have hP : va_P (dC, dI) vwCl (wM m0 m1 m2 m3 m4 m5 m6 m7 m8 m9 cI cZ u_42) H := by rw [eu_42]; exact hP
              refine lv_iload hx hb dX5_lay_333 (lv_at hl 3 rfl) ?_
              refine lv_if_ne (tgt := 342) hx hb dX5_lay_335 (by decide) (fun c_335 => ?_) (fun c_335 => ?_)
              · have h := br2 h c_335
                refine lv_iload hx hb dX5_lay_342 (lv_at hl 4 rfl) ?_
                refine lv_iconst (v := 1) hx hb dX5_lay_344 (by decide) ?_
                refine lv_iadd hx hb dX5_lay_345 ?_
                exact W.iret hx hb hr (fun t ht _ => ⟨⟨_, u_42, rfl, h, hPr ht hP⟩, hS.F ht⟩) hS.2.2 dX5_lay_346
              · have h := br1 h c_335
                refine lv_iconst (v := 0) hx hb dX5_lay_338 (by decide) ?_
                refine lv_goto (tgt := 346) hx hb dX5_lay_339 (by decide) ?_
                exact W.iret hx hb hr (fun t ht _ => ⟨⟨_, u_42, rfl, h, hPr ht hP⟩, hS.F ht⟩) hS.2.2 dX5_lay_346
            obtain ⟨n, h⟩ := h
            have loop_276 : ∀ (n : Nat) (v10_33 : Int32) (u_34 : St), L_X5_lay_276 post K_276 r_4 n v10_33 u_34 → ∀ (H : Heap) (locs : List Loc), va_P (dC, dI) vwCl (wM m0 m1 m2 m3 m4 m5 m6 m7 m8 m9 cI cZ u_34) H → va_S A s.heap H locs → ∀ (ls : Array Slot), lv_has ls 13 [(0, .ref m0), (1, .int x1), (2, .int x2), (4, .int r_4), (5, .int v5_30), (9, .int v9_31), (10, .int v10_33)] → W p l e (headSpec wsX5_lay ({ frames := 4, cells := 0, slots := 0, locals := 99 } : Room)).room s m ([.ref m0, .int x1, .int x2, .int x3] : List Value).toArray below meth c H locs 0 0 (MQ below (va_Qi post (fun (u2 : St) (t : State) => va_P (dC, dI) vwCl (wM m0 m1 m2 m3 m4 m5 m6 m7 m8 m9 cI cZ u2) t.heap) A) ([.ref m0, .int x1, .int x2, .int x3] : List Value).toArray s 0 0 A) (F0 m 276 ls []) := by
              intro n
              induction n with
              | zero => intro v10_33 u_34 h; rw [L_X5_lay_276] at h; exact h.elim
              | succ n ih_276 =>
                intro v10_33 u_34 h H locs hP hS ls hl
                rw [L_X5_lay_276] at h
                refine lv_iload hx hb dX5_lay_276 (lv_at hl 6 rfl) ?_
                refine lv_bipush (v := 7) hx hb dX5_lay_278 (by decide) ?_
                refine lv_iload hx hb dX5_lay_280 (lv_at hl 3 rfl) ?_
                refine lv_imul hx hb dX5_lay_282 ?_
                refine lv_icmp_ge (tgt := 306) hx hb dX5_lay_283 (by decide) (fun c_283 => ?_) (fun c_283 => ?_)
                · have h := br1 h c_283
                  exact hK_276 _ h _ _ hP hS _ (lv_sub hl [0, 1, 2, 3, 4, 5] rfl)
                · have h := br2 h c_283
                  refine lv_aload_n hx hb dX5_lay_286 rfl (lv_at hl 0 rfl) ?_
                  refine va_get (D := (dC, dI)) (ci := 3) (v := .ref m8) (C := RX5) (T := TX5) (N := 17) hx hb hts i_X5 hown hK hP 0 rfl rfl 13 (by decide) f_42 (fun _ h9 => h9) rfl dX5_lay_287 ?_
                  refine lv_iload hx hb dX5_lay_290 (lv_at hl 6 rfl) ?_
                  refine lv_aload_n hx hb dX5_lay_292 rfl (lv_at hl 0 rfl) ?_
                  refine va_get (D := (dC, dI)) (ci := 3) (v := .ref m9) (C := RX5) (T := TX5) (N := 17) hx hb hts i_X5 hown hK hP 0 rfl rfl 16 (by decide) f_45 (fun _ h9 => h9) rfl dX5_lay_293 ?_
                  refine lv_iload hx hb dX5_lay_296 (lv_at hl 6 rfl) ?_
                  obtain ⟨hi, h⟩ := h
                  refine va_iald hx hb hK hP 9 0 rfl rfl hi dX5_lay_298 ?_
                  refine lv_topi (fun y_35 ey_35 => ?_)
                  have h := h y_35 ey_35
                  obtain ⟨hi, h⟩ := h
                  refine va_iast hx hb hK hP (hD _) hS 8 0 rfl rfl hi dX5_lay_299 (fun H locs hP _ hS => ?_)
                  obtain ⟨u_36, eu_36⟩ : ∃ z : St, z = (u_34.1, va_up u_34.2 13 (upd (u_34.2 13) v10_33.toNatClampNeg y_35)) := ⟨_, rfl⟩
                  have h := h u_36 eu_36
                  have hP : va_P (dC, dI) vwCl (wM m0 m1 m2 m3 m4 m5 m6 m7 m8 m9 cI cZ u_36) H := by rw [eu_36]; exact hP
                  obtain ⟨y_37, ey_37⟩ : ∃ z : Int32, z = v10_33 + (1 : Int32) := ⟨_, rfl⟩
                  have h := h y_37 ey_37
                  refine lv_iinc (v := y_37) (lv' := [(10, .int y_37), (0, .ref m0), (1, .int x1), (2, .int x2), (4, .int r_4), (5, .int v5_30), (9, .int v9_31)]) hx hb dX5_lay_300 hl (k := 6) rfl (by rw [ey_37]; rfl) (by decide) rfl (fun ls hl => ?_)
                  refine lv_goto (tgt := 276) hx hb dX5_lay_303 (by decide) ?_
                  exact ih_276 _ _ h _ _ hP hS _ (lv_sub hl [1, 2, 3, 4, 5, 6, 0] rfl)
            exact loop_276 n _ _ h _ _ hP hS _ (lv_sub hl [1, 2, 3, 4, 5, 6, 0] rfl)
          obtain ⟨n, h⟩ := h
          have loop_116 : ∀ (n : Nat) (v5_8 : Int32) (v6_9 : Int32) (v7_10 : Int32) (v8_11 : Int32) (v9_12 : Int32) (v10_13 : Int32) (u_14 : St), L_X5_lay_116 post K_116 x1 x2 r_4 n v5_8 v6_9 v7_10 v8_11 v9_12 v10_13 u_14 → ∀ (H : Heap) (locs : List Loc), va_P (dC, dI) vwCl (wM m0 m1 m2 m3 m4 m5 m6 m7 m8 m9 cI cZ u_14) H → va_S A s.heap H locs → ∀ (ls : Array Slot), lv_has ls 13 [(0, .ref m0), (1, .int x1), (2, .int x2), (4, .int r_4), (5, .int v5_8), (6, .int v6_9), (7, .int v7_10), (8, .int v8_11), (9, .int v9_12), (10, .int v10_13)] → W p l e (headSpec wsX5_lay ({ frames := 4, cells := 0, slots := 0, locals := 99 } : Room)).room s m ([.ref m0, .int x1, .int x2, .int x3] : List Value).toArray below meth c H locs 0 0 (MQ below (va_Qi post (fun (u2 : St) (t : State) => va_P (dC, dI) vwCl (wM m0 m1 m2 m3 m4 m5 m6 m7 m8 m9 cI cZ u2) t.heap) A) ([.ref m0, .int x1, .int x2, .int x3] : List Value).toArray s 0 0 A) (F0 m 116 ls []) := by
            intro n
            induction n with
            | zero => intro v5_8 v6_9 v7_10 v8_11 v9_12 v10_13 u_14 h; rw [L_X5_lay_116] at h; exact h.elim
            | succ n ih_116 =>
              intro v5_8 v6_9 v7_10 v8_11 v9_12 v10_13 u_14 h H locs hP hS ls hl
              rw [L_X5_lay_116] at h
              refine lv_iload hx hb dX5_lay_116 (lv_at hl 9 rfl) ?_
              refine lv_iload hx hb dX5_lay_118 (lv_at hl 3 rfl) ?_
              refine lv_icmp_ge (tgt := 273) hx hb dX5_lay_120 (by decide) (fun c_120 => ?_) (fun c_120 => ?_)
              · have h := br1 h c_120
                exact hK_116 _ _ _ h _ _ hP hS _ (lv_sub hl [0, 1, 2, 3, 4, 8] rfl)
              · have h := br2 h c_120
                refine lv_aload_n hx hb dX5_lay_123 rfl (lv_at hl 0 rfl) ?_
                refine va_get (D := (dC, dI)) (ci := 3) (v := .ref m9) (C := RX5) (T := TX5) (N := 17) hx hb hts i_X5 hown hK hP 0 rfl rfl 16 (by decide) f_45 (fun _ h9 => h9) rfl dX5_lay_124 ?_
                refine lv_bipush (v := 7) hx hb dX5_lay_127 (by decide) ?_
                refine lv_iload hx hb dX5_lay_129 (lv_at hl 9 rfl) ?_
                refine lv_imul hx hb dX5_lay_131 ?_
                refine lv_iconst (v := 5) hx hb dX5_lay_132 (by decide) ?_
                refine lv_iadd hx hb dX5_lay_133 ?_
                obtain ⟨hi, h⟩ := h
                refine va_iald hx hb hK hP 9 0 rfl rfl hi dX5_lay_134 ?_
                refine lv_topi (fun y_15 ey_15 => ?_)
                have h := h y_15 ey_15
                refine lv_istore (lv' := [(11, .int y_15), (0, .ref m0), (1, .int x1), (2, .int x2), (4, .int r_4), (5, .int v5_8), (6, .int v6_9), (7, .int v7_10), (8, .int v8_11), (9, .int v9_12), (10, .int v10_13)]) hx hb dX5_lay_135 hl (by decide) rfl (fun ls hl => ?_)
                refine lv_aload_n hx hb dX5_lay_137 rfl (lv_at hl 1 rfl) ?_
                refine va_get (D := (dC, dI)) (ci := 3) (v := .ref m9) (C := RX5) (T := TX5) (N := 17) hx hb hts i_X5 hown hK hP 0 rfl rfl 16 (by decide) f_45 (fun _ h9 => h9) rfl dX5_lay_138 ?_
                refine lv_bipush (v := 7) hx hb dX5_lay_141 (by decide) ?_
                refine lv_iload hx hb dX5_lay_143 (lv_at hl 10 rfl) ?_
                refine lv_imul hx hb dX5_lay_145 ?_
                refine lv_bipush (v := 6) hx hb dX5_lay_146 (by decide) ?_
                refine lv_iadd hx hb dX5_lay_148 ?_
                obtain ⟨hi, h⟩ := h
                refine va_iald hx hb hK hP 9 0 rfl rfl hi dX5_lay_149 ?_
                refine lv_topi (fun y_16 ey_16 => ?_)
                have h := h y_16 ey_16
                refine lv_istore (lv' := [(12, .int y_16), (11, .int y_15), (0, .ref m0), (1, .int x1), (2, .int x2), (4, .int r_4), (5, .int v5_8), (6, .int v6_9), (7, .int v7_10), (8, .int v8_11), (9, .int v9_12), (10, .int v10_13)]) hx hb dX5_lay_150 hl (by decide) rfl (fun ls hl => ?_)
                refine lv_iload hx hb dX5_lay_152 (lv_at hl 11 rfl) ?_
                obtain ⟨J_194, hJi_194, h⟩ := jnE4 h
                have hJ_194 : ∀ (v5_19 : Int32) (v6_20 : Int32) (v7_21 : Int32) (v8_22 : Int32), J_194 v5_19 v6_20 v7_21 v8_22 → ∀ (H : Heap) (locs : List Loc), va_P (dC, dI) vwCl (wM m0 m1 m2 m3 m4 m5 m6 m7 m8 m9 cI cZ u_14) H → va_S A s.heap H locs → ∀ (ls : Array Slot), lv_has ls 13 [(0, .ref m0), (1, .int x1), (2, .int x2), (4, .int r_4), (5, .int v5_19), (6, .int v6_20), (7, .int v7_21), (8, .int v8_22), (9, .int v9_12), (10, .int v10_13), (11, .int y_15), (12, .int y_16)] → W p l e (headSpec wsX5_lay ({ frames := 4, cells := 0, slots := 0, locals := 99 } : Room)).room s m ([.ref m0, .int x1, .int x2, .int x3] : List Value).toArray below meth c H locs 0 0 (MQ below (va_Qi post (fun (u2 : St) (t : State) => va_P (dC, dI) vwCl (wM m0 m1 m2 m3 m4 m5 m6 m7 m8 m9 cI cZ u2) t.heap) A) ([.ref m0, .int x1, .int x2, .int x3] : List Value).toArray s 0 0 A) (F0 m 194 ls []) := by
                  intro v5_19 v6_20 v7_21 v8_22 h H locs hP hS ls hl
                  have h := hJi_194 _ _ _ _ h
                  refine lv_iload hx hb dX5_lay_194 (lv_at hl 5 rfl) ?_
                  obtain ⟨J_206, hJi_206, h⟩ := jnE1 h
                  have hJ_206 : ∀ (w_23 : Int32), J_206 w_23 → ∀ (H : Heap) (locs : List Loc), va_P (dC, dI) vwCl (wM m0 m1 m2 m3 m4 m5 m6 m7 m8 m9 cI cZ u_14) H → va_S A s.heap H locs → ∀ (ls : Array Slot), lv_has ls 13 [(0, .ref m0), (1, .int x1), (2, .int x2), (4, .int r_4), (5, .int v5_19), (6, .int v6_20), (7, .int v7_21), (9, .int v9_12), (10, .int v10_13), (11, .int y_15), (12, .int y_16)] → W p l e (headSpec wsX5_lay ({ frames := 4, cells := 0, slots := 0, locals := 99 } : Room)).room s m ([.ref m0, .int x1, .int x2, .int x3] : List Value).toArray below meth c H locs 0 0 (MQ below (va_Qi post (fun (u2 : St) (t : State) => va_P (dC, dI) vwCl (wM m0 m1 m2 m3 m4 m5 m6 m7 m8 m9 cI cZ u2) t.heap) A) ([.ref m0, .int x1, .int x2, .int x3] : List Value).toArray s 0 0 A) (F0 m 206 ls [.int w_23]) := by
                    intro w_23 h H locs hP hS ls hl
                    have h := hJi_206 _ h
                    refine lv_istore (lv' := [(8, .int w_23), (0, .ref m0), (1, .int x1), (2, .int x2), (4, .int r_4), (5, .int v5_19), (6, .int v6_20), (7, .int v7_21), (9, .int v9_12), (10, .int v10_13), (11, .int y_15), (12, .int y_16)]) hx hb dX5_lay_206 hl (by decide) rfl (fun ls hl => ?_)
                    refine lv_aload_n hx hb dX5_lay_208 rfl (lv_at hl 1 rfl) ?_
                    refine va_get (D := (dC, dI)) (ci := 3) (v := .ref m9) (C := RX5) (T := TX5) (N := 17) hx hb hts i_X5 hown hK hP 0 rfl rfl 16 (by decide) f_45 (fun _ h9 => h9) rfl dX5_lay_209 ?_
                    refine lv_bipush (v := 7) hx hb dX5_lay_212 (by decide) ?_
                    refine lv_iload hx hb dX5_lay_214 (lv_at hl 9 rfl) ?_
                    refine lv_imul hx hb dX5_lay_216 ?_
                    refine lv_iconst (v := 2) hx hb dX5_lay_217 (by decide) ?_
                    refine lv_iadd hx hb dX5_lay_218 ?_
                    refine lv_iload hx hb dX5_lay_219 (lv_at hl 5 rfl) ?_
                    obtain ⟨hi, h⟩ := h
                    refine va_iast hx hb hK hP (hD _) hS 9 0 rfl rfl hi dX5_lay_221 (fun H locs hP _ hS => ?_)
                    obtain ⟨u_24, eu_24⟩ : ∃ z : St, z = (u_14.1, va_up u_14.2 16 (upd (u_14.2 16) (((7 : Int32) * v10_13) + (2 : Int32)).toNatClampNeg v5_19)) := ⟨_, rfl⟩
                    have h := h u_24 eu_24
                    have hP : va_P (dC, dI) vwCl (wM m0 m1 m2 m3 m4 m5 m6 m7 m8 m9 cI cZ u_24) H := by rw [eu_24]; exact hP
                    refine lv_aload_n hx hb dX5_lay_222 rfl (lv_at hl 1 rfl) ?_
                    refine va_get (D := (dC, dI)) (ci := 3) (v := .ref m9) (C := RX5) (T := TX5) (N := 17) hx hb hts i_X5 hown hK hP 0 rfl rfl 16 (by decide) f_45 (fun _ h9 => h9) rfl dX5_lay_223 ?_
                    refine lv_bipush (v := 7) hx hb dX5_lay_226 (by decide) ?_
                    refine lv_iload hx hb dX5_lay_228 (lv_at hl 9 rfl) ?_
                    refine lv_imul hx hb dX5_lay_230 ?_
                    refine lv_iconst (v := 3) hx hb dX5_lay_231 (by decide) ?_
                    refine lv_iadd hx hb dX5_lay_232 ?_
                    refine lv_iload hx hb dX5_lay_233 (lv_at hl 6 rfl) ?_
                    obtain ⟨hi, h⟩ := h
                    refine va_iast hx hb hK hP (hD _) hS 9 0 rfl rfl hi dX5_lay_235 (fun H locs hP _ hS => ?_)
                    obtain ⟨u_25, eu_25⟩ : ∃ z : St, z = (u_24.1, va_up u_24.2 16 (upd (u_24.2 16) (((7 : Int32) * v10_13) + (3 : Int32)).toNatClampNeg v6_20)) := ⟨_, rfl⟩
                    have h := h u_25 eu_25
                    have hP : va_P (dC, dI) vwCl (wM m0 m1 m2 m3 m4 m5 m6 m7 m8 m9 cI cZ u_25) H := by rw [eu_25]; exact hP
                    refine lv_aload_n hx hb dX5_lay_236 rfl (lv_at hl 1 rfl) ?_
                    refine va_get (D := (dC, dI)) (ci := 3) (v := .ref m9) (C := RX5) (T := TX5) (N := 17) hx hb hts i_X5 hown hK hP 0 rfl rfl 16 (by decide) f_45 (fun _ h9 => h9) rfl dX5_lay_237 ?_
                    refine lv_bipush (v := 7) hx hb dX5_lay_240 (by decide) ?_
                    refine lv_iload hx hb dX5_lay_242 (lv_at hl 9 rfl) ?_
                    refine lv_imul hx hb dX5_lay_244 ?_
                    refine lv_iconst (v := 4) hx hb dX5_lay_245 (by decide) ?_
                    refine lv_iadd hx hb dX5_lay_246 ?_
                    refine lv_iload hx hb dX5_lay_247 (lv_at hl 7 rfl) ?_
                    obtain ⟨hi, h⟩ := h
                    refine va_iast hx hb hK hP (hD _) hS 9 0 rfl rfl hi dX5_lay_249 (fun H locs hP _ hS => ?_)
                    obtain ⟨u_26, eu_26⟩ : ∃ z : St, z = (u_25.1, va_up u_25.2 16 (upd (u_25.2 16) (((7 : Int32) * v10_13) + (4 : Int32)).toNatClampNeg v7_21)) := ⟨_, rfl⟩
                    have h := h u_26 eu_26
                    have hP : va_P (dC, dI) vwCl (wM m0 m1 m2 m3 m4 m5 m6 m7 m8 m9 cI cZ u_26) H := by rw [eu_26]; exact hP
                    refine lv_iload hx hb dX5_lay_250 (lv_at hl 6 rfl) ?_
                    refine lv_iload hx hb dX5_lay_252 (lv_at hl 10 rfl) ?_
                    refine lv_iadd hx hb dX5_lay_254 ?_
                    refine lv_topi (fun y_27 ey_27 => ?_)
                    have h := h y_27 ey_27
                    refine lv_istore (lv' := [(6, .int y_27), (8, .int w_23), (0, .ref m0), (1, .int x1), (2, .int x2), (4, .int r_4), (5, .int v5_19), (7, .int v7_21), (9, .int v9_12), (10, .int v10_13), (11, .int y_15), (12, .int y_16)]) hx hb dX5_lay_255 hl (by decide) rfl (fun ls hl => ?_)
                    refine lv_iload hx hb dX5_lay_257 (lv_at hl 8 rfl) ?_
                    refine lv_iload hx hb dX5_lay_259 (lv_at hl 10 rfl) ?_
                    refine lv_iload hx hb dX5_lay_261 (lv_at hl 11 rfl) ?_
                    refine lv_imul hx hb dX5_lay_263 ?_
                    refine lv_iadd hx hb dX5_lay_264 ?_
                    refine lv_topi (fun y_28 ey_28 => ?_)
                    have h := h y_28 ey_28
                    refine lv_istore (lv' := [(9, .int y_28), (6, .int y_27), (8, .int w_23), (0, .ref m0), (1, .int x1), (2, .int x2), (4, .int r_4), (5, .int v5_19), (7, .int v7_21), (10, .int v10_13), (11, .int y_15), (12, .int y_16)]) hx hb dX5_lay_265 hl (by decide) rfl (fun ls hl => ?_)
                    obtain ⟨y_29, ey_29⟩ : ∃ z : Int32, z = v10_13 + (1 : Int32) := ⟨_, rfl⟩
                    have h := h y_29 ey_29
                    refine lv_iinc (v := y_29) (lv' := [(10, .int y_29), (9, .int y_28), (6, .int y_27), (8, .int w_23), (0, .ref m0), (1, .int x1), (2, .int x2), (4, .int r_4), (5, .int v5_19), (7, .int v7_21), (11, .int y_15), (12, .int y_16)]) hx hb dX5_lay_267 hl (k := 9) rfl (by rw [ey_29]; rfl) (by decide) rfl (fun ls hl => ?_)
                    refine lv_goto (tgt := 116) hx hb dX5_lay_270 (by decide) ?_
                    exact ih_116 _ _ _ _ _ _ _ h _ _ hP hS _ (lv_sub hl [4, 5, 6, 7, 8, 2, 9, 3, 1, 0] rfl)
                  refine lv_if_ne (tgt := 204) hx hb dX5_lay_196 (by decide) (fun c_196 => ?_) (fun c_196 => ?_)
                  · have h := br2 h c_196
                    refine lv_iload hx hb dX5_lay_204 (lv_at hl 7 rfl) ?_
                    exact hJ_206 _ h _ _ hP hS _ (lv_sub hl [0, 1, 2, 3, 4, 5, 6, 8, 9, 10, 11] rfl)
                  · have h := br1 h c_196
                    refine lv_iload hx hb dX5_lay_199 (lv_at hl 11 rfl) ?_
                    refine lv_goto (tgt := 206) hx hb dX5_lay_201 (by decide) ?_
                    exact hJ_206 _ h _ _ hP hS _ (lv_sub hl [0, 1, 2, 3, 4, 5, 6, 8, 9, 10, 11] rfl)
                refine lv_if_le (tgt := 194) hx hb dX5_lay_154 (by decide) (fun c_154 => ?_) (fun c_154 => ?_)
                · have h := br1 h c_154
                  exact hJ_194 _ _ _ _ h _ _ hP hS _ (lv_sub hl [2, 3, 4, 5, 6, 7, 8, 9, 10, 11, 1, 0] rfl)
                · have h := br2 h c_154
                  refine lv_iload hx hb dX5_lay_157 (lv_at hl 7 rfl) ?_
                  refine lv_iload hx hb dX5_lay_159 (lv_at hl 1 rfl) ?_
                  refine lv_iadd hx hb dX5_lay_161 ?_
                  refine lv_iload_n hx hb dX5_lay_162 rfl (lv_at hl 3 rfl) ?_
                  refine lv_icmp_le (tgt := 194) hx hb dX5_lay_163 (by decide) (fun c_163 => ?_) (fun c_163 => ?_)
                  · have h := br1 h c_163
                    exact hJ_194 _ _ _ _ h _ _ hP hS _ (lv_sub hl [2, 3, 4, 5, 6, 7, 8, 9, 10, 11, 1, 0] rfl)
                  · have h := br2 h c_163
                    refine lv_iconst (v := 0) hx hb dX5_lay_166 (by decide) ?_
                    refine lv_istore (lv' := [(6, .int (0 : Int32)), (12, .int y_16), (11, .int y_15), (0, .ref m0), (1, .int x1), (2, .int x2), (4, .int r_4), (5, .int v5_8), (7, .int v7_10), (8, .int v8_11), (9, .int v9_12), (10, .int v10_13)]) hx hb dX5_lay_167 hl (by decide) rfl (fun ls hl => ?_)
                    refine lv_iload hx hb dX5_lay_169 (lv_at hl 8 rfl) ?_
                    refine lv_iload hx hb dX5_lay_171 (lv_at hl 9 rfl) ?_
                    refine lv_iadd hx hb dX5_lay_173 ?_
                    refine lv_topi (fun y_17 ey_17 => ?_)
                    have h := h y_17 ey_17
                    refine lv_istore (lv' := [(7, .int y_17), (6, .int (0 : Int32)), (12, .int y_16), (11, .int y_15), (0, .ref m0), (1, .int x1), (2, .int x2), (4, .int r_4), (5, .int v5_8), (8, .int v8_11), (9, .int v9_12), (10, .int v10_13)]) hx hb dX5_lay_174 hl (by decide) rfl (fun ls hl => ?_)
                    refine lv_iconst (v := 0) hx hb dX5_lay_176 (by decide) ?_
                    refine lv_istore (lv' := [(8, .int (0 : Int32)), (7, .int y_17), (6, .int (0 : Int32)), (12, .int y_16), (11, .int y_15), (0, .ref m0), (1, .int x1), (2, .int x2), (4, .int r_4), (5, .int v5_8), (9, .int v9_12), (10, .int v10_13)]) hx hb dX5_lay_177 hl (by decide) rfl (fun ls hl => ?_)
                    refine lv_iload hx hb dX5_lay_179 (lv_at hl 1 rfl) ?_
                    refine lv_iload hx hb dX5_lay_181 (lv_at hl 3 rfl) ?_
                    refine lv_iadd hx hb dX5_lay_183 ?_
                    refine lv_iload_n hx hb dX5_lay_184 rfl (lv_at hl 7 rfl) ?_
                    refine lv_icmp_le (tgt := 194) hx hb dX5_lay_185 (by decide) (fun c_185 => ?_) (fun c_185 => ?_)
                    · have h := br1 h c_185
                      exact hJ_194 _ _ _ _ h _ _ hP hS _ (lv_sub hl [5, 6, 7, 8, 9, 2, 1, 0, 10, 11, 4, 3] rfl)
                    · have h := br2 h c_185
                      obtain ⟨y_18, ey_18⟩ : ∃ z : Int32, z = v5_8 + (1 : Int32) := ⟨_, rfl⟩
                      have h := h y_18 ey_18
                      refine lv_iinc (v := y_18) (lv' := [(5, .int y_18), (8, .int (0 : Int32)), (7, .int y_17), (6, .int (0 : Int32)), (12, .int y_16), (11, .int y_15), (0, .ref m0), (1, .int x1), (2, .int x2), (4, .int r_4), (9, .int v9_12), (10, .int v10_13)]) hx hb dX5_lay_188 hl (k := 9) rfl (by rw [ey_18]; rfl) (by decide) rfl (fun ls hl => ?_)
                      refine lv_iconst (v := 0) hx hb dX5_lay_191 (by decide) ?_
                      refine lv_istore (lv' := [(7, .int (0 : Int32)), (5, .int y_18), (8, .int (0 : Int32)), (6, .int (0 : Int32)), (12, .int y_16), (11, .int y_15), (0, .ref m0), (1, .int x1), (2, .int x2), (4, .int r_4), (9, .int v9_12), (10, .int v10_13)]) hx hb dX5_lay_192 hl (by decide) rfl (fun ls hl => ?_)
                      exact hJ_194 _ _ _ _ h _ _ hP hS _ (lv_sub hl [6, 7, 8, 9, 1, 3, 0, 2, 10, 11, 5, 4] rfl)
          exact loop_116 n _ _ _ _ _ _ _ h _ _ hP hS _ (lv_sub hl [6, 7, 8, 9, 5, 4, 3, 2, 1, 0] rfl)
        obtain ⟨n, h⟩ := h
        have loop_49 : ∀ (n : Nat) (v5_6 : Int32), L_X5_lay_49 post K_49 x1 x2 r_4 u_5 n v5_6 → ∀ (H : Heap) (locs : List Loc), va_P (dC, dI) vwCl (wM m0 m1 m2 m3 m4 m5 m6 m7 m8 m9 cI cZ u_5) H → va_S A s.heap H locs → ∀ (ls : Array Slot), lv_has ls 13 [(0, .ref m0), (1, .int x1), (2, .int x2), (4, .int r_4), (5, .int v5_6)] → W p l e (headSpec wsX5_lay ({ frames := 4, cells := 0, slots := 0, locals := 99 } : Room)).room s m ([.ref m0, .int x1, .int x2, .int x3] : List Value).toArray below meth c H locs 0 0 (MQ below (va_Qi post (fun (u2 : St) (t : State) => va_P (dC, dI) vwCl (wM m0 m1 m2 m3 m4 m5 m6 m7 m8 m9 cI cZ u2) t.heap) A) ([.ref m0, .int x1, .int x2, .int x3] : List Value).toArray s 0 0 A) (F0 m 49 ls []) := by
          intro n
          induction n with
          | zero => intro v5_6 h; rw [L_X5_lay_49] at h; exact h.elim
          | succ n ih_49 =>
            intro v5_6 h H locs hP hS ls hl
            rw [L_X5_lay_49] at h
            refine lv_iload hx hb dX5_lay_49 (lv_at hl 4 rfl) ?_
            refine lv_iload hx hb dX5_lay_51 (lv_at hl 3 rfl) ?_
            refine lv_icmp_ge (tgt := 98) hx hb dX5_lay_53 (by decide) (fun c_53 => ?_) (fun c_53 => ?_)
            · have h := br1 h c_53
              exact hK_49 h _ _ hP hS _ (lv_sub hl [0, 1, 2, 3] rfl)
            · have h := br2 h c_53
              refine lv_aload_n hx hb dX5_lay_56 rfl (lv_at hl 0 rfl) ?_
              refine va_get (D := (dC, dI)) (ci := 3) (v := .ref m9) (C := RX5) (T := TX5) (N := 17) hx hb hts i_X5 hown hK hP 0 rfl rfl 16 (by decide) f_45 (fun _ h9 => h9) rfl dX5_lay_57 ?_
              refine lv_bipush (v := 7) hx hb dX5_lay_60 (by decide) ?_
              refine lv_iload hx hb dX5_lay_62 (lv_at hl 4 rfl) ?_
              refine lv_imul hx hb dX5_lay_64 ?_
              refine lv_iconst (v := 5) hx hb dX5_lay_65 (by decide) ?_
              refine lv_iadd hx hb dX5_lay_66 ?_
              obtain ⟨hi, h⟩ := h
              refine va_iald hx hb hK hP 9 0 rfl rfl hi dX5_lay_67 ?_
              refine lv_iload_n hx hb dX5_lay_68 rfl (lv_at hl 1 rfl) ?_
              refine lv_icmp_gt (tgt := 89) hx hb dX5_lay_69 (by decide) (fun c_69 => ?_) (fun c_69 => ?_)
              · have h := br1 h c_69
                refine lv_bipush (v := (-5)) hx hb dX5_lay_89 (by decide) ?_
                exact W.iret hx hb hr (fun t ht _ => ⟨⟨_, u_5, rfl, h, hPr ht hP⟩, hS.F ht⟩) hS.2.2 dX5_lay_91
              · have h := br2 h c_69
                refine lv_aload_n hx hb dX5_lay_72 rfl (lv_at hl 0 rfl) ?_
                refine va_get (D := (dC, dI)) (ci := 3) (v := .ref m9) (C := RX5) (T := TX5) (N := 17) hx hb hts i_X5 hown hK hP 0 rfl rfl 16 (by decide) f_45 (fun _ h9 => h9) rfl dX5_lay_73 ?_
                refine lv_bipush (v := 7) hx hb dX5_lay_76 (by decide) ?_
                refine lv_iload hx hb dX5_lay_78 (lv_at hl 4 rfl) ?_
                refine lv_imul hx hb dX5_lay_80 ?_
                refine lv_bipush (v := 6) hx hb dX5_lay_81 (by decide) ?_
                refine lv_iadd hx hb dX5_lay_83 ?_
                obtain ⟨hi, h⟩ := h
                refine va_iald hx hb hK hP 9 0 rfl rfl hi dX5_lay_84 ?_
                refine lv_iload_n hx hb dX5_lay_85 rfl (lv_at hl 2 rfl) ?_
                refine lv_icmp_le (tgt := 92) hx hb dX5_lay_86 (by decide) (fun c_86 => ?_) (fun c_86 => ?_)
                · have h := br1 h c_86
                  obtain ⟨y_7, ey_7⟩ : ∃ z : Int32, z = v5_6 + (1 : Int32) := ⟨_, rfl⟩
                  have h := h y_7 ey_7
                  refine lv_iinc (v := y_7) (lv' := [(5, .int y_7), (0, .ref m0), (1, .int x1), (2, .int x2), (4, .int r_4)]) hx hb dX5_lay_92 hl (k := 4) rfl (by rw [ey_7]; rfl) (by decide) rfl (fun ls hl => ?_)
                  refine lv_goto (tgt := 49) hx hb dX5_lay_95 (by decide) ?_
                  exact ih_49 _ h _ _ hP hS _ (lv_sub hl [1, 2, 3, 4, 0] rfl)
                · have h := br2 h c_86
                  refine lv_bipush (v := (-5)) hx hb dX5_lay_89 (by decide) ?_
                  exact W.iret hx hb hr (fun t ht _ => ⟨⟨_, u_5, rfl, h, hPr ht hP⟩, hS.F ht⟩) hS.2.2 dX5_lay_91
        exact loop_49 n _ h _ _ hP hS _ (lv_sub hl [2, 3, 4, 1, 0] rfl)
      · have h := br1 h c_33
        refine lv_bipush (v := (-2)) hx hb dX5_lay_36 (by decide) ?_
        exact W.iret hx hb hr (fun t ht _ => ⟨⟨_, u, rfl, h, hPr ht hP⟩, hS.F ht⟩) hS.2.2 dX5_lay_38
set_option maxHeartbeats 4000000 in
set_option maxRecDepth 100000 in
theorem c_X5_laid (l : Launch) (dC : Nat → ClassId) (dI : Nat → Nat → Nat) (m0 m1 m2 m3 m4 m5 m6 m7 m8 m9 : Nat) (cI cZ : ClassId) {u : St} {x1 : Int32} {x2 : Int32} {post : Int32 → Prop} (h : P_X5_laid u x1 x2 post) : Met l yX5_laid wsX5_laid ({ frames := 1, cells := 0, slots := 0, locals := 25 } : Room) (RPre (dC, dI) vwCl (wM m0 m1 m2 m3 m4 m5 m6 m7 m8 m9 cI cZ u) [(cI, .int), (cZ, .boolean)] [.ref m0, .int x1, .int x2]) (vp_Si post) 0 0 (fun _ => False) := by
  refine Met.ofW (cc := cX5_laid) (maxL := 3) (ret := (some .int)) (by decide) rfl ?_
  intro p e s m args below meth c s₁ B hml hv
  obtain ⟨rfl, hP, hK⟩ := hv
  have hx := B.exec
  have hb := B.bytes
  have hr := B.returns
  have hts := atoms_spec (ws := wsX5_laid) B.pre
  have hown : s.vm.findClass RX5 = some m.cls := findClass_of_methodNamed B.named
  have hlocks := B.notSynchronized
  have hl := lv_entry ([.ref m0, .int x1, .int x2]) (n := 3) (Nat.le_of_ble_eq_true rfl)
  rw [lg_entry_eq]
  generalize (lg_sl ([.ref m0, .int x1, .int x2]) ++ List.replicate (3 - (lg_sl ([.ref m0, .int x1, .int x2])).length) Slot.unset).toArray = ls at hl ⊢
  have hl : lv_has ls 3 [(0, .ref m0), (1, .int x1), (2, .int x2)] := hl
  have i_X5 : ∀ w ∈ u_ws RX5 TX5 17, w ∈ wsX5_laid := by decide +kernel
  have f_42 := hts (.fieldLink RX5 42 "SliceBodyModel" "rows" "[I") (by decide +kernel)
  have f_54 := hts (.fieldLink RX5 54 "SliceBodyModel" "isLaid" "Z") (by decide +kernel)
  have f_146 := hts (.fieldLink RX5 146 "SliceBodyModel" "laidMany" "I") (by decide +kernel)
  have k_152 := hts (.constantLong RX5 152 (6)) (by decide +kernel)
  unfold P_X5_laid at h
  refine lv_aload_n hx hb dX5_laid_0 rfl (lv_at hl 0 rfl) ?_
  refine va_get (D := (dC, dI)) (ci := 3) (v := .int (u.1 5)) (C := RX5) (T := TX5) (N := 17) hx hb hts i_X5 hown hK hP 0 rfl rfl 5 (by decide) f_54 (fun _ h9 => h9) rfl dX5_laid_1 ?_
  refine lv_if_ne (tgt := 10) hx hb dX5_laid_4 (by decide) (fun c_4 => ?_) (fun c_4 => ?_)
  · have h := br2 h c_4
    refine lv_iload_n hx hb dX5_laid_10 rfl (lv_at hl 2 rfl) ?_
    refine lv_i2l hx hb dX5_laid_11 rfl ?_
    refine lv_lconst (v := 0) hx hb dX5_laid_12 (by decide) ?_
    refine lv_ldc2 hx hb hown k_152 dX5_laid_13 ?_
    refine vp_callSi (W.runS (As := [.long _, .long _, .long _]) (rest := []) ⟨hx, hb, hml, hown, hts⟩ (c_X5_in l h) (va_cwS 3 hts gX5_laid_X5_in rfl rfl rfl (by decide +kernel) ⟨Nat.le_of_ble_eq_true rfl, Nat.le_of_ble_eq_true rfl⟩) ⟨fun _ _ _ _ q => q, fun _ _ _ => ⟨rfl, trivial⟩⟩ rfl rfl hl.1 rfl (lv_room (Nat.le_of_ble_eq_true rfl)) dX5_laid_16 ⟨Nat.zero_le _, Nat.zero_le _⟩) (fun r_1 h => ?_)
    refine lv_if_ne (tgt := 25) hx hb dX5_laid_19 (by decide) (fun c_19 => ?_) (fun c_19 => ?_)
    · have h := br2 h c_19
      refine lv_iload_n hx hb dX5_laid_25 rfl (lv_at hl 1 rfl) ?_
      refine lv_i2l hx hb dX5_laid_26 rfl ?_
      refine lv_lconst (v := 0) hx hb dX5_laid_27 (by decide) ?_
      refine lv_aload_n hx hb dX5_laid_28 rfl (lv_at hl 0 rfl) ?_
      refine va_get (D := (dC, dI)) (ci := 3) (v := .int (u.1 14)) (C := RX5) (T := TX5) (N := 17) hx hb hts i_X5 hown hK hP 0 rfl rfl 14 (by decide) f_146 (fun _ h9 => h9) rfl dX5_laid_29 ?_
      refine lv_iconst (v := 1) hx hb dX5_laid_32 (by decide) ?_
      refine lv_isub hx hb dX5_laid_33 ?_
      refine lv_i2l hx hb dX5_laid_34 rfl ?_
      refine vp_callSi (W.runS (As := [.long _, .long _, .long _]) (rest := []) ⟨hx, hb, hml, hown, hts⟩ (c_X5_in l h) (va_cwS 3 hts gX5_laid_X5_in rfl rfl rfl (by decide +kernel) ⟨Nat.le_of_ble_eq_true rfl, Nat.le_of_ble_eq_true rfl⟩) ⟨fun _ _ _ _ q => q, fun _ _ _ => ⟨rfl, trivial⟩⟩ rfl rfl hl.1 rfl (lv_room (Nat.le_of_ble_eq_true rfl)) dX5_laid_35 ⟨Nat.zero_le _, Nat.zero_le _⟩) (fun r_2 h => ?_)
      refine lv_if_eq (tgt := 55) hx hb dX5_laid_38 (by decide) (fun c_38 => ?_) (fun c_38 => ?_)
      · have h := br1 h c_38
        refine lv_bipush (v := (-6)) hx hb dX5_laid_55 (by decide) ?_
        exact W.iret hx hb hr (fun t ht _ => ⟨_, rfl, h, ht⟩) (fun q hq => by cases hq) dX5_laid_57
      · have h := br2 h c_38
        refine lv_aload_n hx hb dX5_laid_41 rfl (lv_at hl 0 rfl) ?_
        refine va_get (D := (dC, dI)) (ci := 3) (v := .ref m8) (C := RX5) (T := TX5) (N := 17) hx hb hts i_X5 hown hK hP 0 rfl rfl 13 (by decide) f_42 (fun _ h9 => h9) rfl dX5_laid_42 ?_
        refine lv_bipush (v := 7) hx hb dX5_laid_45 (by decide) ?_
        refine lv_iload_n hx hb dX5_laid_47 rfl (lv_at hl 1 rfl) ?_
        refine lv_imul hx hb dX5_laid_48 ?_
        refine lv_iload_n hx hb dX5_laid_49 rfl (lv_at hl 2 rfl) ?_
        refine lv_iadd hx hb dX5_laid_50 ?_
        obtain ⟨hi, h⟩ := h
        refine va_iald hx hb hK hP 8 0 rfl rfl hi dX5_laid_51 ?_
        refine lv_goto (tgt := 57) hx hb dX5_laid_52 (by decide) ?_
        exact W.iret hx hb hr (fun t ht _ => ⟨_, rfl, h, ht⟩) (fun q hq => by cases hq) dX5_laid_57
    · have h := br1 h c_19
      refine lv_bipush (v := (-2)) hx hb dX5_laid_22 (by decide) ?_
      exact W.iret hx hb hr (fun t ht _ => ⟨_, rfl, h, ht⟩) (fun q hq => by cases hq) dX5_laid_24
  · have h := br1 h c_4
    refine lv_bipush (v := (-3)) hx hb dX5_laid_7 (by decide) ?_
    exact W.iret hx hb hr (fun t ht _ => ⟨_, rfl, h, ht⟩) (fun q hq => by cases hq) dX5_laid_9
set_option maxHeartbeats 4000000 in
set_option maxRecDepth 100000 in
theorem c_X5_least (l : Launch) (dC : Nat → ClassId) (dI : Nat → Nat → Nat) (m0 m1 m2 m3 m4 m5 m6 m7 m8 m9 : Nat) (cI cZ : ClassId) {u : St} {post : Int32 → Prop} (h : P_X5_least u post) : Met l yX5_least wsX5_least ({ frames := 0, cells := 0, slots := 0, locals := 0 } : Room) (RPre (dC, dI) vwCl (wM m0 m1 m2 m3 m4 m5 m6 m7 m8 m9 cI cZ u) [(cI, .int), (cZ, .boolean)] [.ref m0]) (vp_Si post) 0 0 (fun _ => False) := by
  refine Met.ofW (cc := cX5_least) (maxL := 1) (ret := (some .int)) (by decide) rfl ?_
  intro p e s m args below meth c s₁ B hml hv
  obtain ⟨rfl, hP, hK⟩ := hv
  have hx := B.exec
  have hb := B.bytes
  have hr := B.returns
  have hts := atoms_spec (ws := wsX5_least) B.pre
  have hown : s.vm.findClass RX5 = some m.cls := findClass_of_methodNamed B.named
  have hlocks := B.notSynchronized
  have hl := lv_entry ([.ref m0]) (n := 1) (Nat.le_of_ble_eq_true rfl)
  rw [lg_entry_eq]
  generalize (lg_sl ([.ref m0]) ++ List.replicate (1 - (lg_sl ([.ref m0])).length) Slot.unset).toArray = ls at hl ⊢
  have hl : lv_has ls 1 [(0, .ref m0)] := hl
  have i_X5 : ∀ w ∈ u_ws RX5 TX5 17, w ∈ wsX5_least := by decide +kernel
  have f_54 := hts (.fieldLink RX5 54 "SliceBodyModel" "isLaid" "Z") (by decide +kernel)
  have f_149 := hts (.fieldLink RX5 149 "SliceBodyModel" "leastMany" "I") (by decide +kernel)
  unfold P_X5_least at h
  refine lv_aload_n hx hb dX5_least_0 rfl (lv_at hl 0 rfl) ?_
  refine va_get (D := (dC, dI)) (ci := 3) (v := .int (u.1 5)) (C := RX5) (T := TX5) (N := 17) hx hb hts i_X5 hown hK hP 0 rfl rfl 5 (by decide) f_54 (fun _ h9 => h9) rfl dX5_least_1 ?_
  refine lv_if_eq (tgt := 14) hx hb dX5_least_4 (by decide) (fun c_4 => ?_) (fun c_4 => ?_)
  · have h := br1 h c_4
    refine lv_bipush (v := (-3)) hx hb dX5_least_14 (by decide) ?_
    exact W.iret hx hb hr (fun t ht _ => ⟨_, rfl, h, ht⟩) (fun q hq => by cases hq) dX5_least_16
  · have h := br2 h c_4
    refine lv_aload_n hx hb dX5_least_7 rfl (lv_at hl 0 rfl) ?_
    refine va_get (D := (dC, dI)) (ci := 3) (v := .int (u.1 15)) (C := RX5) (T := TX5) (N := 17) hx hb hts i_X5 hown hK hP 0 rfl rfl 15 (by decide) f_149 (fun _ h9 => h9) rfl dX5_least_8 ?_
    refine lv_goto (tgt := 16) hx hb dX5_least_11 (by decide) ?_
    exact W.iret hx hb hr (fun t ht _ => ⟨_, rfl, h, ht⟩) (fun q hq => by cases hq) dX5_least_16
