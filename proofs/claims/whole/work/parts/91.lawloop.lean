set_option maxHeartbeats 40000000 in
set_option maxRecDepth 100000 in
theorem law_loop {p : Program} {l : Launch} {e : Env} {s : State} {m : MethodId} {below : List Frame} {meth : Method} {c : Code} {dC : Nat → ClassId} {dI : Nat → Nat → Nat} {b L : Nat} {xs : Nat → Int32} (hL : L ≤ 4096) (C0 : lw_At p s m meth c b L xs) {b0 h0 h1 h2 g0 g1 m0 m1 m2 m3 m4 m5 m6 m7 m8 m9 : Nat} {cI cJ cZ : ClassId} (hK : va_K (dC, dI) vwCl [(cI, .int), (cJ, .int), (cZ, .boolean)] s) {u : (St × St) × St} {x3 : Int32} {post : Int32 → Prop} (h : P_L_law L xs u x3 post) {H : Heap} {locs : List Loc} (hP : va_P (dC, dI) vwCl (wL b0 h0 h1 h2 g0 g1 m0 m1 m2 m3 m4 m5 m6 m7 m8 m9 cI cJ cZ u) H) (hD0 : va_D (fun q : Nat => s.heap.size ≤ q) (wL b0 h0 h1 h2 g0 g1 m0 m1 m2 m3 m4 m5 m6 m7 m8 m9 cI cJ cZ u)) (hS : va_S (fun q : Nat => s.heap.size ≤ q) s.heap H locs) {ls : Array Slot} (hl : lv_has ls 4 [(0, .ref b), (1, .ref b0), (2, .ref m0), (3, .int x3)]) : W p l e room_1 s m #[Value.ref b] below meth c H locs 16 1153 (lw_Z below #[Value.ref b] s) (F0 m 18 ls []) := by
  obtain ⟨hx, hb, hr, hml, hown, hts, hX, hbl, hlocks, hgv⟩ := C0
  have hA : ∀ q : Nat, s.heap.size ≤ q → (fun q : Nat => s.heap.size ≤ q) q := fun _ h => h
  have hbA : ¬ (fun q : Nat => s.heap.size ≤ q) b := Nat.not_le.mpr hbl
  have htsL : ∀ w ∈ wsL_law, w.before #[Value.ref b] s = true := fun w h => hts w (wsL_law_in w h)
  have hKx : va_K (dC, dI) vwCl [(cI, .int)] s := hK.sub [0] rfl
  have hKm : va_K (dC, dI) vwCl [(cJ, .int), (cZ, .boolean)] s := hK.sub [1, 2] rfl
  generalize hAe : (fun q : Nat => s.heap.size ≤ q) = A at hA hbA hD0 hS
  have hD : ∀ z, va_D A (wL b0 h0 h1 h2 g0 g1 m0 m1 m2 m3 m4 m5 m6 m7 m8 m9 cI cJ cZ z) := fun z => va_Dsame hD0 rfl
  unfold P_L_law at h
  obtain ⟨K_18, hKi_18, h⟩ := jnE1 h
  have hK_18 : ∀ (u_78 : (St × St) × St), K_18 u_78 → ∀ (H : Heap) (locs : List Loc), va_P (dC, dI) vwCl (wL b0 h0 h1 h2 g0 g1 m0 m1 m2 m3 m4 m5 m6 m7 m8 m9 cI cJ cZ u_78) H → va_S A s.heap H locs → ∀ (ls : Array Slot), lv_has ls 4 [] → W p l e room_1 s m #[Value.ref b] below meth c H locs 16 1153 (lw_Z below #[Value.ref b] s) (F0 m 741 ls []) := by
    intro u_78 h H locs hP hS ls hl
    have h := hKi_18 _ h
    refine lv_iconst (v := 1) hx hb dL_law_741 (by decide) ?_
    refine va_forget (fun q hq => by have z := hS.2.2 q hq; rw [← hAe] at z; exact z) ?_
    exact lw_ret hx hb hr hlocks dL_law_742
  obtain ⟨n, h⟩ := h
  have loop_18 : ∀ (n : Nat) (v3_1 : Int32) (u_2 : ((St × St) × St)), L_L_law_18 post K_18 L xs n v3_1 u_2 → ∀ (H : Heap) (locs : List Loc), va_P (dC, dI) vwCl (wL b0 h0 h1 h2 g0 g1 m0 m1 m2 m3 m4 m5 m6 m7 m8 m9 cI cJ cZ u_2) H → va_S A s.heap H locs → ∀ (ls : Array Slot), lv_has ls 4 [(0, .ref b), (1, .ref b0), (2, .ref m0), (3, .int v3_1)] → W p l e room_1 s m #[Value.ref b] below meth c H locs 16 1153 (lw_Z below #[Value.ref b] s) (F0 m 18 ls []) := by
    intro n
    induction n with
    | zero => intro v3_1 u_2 h; rw [L_L_law_18] at h; exact h.elim
    | succ n ih_18 =>
      intro v3_1 u_2 h H locs hP hS ls hl
      rw [L_L_law_18] at h
      refine lv_iload_n hx hb dL_law_18 rfl (lv_at hl 3 rfl) ?_
      refine lv_aload_n hx hb dL_law_19 rfl (lv_at hl 0 rfl) ?_
      refine va_slen hx hb hX hbl hbA hS dL_law_20 ?_
      refine lv_bipush (v := 8) hx hb dL_law_21 (by decide) ?_
      refine lv_isub hx hb dL_law_23 ?_
      refine lv_icmp_gt (tgt := 741) hx hb dL_law_24 (by decide) (fun c_24 => ?_) (fun c_24 => ?_)
      · have h := br1 h c_24
        exact hK_18 _ h _ _ hP hS _ (lv_sub hl [] rfl)
      · have h := br2 h c_24
        refine lv_aload_n hx hb dL_law_27 rfl (lv_at hl 0 rfl) ?_
        refine lv_iload_n hx hb dL_law_28 rfl (lv_at hl 3 rfl) ?_
        obtain ⟨hi, h⟩ := h
        refine va_sld hx hb hX hbl hbA hS hi dL_law_29 ?_
        refine lv_bipush (v := 15) hx hb dL_law_30 (by decide) ?_
        refine lv_iand hx hb dL_law_32 ?_
        refine lv_topi (fun y_3 ey_3 => ?_)
        have h := h y_3 ey_3
        obtain ⟨J_735, hJi_735, h⟩ := jnE1 h
        have hJ_735 : ∀ (u_76 : (St × St) × St), J_735 u_76 → ∀ (H : Heap) (locs : List Loc), va_P (dC, dI) vwCl (wL b0 h0 h1 h2 g0 g1 m0 m1 m2 m3 m4 m5 m6 m7 m8 m9 cI cJ cZ u_76) H → va_S A s.heap H locs → ∀ (ls : Array Slot), lv_has ls 4 [(0, .ref b), (1, .ref b0), (2, .ref m0), (3, .int v3_1)] → W p l e room_1 s m #[Value.ref b] below meth c H locs 16 1153 (lw_Z below #[Value.ref b] s) (F0 m 735 ls []) := by
          intro u_76 h H locs hP hS ls hl
          have h := hJi_735 _ h
          obtain ⟨y_77, ey_77⟩ : ∃ z : Int32, z = v3_1 + (8 : Int32) := ⟨_, rfl⟩
          have h := h y_77 ey_77
          refine lv_iinc (v := y_77) (lv' := [(3, .int y_77), (0, .ref b), (1, .ref b0), (2, .ref m0)]) hx hb dL_law_735 hl (k := 3) rfl (by rw [ey_77]; rfl) (by decide) rfl (fun ls hl => ?_)
          refine lv_goto (tgt := 18) hx hb dL_law_738 (by decide) ?_
          exact ih_18 _ _ h _ _ hP hS _ (lv_sub hl [1, 2, 3, 0] rfl)
        rcases Decidable.em (y_3 = 0) with c_33_0 | c_33_0
        · have h := br1 h c_33_0
          refine lv_tableIn (off := 75) (tgt := 108) hx hb dL_law_33 (by rw [c_33_0]; decide) (by rw [c_33_0]; decide) (by rw [c_33_0]; rfl) (by decide) ?_
          refine lv_aload_n hx hb dL_law_108 rfl (lv_at hl 1 rfl) ?_
          refine lv_aload_n hx hb dL_law_109 rfl (lv_at hl 0 rfl) ?_
          refine lv_iload_n hx hb dL_law_110 rfl (lv_at hl 3 rfl) ?_
          refine lv_iconst (v := 1) hx hb dL_law_111 (by decide) ?_
          refine lv_iadd hx hb dL_law_112 ?_
          obtain ⟨hi, h⟩ := h
          refine va_sld hx hb hX hbl hbA hS hi dL_law_113 ?_
          refine lv_aload_n hx hb dL_law_114 rfl (lv_at hl 0 rfl) ?_
          refine lv_iload_n hx hb dL_law_115 rfl (lv_at hl 3 rfl) ?_
          refine lv_iconst (v := 2) hx hb dL_law_116 (by decide) ?_
          refine lv_iadd hx hb dL_law_117 ?_
          obtain ⟨hi, h⟩ := h
          refine va_sld hx hb hX hbl hbA hS hi dL_law_118 ?_
          refine lv_aload_n hx hb dL_law_119 rfl (lv_at hl 0 rfl) ?_
          refine lv_iload_n hx hb dL_law_120 rfl (lv_at hl 3 rfl) ?_
          refine lv_iconst (v := 3) hx hb dL_law_121 (by decide) ?_
          refine lv_iadd hx hb dL_law_122 ?_
          obtain ⟨hi, h⟩ := h
          refine va_sld hx hb hX hbl hbA hS hi dL_law_123 ?_
          have hPs := hP.sub (ws' := wX b0 h0 h1 h2 g0 g1 cI u_2.1) [0, 1, 2, 3, 4, 5] rfl
          have hDs := (hD u_2).sub (ws' := wX b0 h0 h1 h2 g0 g1 cI u_2.1) [0, 1, 2, 3, 4, 5] (by decide) rfl
          have hFc := fr_all (ws := wX b0 h0 h1 h2 g0 g1 cI u_2.1) hDs hS hA
          refine va_calli (va_runV (As := [.int _, .int _, .int _]) (rest := []) ⟨hx, hb, hml, hown, htsL⟩ (c_X4_space l dC dI b0 h0 h1 h2 g0 g1 cI (H).size h) (cwV 3 htsL gL_law_X4_space rfl rfl rfl (by decide +kernel) ⟨Nat.le_of_ble_eq_true rfl, Nat.le_of_ble_eq_true rfl⟩) ⟨fbM, va_recv hKx hPs (ci := 2) (q0 := 0) rfl rfl, fun U hU hW => ⟨rfl, by rw [hU], by rw [hU]; exact hPs, va_K.moved hW.alike hKx, hDs.weaken (fun _ _ _ _ => trivial)⟩⟩ rfl rfl hl.1 rfl (lv_room (Nat.le_of_ble_eq_true rfl)) dL_law_124 ⟨Nat.le_of_ble_eq_true rfl, Nat.le_of_ble_eq_true rfl⟩) hS (fun q _ h => hFc q h) hFc (fun r_4 z_6 t H locs ht _ h hP1 _ hk1 hS => ?_)
          obtain ⟨u_5, eu_5⟩ : ∃ z : (St × St) × St, z = (z_6, u_2.2) := ⟨_, rfl⟩
          have h := h u_5 eu_5
          have hP : va_P (dC, dI) vwCl (wL b0 h0 h1 h2 g0 g1 m0 m1 m2 m3 m4 m5 m6 m7 m8 m9 cI cJ cZ u_5) H := by rw [eu_5]; exact L_joinX hP (hD _) hk1 hFc (by rw [← ht]; exact hP1)
          refine lv_aload_n hx hb dL_law_127 rfl (lv_at hl 2 rfl) ?_
          refine lv_aload_n hx hb dL_law_128 rfl (lv_at hl 0 rfl) ?_
          refine lv_iload_n hx hb dL_law_129 rfl (lv_at hl 3 rfl) ?_
          refine lv_iconst (v := 1) hx hb dL_law_130 (by decide) ?_
          refine lv_iadd hx hb dL_law_131 ?_
          obtain ⟨hi, h⟩ := h
          refine va_sld hx hb hX hbl hbA hS hi dL_law_132 ?_
          refine lv_aload_n hx hb dL_law_133 rfl (lv_at hl 0 rfl) ?_
          refine lv_iload_n hx hb dL_law_134 rfl (lv_at hl 3 rfl) ?_
          refine lv_iconst (v := 2) hx hb dL_law_135 (by decide) ?_
          refine lv_iadd hx hb dL_law_136 ?_
          obtain ⟨hi, h⟩ := h
          refine va_sld hx hb hX hbl hbA hS hi dL_law_137 ?_
          refine lv_aload_n hx hb dL_law_138 rfl (lv_at hl 0 rfl) ?_
          refine lv_iload_n hx hb dL_law_139 rfl (lv_at hl 3 rfl) ?_
          refine lv_iconst (v := 3) hx hb dL_law_140 (by decide) ?_
          refine lv_iadd hx hb dL_law_141 ?_
          obtain ⟨hi, h⟩ := h
          refine va_sld hx hb hX hbl hbA hS hi dL_law_142 ?_
          have hPs := hP.sub (ws' := wM m0 m1 m2 m3 m4 m5 m6 m7 m8 m9 cJ cZ u_5.2) [6, 7, 8, 9, 10, 11, 12, 13, 14, 15] rfl
          have hDs := (hD u_5).sub (ws' := wM m0 m1 m2 m3 m4 m5 m6 m7 m8 m9 cJ cZ u_5.2) [6, 7, 8, 9, 10, 11, 12, 13, 14, 15] (by decide) rfl
          have hFc := fr_all (ws := wM m0 m1 m2 m3 m4 m5 m6 m7 m8 m9 cJ cZ u_5.2) hDs hS hA
          refine va_calli (va_runV (As := [.int _, .int _, .int _]) (rest := [.int _]) ⟨hx, hb, hml, hown, htsL⟩ (c_X5_space l dC dI m0 m1 m2 m3 m4 m5 m6 m7 m8 m9 cJ cZ (H).size h) (cwV 3 htsL gL_law_X5_space rfl rfl rfl (by decide +kernel) ⟨Nat.le_of_ble_eq_true rfl, Nat.le_of_ble_eq_true rfl⟩) ⟨fbM, va_recv hKm hPs (ci := 3) (q0 := 0) rfl rfl, fun U hU hW => ⟨rfl, by rw [hU], by rw [hU]; exact hPs, va_K.moved hW.alike hKm, hDs.weaken (fun _ _ _ _ => trivial)⟩⟩ rfl rfl hl.1 rfl (lv_room (Nat.le_of_ble_eq_true rfl)) dL_law_143 ⟨Nat.le_of_ble_eq_true rfl, Nat.le_of_ble_eq_true rfl⟩) hS (fun q _ h => hFc q h) hFc (fun r_7 z_9 t H locs ht _ h hP1 _ hk1 hS => ?_)
          obtain ⟨u_8, eu_8⟩ : ∃ z : (St × St) × St, z = (u_5.1, z_9) := ⟨_, rfl⟩
          have h := h u_8 eu_8
          have hP : va_P (dC, dI) vwCl (wL b0 h0 h1 h2 g0 g1 m0 m1 m2 m3 m4 m5 m6 m7 m8 m9 cI cJ cZ u_8) H := by rw [eu_8]; exact L_joinM hP (hD _) hk1 hFc (by rw [← ht]; exact hP1)
          refine lv_icmp_eq (tgt := 735) hx hb dL_law_146 (by decide) (fun c_146 => ?_) (fun c_146 => ?_)
          · have h := br1 h c_146
            exact hJ_735 _ h _ _ hP hS _ (lv_sub hl [0, 1, 2, 3] rfl)
          · have h := br2 h c_146
            refine lv_iconst (v := 0) hx hb dL_law_149 (by decide) ?_
            exact h.elim
        · have h := br2 h c_33_0
          rcases Decidable.em (y_3 = 1) with c_33_1 | c_33_1
          · have h := br1 h c_33_1
            refine lv_tableIn (off := 118) (tgt := 151) hx hb dL_law_33 (by rw [c_33_1]; decide) (by rw [c_33_1]; decide) (by rw [c_33_1]; rfl) (by decide) ?_
            refine lv_aload_n hx hb dL_law_151 rfl (lv_at hl 1 rfl) ?_
            refine lv_aload_n hx hb dL_law_152 rfl (lv_at hl 0 rfl) ?_
            refine lv_iload_n hx hb dL_law_153 rfl (lv_at hl 3 rfl) ?_
            refine lv_iconst (v := 1) hx hb dL_law_154 (by decide) ?_
            refine lv_iadd hx hb dL_law_155 ?_
            obtain ⟨hi, h⟩ := h
            refine va_sld hx hb hX hbl hbA hS hi dL_law_156 ?_
            refine lv_aload_n hx hb dL_law_157 rfl (lv_at hl 0 rfl) ?_
            refine lv_iload_n hx hb dL_law_158 rfl (lv_at hl 3 rfl) ?_
            refine lv_iconst (v := 2) hx hb dL_law_159 (by decide) ?_
            refine lv_iadd hx hb dL_law_160 ?_
            obtain ⟨hi, h⟩ := h
            refine va_sld hx hb hX hbl hbA hS hi dL_law_161 ?_
            refine lv_aload_n hx hb dL_law_162 rfl (lv_at hl 0 rfl) ?_
            refine lv_iload_n hx hb dL_law_163 rfl (lv_at hl 3 rfl) ?_
            refine lv_iconst (v := 3) hx hb dL_law_164 (by decide) ?_
            refine lv_iadd hx hb dL_law_165 ?_
            obtain ⟨hi, h⟩ := h
            refine va_sld hx hb hX hbl hbA hS hi dL_law_166 ?_
            refine lv_aload_n hx hb dL_law_167 rfl (lv_at hl 0 rfl) ?_
            refine lv_iload_n hx hb dL_law_168 rfl (lv_at hl 3 rfl) ?_
            refine lv_iconst (v := 4) hx hb dL_law_169 (by decide) ?_
            refine lv_iadd hx hb dL_law_170 ?_
            obtain ⟨hi, h⟩ := h
            refine va_sld hx hb hX hbl hbA hS hi dL_law_171 ?_
            refine lv_aload_n hx hb dL_law_172 rfl (lv_at hl 0 rfl) ?_
            refine lv_iload_n hx hb dL_law_173 rfl (lv_at hl 3 rfl) ?_
            refine lv_iconst (v := 5) hx hb dL_law_174 (by decide) ?_
            refine lv_iadd hx hb dL_law_175 ?_
            obtain ⟨hi, h⟩ := h
            refine va_sld hx hb hX hbl hbA hS hi dL_law_176 ?_
            refine lv_aload_n hx hb dL_law_177 rfl (lv_at hl 0 rfl) ?_
            refine lv_iload_n hx hb dL_law_178 rfl (lv_at hl 3 rfl) ?_
            refine lv_bipush (v := 6) hx hb dL_law_179 (by decide) ?_
            refine lv_iadd hx hb dL_law_181 ?_
            obtain ⟨hi, h⟩ := h
            refine va_sld hx hb hX hbl hbA hS hi dL_law_182 ?_
            refine lv_aload_n hx hb dL_law_183 rfl (lv_at hl 0 rfl) ?_
            refine lv_iload_n hx hb dL_law_184 rfl (lv_at hl 3 rfl) ?_
            refine lv_bipush (v := 7) hx hb dL_law_185 (by decide) ?_
            refine lv_iadd hx hb dL_law_187 ?_
            obtain ⟨hi, h⟩ := h
            refine va_sld hx hb hX hbl hbA hS hi dL_law_188 ?_
            obtain ⟨J_197, hJi_197, h⟩ := jnE1 h
            have hJ_197 : ∀ (w_10 : Int32), J_197 w_10 → ∀ (H : Heap) (locs : List Loc), va_P (dC, dI) vwCl (wL b0 h0 h1 h2 g0 g1 m0 m1 m2 m3 m4 m5 m6 m7 m8 m9 cI cJ cZ u_2) H → va_S A s.heap H locs → ∀ (ls : Array Slot), lv_has ls 4 [(0, .ref b), (1, .ref b0), (2, .ref m0), (3, .int v3_1)] → W p l e room_1 s m #[Value.ref b] below meth c H locs 16 1153 (lw_Z below #[Value.ref b] s) (F0 m 197 ls [.int w_10, .int (xs (v3_1 + (6 : Int32)).toNatClampNeg), .int (xs (v3_1 + (5 : Int32)).toNatClampNeg), .int (xs (v3_1 + (4 : Int32)).toNatClampNeg), .int (xs (v3_1 + (3 : Int32)).toNatClampNeg), .int (xs (v3_1 + (2 : Int32)).toNatClampNeg), .int (xs (v3_1 + (1 : Int32)).toNatClampNeg), .ref b0]) := by
              intro w_10 h H locs hP hS ls hl
              have h := hJi_197 _ h
              have hPs := hP.sub (ws' := wX b0 h0 h1 h2 g0 g1 cI u_2.1) [0, 1, 2, 3, 4, 5] rfl
              have hDs := (hD u_2).sub (ws' := wX b0 h0 h1 h2 g0 g1 cI u_2.1) [0, 1, 2, 3, 4, 5] (by decide) rfl
              have hFc := fr_all (ws := wX b0 h0 h1 h2 g0 g1 cI u_2.1) hDs hS hA
              refine va_calli (va_runV (As := [.int _, .int _, .int _, .int _, .int _, .int _, .int _]) (rest := []) ⟨hx, hb, hml, hown, htsL⟩ (c_X4_box l dC dI b0 h0 h1 h2 g0 g1 cI (H).size h) (cwV 7 htsL gL_law_X4_box rfl rfl rfl (by decide +kernel) ⟨Nat.le_of_ble_eq_true rfl, Nat.le_of_ble_eq_true rfl⟩) ⟨fbM, va_recv hKx hPs (ci := 2) (q0 := 0) rfl rfl, fun U hU hW => ⟨rfl, by rw [hU], by rw [hU]; exact hPs, va_K.moved hW.alike hKx, hDs.weaken (fun _ _ _ _ => trivial)⟩⟩ rfl rfl hl.1 rfl (lv_room (Nat.le_of_ble_eq_true rfl)) dL_law_197 ⟨Nat.le_of_ble_eq_true rfl, Nat.le_of_ble_eq_true rfl⟩) hS (fun q _ h => hFc q h) hFc (fun r_11 z_13 t H locs ht _ h hP1 _ hk1 hS => ?_)
              obtain ⟨u_12, eu_12⟩ : ∃ z : (St × St) × St, z = (z_13, u_2.2) := ⟨_, rfl⟩
              have h := h u_12 eu_12
              have hP : va_P (dC, dI) vwCl (wL b0 h0 h1 h2 g0 g1 m0 m1 m2 m3 m4 m5 m6 m7 m8 m9 cI cJ cZ u_12) H := by rw [eu_12]; exact L_joinX hP (hD _) hk1 hFc (by rw [← ht]; exact hP1)
              refine lv_aload_n hx hb dL_law_200 rfl (lv_at hl 2 rfl) ?_
              refine lv_aload_n hx hb dL_law_201 rfl (lv_at hl 0 rfl) ?_
              refine lv_iload_n hx hb dL_law_202 rfl (lv_at hl 3 rfl) ?_
              refine lv_iconst (v := 1) hx hb dL_law_203 (by decide) ?_
              refine lv_iadd hx hb dL_law_204 ?_
              obtain ⟨hi, h⟩ := h
              refine va_sld hx hb hX hbl hbA hS hi dL_law_205 ?_
              refine lv_aload_n hx hb dL_law_206 rfl (lv_at hl 0 rfl) ?_
              refine lv_iload_n hx hb dL_law_207 rfl (lv_at hl 3 rfl) ?_
              refine lv_iconst (v := 2) hx hb dL_law_208 (by decide) ?_
              refine lv_iadd hx hb dL_law_209 ?_
              obtain ⟨hi, h⟩ := h
              refine va_sld hx hb hX hbl hbA hS hi dL_law_210 ?_
              refine lv_aload_n hx hb dL_law_211 rfl (lv_at hl 0 rfl) ?_
              refine lv_iload_n hx hb dL_law_212 rfl (lv_at hl 3 rfl) ?_
              refine lv_iconst (v := 3) hx hb dL_law_213 (by decide) ?_
              refine lv_iadd hx hb dL_law_214 ?_
              obtain ⟨hi, h⟩ := h
              refine va_sld hx hb hX hbl hbA hS hi dL_law_215 ?_
              refine lv_aload_n hx hb dL_law_216 rfl (lv_at hl 0 rfl) ?_
              refine lv_iload_n hx hb dL_law_217 rfl (lv_at hl 3 rfl) ?_
              refine lv_iconst (v := 4) hx hb dL_law_218 (by decide) ?_
              refine lv_iadd hx hb dL_law_219 ?_
              obtain ⟨hi, h⟩ := h
              refine va_sld hx hb hX hbl hbA hS hi dL_law_220 ?_
              refine lv_aload_n hx hb dL_law_221 rfl (lv_at hl 0 rfl) ?_
              refine lv_iload_n hx hb dL_law_222 rfl (lv_at hl 3 rfl) ?_
              refine lv_iconst (v := 5) hx hb dL_law_223 (by decide) ?_
              refine lv_iadd hx hb dL_law_224 ?_
              obtain ⟨hi, h⟩ := h
              refine va_sld hx hb hX hbl hbA hS hi dL_law_225 ?_
              refine lv_aload_n hx hb dL_law_226 rfl (lv_at hl 0 rfl) ?_
              refine lv_iload_n hx hb dL_law_227 rfl (lv_at hl 3 rfl) ?_
              refine lv_bipush (v := 6) hx hb dL_law_228 (by decide) ?_
              refine lv_iadd hx hb dL_law_230 ?_
              obtain ⟨hi, h⟩ := h
              refine va_sld hx hb hX hbl hbA hS hi dL_law_231 ?_
              refine lv_aload_n hx hb dL_law_232 rfl (lv_at hl 0 rfl) ?_
              refine lv_iload_n hx hb dL_law_233 rfl (lv_at hl 3 rfl) ?_
              refine lv_bipush (v := 7) hx hb dL_law_234 (by decide) ?_
              refine lv_iadd hx hb dL_law_236 ?_
              obtain ⟨hi, h⟩ := h
              refine va_sld hx hb hX hbl hbA hS hi dL_law_237 ?_
              obtain ⟨J_246, hJi_246, h⟩ := jnE1 h
              have hJ_246 : ∀ (w_14 : Int32), J_246 w_14 → ∀ (H : Heap) (locs : List Loc), va_P (dC, dI) vwCl (wL b0 h0 h1 h2 g0 g1 m0 m1 m2 m3 m4 m5 m6 m7 m8 m9 cI cJ cZ u_12) H → va_S A s.heap H locs → ∀ (ls : Array Slot), lv_has ls 4 [(0, .ref b), (1, .ref b0), (2, .ref m0), (3, .int v3_1)] → W p l e room_1 s m #[Value.ref b] below meth c H locs 16 1153 (lw_Z below #[Value.ref b] s) (F0 m 246 ls [.int w_14, .int (xs (v3_1 + (6 : Int32)).toNatClampNeg), .int (xs (v3_1 + (5 : Int32)).toNatClampNeg), .int (xs (v3_1 + (4 : Int32)).toNatClampNeg), .int (xs (v3_1 + (3 : Int32)).toNatClampNeg), .int (xs (v3_1 + (2 : Int32)).toNatClampNeg), .int (xs (v3_1 + (1 : Int32)).toNatClampNeg), .ref m0, .int r_11]) := by
                intro w_14 h H locs hP hS ls hl
                have h := hJi_246 _ h
                have hPs := hP.sub (ws' := wM m0 m1 m2 m3 m4 m5 m6 m7 m8 m9 cJ cZ u_12.2) [6, 7, 8, 9, 10, 11, 12, 13, 14, 15] rfl
                have hDs := (hD u_12).sub (ws' := wM m0 m1 m2 m3 m4 m5 m6 m7 m8 m9 cJ cZ u_12.2) [6, 7, 8, 9, 10, 11, 12, 13, 14, 15] (by decide) rfl
                have hFc := fr_all (ws := wM m0 m1 m2 m3 m4 m5 m6 m7 m8 m9 cJ cZ u_12.2) hDs hS hA
                refine va_calli (va_runV (As := [.int _, .int _, .int _, .int _, .int _, .int _, .int _]) (rest := [.int _]) ⟨hx, hb, hml, hown, htsL⟩ (c_X5_box l dC dI m0 m1 m2 m3 m4 m5 m6 m7 m8 m9 cJ cZ (H).size h) (cwV 7 htsL gL_law_X5_box rfl rfl rfl (by decide +kernel) ⟨Nat.le_of_ble_eq_true rfl, Nat.le_of_ble_eq_true rfl⟩) ⟨fbM, va_recv hKm hPs (ci := 3) (q0 := 0) rfl rfl, fun U hU hW => ⟨rfl, by rw [hU], by rw [hU]; exact hPs, va_K.moved hW.alike hKm, hDs.weaken (fun _ _ _ _ => trivial)⟩⟩ rfl rfl hl.1 rfl (lv_room (Nat.le_of_ble_eq_true rfl)) dL_law_246 ⟨Nat.le_of_ble_eq_true rfl, Nat.le_of_ble_eq_true rfl⟩) hS (fun q _ h => hFc q h) hFc (fun r_15 z_17 t H locs ht _ h hP1 _ hk1 hS => ?_)
                obtain ⟨u_16, eu_16⟩ : ∃ z : (St × St) × St, z = (u_12.1, z_17) := ⟨_, rfl⟩
                have h := h u_16 eu_16
                have hP : va_P (dC, dI) vwCl (wL b0 h0 h1 h2 g0 g1 m0 m1 m2 m3 m4 m5 m6 m7 m8 m9 cI cJ cZ u_16) H := by rw [eu_16]; exact L_joinM hP (hD _) hk1 hFc (by rw [← ht]; exact hP1)
                refine lv_icmp_eq (tgt := 735) hx hb dL_law_249 (by decide) (fun c_249 => ?_) (fun c_249 => ?_)
                · have h := br1 h c_249
                  exact hJ_735 _ h _ _ hP hS _ (lv_sub hl [0, 1, 2, 3] rfl)
                · have h := br2 h c_249
                  refine lv_iconst (v := 0) hx hb dL_law_252 (by decide) ?_
                  exact h.elim
              refine lv_if_eq (tgt := 245) hx hb dL_law_238 (by decide) (fun c_238 => ?_) (fun c_238 => ?_)
              · have h := br1 h c_238
                refine lv_iconst (v := 0) hx hb dL_law_245 (by decide) ?_
                exact hJ_246 _ h _ _ hP hS _ (lv_sub hl [0, 1, 2, 3] rfl)
              · have h := br2 h c_238
                refine lv_iconst (v := 1) hx hb dL_law_241 (by decide) ?_
                refine lv_goto (tgt := 246) hx hb dL_law_242 (by decide) ?_
                exact hJ_246 _ h _ _ hP hS _ (lv_sub hl [0, 1, 2, 3] rfl)
            refine lv_if_eq (tgt := 196) hx hb dL_law_189 (by decide) (fun c_189 => ?_) (fun c_189 => ?_)
            · have h := br1 h c_189
              refine lv_iconst (v := 0) hx hb dL_law_196 (by decide) ?_
              exact hJ_197 _ h _ _ hP hS _ (lv_sub hl [0, 1, 2, 3] rfl)
            · have h := br2 h c_189
              refine lv_iconst (v := 1) hx hb dL_law_192 (by decide) ?_
              refine lv_goto (tgt := 197) hx hb dL_law_193 (by decide) ?_
              exact hJ_197 _ h _ _ hP hS _ (lv_sub hl [0, 1, 2, 3] rfl)
          · have h := br2 h c_33_1
            rcases Decidable.em (y_3 = 2) with c_33_2 | c_33_2
            · have h := br1 h c_33_2
              refine lv_tableIn (off := 221) (tgt := 254) hx hb dL_law_33 (by rw [c_33_2]; decide) (by rw [c_33_2]; decide) (by rw [c_33_2]; rfl) (by decide) ?_
              refine lv_aload_n hx hb dL_law_254 rfl (lv_at hl 1 rfl) ?_
              refine lv_aload_n hx hb dL_law_255 rfl (lv_at hl 0 rfl) ?_
              refine lv_iload_n hx hb dL_law_256 rfl (lv_at hl 3 rfl) ?_
              refine lv_iconst (v := 1) hx hb dL_law_257 (by decide) ?_
              refine lv_iadd hx hb dL_law_258 ?_
              obtain ⟨hi, h⟩ := h
              refine va_sld hx hb hX hbl hbA hS hi dL_law_259 ?_
              refine lv_aload_n hx hb dL_law_260 rfl (lv_at hl 0 rfl) ?_
              refine lv_iload_n hx hb dL_law_261 rfl (lv_at hl 3 rfl) ?_
              refine lv_iconst (v := 2) hx hb dL_law_262 (by decide) ?_
              refine lv_iadd hx hb dL_law_263 ?_
              obtain ⟨hi, h⟩ := h
              refine va_sld hx hb hX hbl hbA hS hi dL_law_264 ?_
              refine lv_aload_n hx hb dL_law_265 rfl (lv_at hl 0 rfl) ?_
              refine lv_iload_n hx hb dL_law_266 rfl (lv_at hl 3 rfl) ?_
              refine lv_iconst (v := 3) hx hb dL_law_267 (by decide) ?_
              refine lv_iadd hx hb dL_law_268 ?_
              obtain ⟨hi, h⟩ := h
              refine va_sld hx hb hX hbl hbA hS hi dL_law_269 ?_
              have hPs := hP.sub (ws' := wX b0 h0 h1 h2 g0 g1 cI u_2.1) [0, 1, 2, 3, 4, 5] rfl
              refine vp_callSi (W.runV (As := [.int _, .int _, .int _]) (rest := []) ⟨hx, hb, hml, hown, htsL⟩ (c_X4_at l dC dI b0 h0 h1 h2 g0 g1 cI h) (cwV 3 htsL gL_law_X4_at rfl rfl rfl (by decide +kernel) ⟨Nat.le_of_ble_eq_true rfl, Nat.le_of_ble_eq_true rfl⟩) ⟨fbR, va_recv hKx hPs (ci := 2) (q0 := 0) rfl rfl, fun U hU hW => ⟨rfl, by rw [hU]; exact hPs, va_K.moved hW.alike hKx⟩⟩ rfl rfl hl.1 rfl (lv_room (Nat.le_of_ble_eq_true rfl)) dL_law_270 ⟨Nat.le_of_ble_eq_true rfl, Nat.le_of_ble_eq_true rfl⟩) (fun r_18 h => ?_)
              refine lv_aload_n hx hb dL_law_273 rfl (lv_at hl 2 rfl) ?_
              refine lv_aload_n hx hb dL_law_274 rfl (lv_at hl 0 rfl) ?_
              refine lv_iload_n hx hb dL_law_275 rfl (lv_at hl 3 rfl) ?_
              refine lv_iconst (v := 1) hx hb dL_law_276 (by decide) ?_
              refine lv_iadd hx hb dL_law_277 ?_
              obtain ⟨hi, h⟩ := h
              refine va_sld hx hb hX hbl hbA hS hi dL_law_278 ?_
              refine lv_aload_n hx hb dL_law_279 rfl (lv_at hl 0 rfl) ?_
              refine lv_iload_n hx hb dL_law_280 rfl (lv_at hl 3 rfl) ?_
              refine lv_iconst (v := 2) hx hb dL_law_281 (by decide) ?_
              refine lv_iadd hx hb dL_law_282 ?_
              obtain ⟨hi, h⟩ := h
              refine va_sld hx hb hX hbl hbA hS hi dL_law_283 ?_
              refine lv_aload_n hx hb dL_law_284 rfl (lv_at hl 0 rfl) ?_
              refine lv_iload_n hx hb dL_law_285 rfl (lv_at hl 3 rfl) ?_
              refine lv_iconst (v := 3) hx hb dL_law_286 (by decide) ?_
              refine lv_iadd hx hb dL_law_287 ?_
              obtain ⟨hi, h⟩ := h
              refine va_sld hx hb hX hbl hbA hS hi dL_law_288 ?_
              have hPs := hP.sub (ws' := wM m0 m1 m2 m3 m4 m5 m6 m7 m8 m9 cJ cZ u_2.2) [6, 7, 8, 9, 10, 11, 12, 13, 14, 15] rfl
              refine vp_callSi (W.runV (As := [.int _, .int _, .int _]) (rest := [.int _]) ⟨hx, hb, hml, hown, htsL⟩ (c_X5_at l dC dI m0 m1 m2 m3 m4 m5 m6 m7 m8 m9 cJ cZ h) (cwV 3 htsL gL_law_X5_at rfl rfl rfl (by decide +kernel) ⟨Nat.le_of_ble_eq_true rfl, Nat.le_of_ble_eq_true rfl⟩) ⟨fbR, va_recv hKm hPs (ci := 3) (q0 := 0) rfl rfl, fun U hU hW => ⟨rfl, by rw [hU]; exact hPs, va_K.moved hW.alike hKm⟩⟩ rfl rfl hl.1 rfl (lv_room (Nat.le_of_ble_eq_true rfl)) dL_law_289 ⟨Nat.le_of_ble_eq_true rfl, Nat.le_of_ble_eq_true rfl⟩) (fun r_19 h => ?_)
              refine lv_icmp_eq (tgt := 735) hx hb dL_law_292 (by decide) (fun c_292 => ?_) (fun c_292 => ?_)
              · have h := br1 h c_292
                exact hJ_735 _ h _ _ hP hS _ (lv_sub hl [0, 1, 2, 3] rfl)
              · have h := br2 h c_292
                refine lv_iconst (v := 0) hx hb dL_law_295 (by decide) ?_
                exact h.elim
            · have h := br2 h c_33_2
              rcases Decidable.em (y_3 = 3) with c_33_3 | c_33_3
              · have h := br1 h c_33_3
                refine lv_tableIn (off := 264) (tgt := 297) hx hb dL_law_33 (by rw [c_33_3]; decide) (by rw [c_33_3]; decide) (by rw [c_33_3]; rfl) (by decide) ?_
                refine lv_aload_n hx hb dL_law_297 rfl (lv_at hl 1 rfl) ?_
                refine lv_aload_n hx hb dL_law_298 rfl (lv_at hl 0 rfl) ?_
                refine lv_iload_n hx hb dL_law_299 rfl (lv_at hl 3 rfl) ?_
                refine lv_iconst (v := 1) hx hb dL_law_300 (by decide) ?_
                refine lv_iadd hx hb dL_law_301 ?_
                obtain ⟨hi, h⟩ := h
                refine va_sld hx hb hX hbl hbA hS hi dL_law_302 ?_
                refine lv_aload_n hx hb dL_law_303 rfl (lv_at hl 0 rfl) ?_
                refine lv_iload_n hx hb dL_law_304 rfl (lv_at hl 3 rfl) ?_
                refine lv_iconst (v := 2) hx hb dL_law_305 (by decide) ?_
                refine lv_iadd hx hb dL_law_306 ?_
                obtain ⟨hi, h⟩ := h
                refine va_sld hx hb hX hbl hbA hS hi dL_law_307 ?_
                refine lv_aload_n hx hb dL_law_308 rfl (lv_at hl 0 rfl) ?_
                refine lv_iload_n hx hb dL_law_309 rfl (lv_at hl 3 rfl) ?_
                refine lv_iconst (v := 3) hx hb dL_law_310 (by decide) ?_
                refine lv_iadd hx hb dL_law_311 ?_
                obtain ⟨hi, h⟩ := h
                refine va_sld hx hb hX hbl hbA hS hi dL_law_312 ?_
                obtain ⟨J_321, hJi_321, h⟩ := jnE1 h
                have hJ_321 : ∀ (w_20 : Int32), J_321 w_20 → ∀ (H : Heap) (locs : List Loc), va_P (dC, dI) vwCl (wL b0 h0 h1 h2 g0 g1 m0 m1 m2 m3 m4 m5 m6 m7 m8 m9 cI cJ cZ u_2) H → va_S A s.heap H locs → ∀ (ls : Array Slot), lv_has ls 4 [(0, .ref b), (1, .ref b0), (2, .ref m0), (3, .int v3_1)] → W p l e room_1 s m #[Value.ref b] below meth c H locs 16 1153 (lw_Z below #[Value.ref b] s) (F0 m 321 ls [.int w_20, .int (xs (v3_1 + (2 : Int32)).toNatClampNeg), .int (xs (v3_1 + (1 : Int32)).toNatClampNeg), .ref b0]) := by
                  intro w_20 h H locs hP hS ls hl
                  have h := hJi_321 _ h
                  have hPs := hP.sub (ws' := wX b0 h0 h1 h2 g0 g1 cI u_2.1) [0, 1, 2, 3, 4, 5] rfl
                  have hDs := (hD u_2).sub (ws' := wX b0 h0 h1 h2 g0 g1 cI u_2.1) [0, 1, 2, 3, 4, 5] (by decide) rfl
                  have hFc := fr_all (ws := wX b0 h0 h1 h2 g0 g1 cI u_2.1) hDs hS hA
                  refine va_calli (va_runV (As := [.int _, .int _, .int _]) (rest := []) ⟨hx, hb, hml, hown, htsL⟩ (c_X4_rib l dC dI b0 h0 h1 h2 g0 g1 cI (H).size h) (cwV 3 htsL gL_law_X4_rib rfl rfl rfl (by decide +kernel) ⟨Nat.le_of_ble_eq_true rfl, Nat.le_of_ble_eq_true rfl⟩) ⟨fbM, va_recv hKx hPs (ci := 2) (q0 := 0) rfl rfl, fun U hU hW => ⟨rfl, by rw [hU], by rw [hU]; exact hPs, va_K.moved hW.alike hKx, hDs.weaken (fun _ _ _ _ => trivial)⟩⟩ rfl rfl hl.1 rfl (lv_room (Nat.le_of_ble_eq_true rfl)) dL_law_321 ⟨Nat.le_of_ble_eq_true rfl, Nat.le_of_ble_eq_true rfl⟩) hS (fun q _ h => hFc q h) hFc (fun r_21 z_23 t H locs ht _ h hP1 _ hk1 hS => ?_)
                  obtain ⟨u_22, eu_22⟩ : ∃ z : (St × St) × St, z = (z_23, u_2.2) := ⟨_, rfl⟩
                  have h := h u_22 eu_22
                  have hP : va_P (dC, dI) vwCl (wL b0 h0 h1 h2 g0 g1 m0 m1 m2 m3 m4 m5 m6 m7 m8 m9 cI cJ cZ u_22) H := by rw [eu_22]; exact L_joinX hP (hD _) hk1 hFc (by rw [← ht]; exact hP1)
                  refine lv_aload_n hx hb dL_law_324 rfl (lv_at hl 2 rfl) ?_
                  refine lv_aload_n hx hb dL_law_325 rfl (lv_at hl 0 rfl) ?_
                  refine lv_iload_n hx hb dL_law_326 rfl (lv_at hl 3 rfl) ?_
                  refine lv_iconst (v := 1) hx hb dL_law_327 (by decide) ?_
                  refine lv_iadd hx hb dL_law_328 ?_
                  obtain ⟨hi, h⟩ := h
                  refine va_sld hx hb hX hbl hbA hS hi dL_law_329 ?_
                  refine lv_aload_n hx hb dL_law_330 rfl (lv_at hl 0 rfl) ?_
                  refine lv_iload_n hx hb dL_law_331 rfl (lv_at hl 3 rfl) ?_
                  refine lv_iconst (v := 2) hx hb dL_law_332 (by decide) ?_
                  refine lv_iadd hx hb dL_law_333 ?_
                  obtain ⟨hi, h⟩ := h
                  refine va_sld hx hb hX hbl hbA hS hi dL_law_334 ?_
                  refine lv_aload_n hx hb dL_law_335 rfl (lv_at hl 0 rfl) ?_
                  refine lv_iload_n hx hb dL_law_336 rfl (lv_at hl 3 rfl) ?_
                  refine lv_iconst (v := 3) hx hb dL_law_337 (by decide) ?_
                  refine lv_iadd hx hb dL_law_338 ?_
                  obtain ⟨hi, h⟩ := h
                  refine va_sld hx hb hX hbl hbA hS hi dL_law_339 ?_
                  obtain ⟨J_348, hJi_348, h⟩ := jnE1 h
                  have hJ_348 : ∀ (w_24 : Int32), J_348 w_24 → ∀ (H : Heap) (locs : List Loc), va_P (dC, dI) vwCl (wL b0 h0 h1 h2 g0 g1 m0 m1 m2 m3 m4 m5 m6 m7 m8 m9 cI cJ cZ u_22) H → va_S A s.heap H locs → ∀ (ls : Array Slot), lv_has ls 4 [(0, .ref b), (1, .ref b0), (2, .ref m0), (3, .int v3_1)] → W p l e room_1 s m #[Value.ref b] below meth c H locs 16 1153 (lw_Z below #[Value.ref b] s) (F0 m 348 ls [.int w_24, .int (xs (v3_1 + (2 : Int32)).toNatClampNeg), .int (xs (v3_1 + (1 : Int32)).toNatClampNeg), .ref m0, .int r_21]) := by
                    intro w_24 h H locs hP hS ls hl
                    have h := hJi_348 _ h
                    have hPs := hP.sub (ws' := wM m0 m1 m2 m3 m4 m5 m6 m7 m8 m9 cJ cZ u_22.2) [6, 7, 8, 9, 10, 11, 12, 13, 14, 15] rfl
                    have hDs := (hD u_22).sub (ws' := wM m0 m1 m2 m3 m4 m5 m6 m7 m8 m9 cJ cZ u_22.2) [6, 7, 8, 9, 10, 11, 12, 13, 14, 15] (by decide) rfl
                    have hFc := fr_all (ws := wM m0 m1 m2 m3 m4 m5 m6 m7 m8 m9 cJ cZ u_22.2) hDs hS hA
                    refine va_calli (va_runV (As := [.int _, .int _, .int _]) (rest := [.int _]) ⟨hx, hb, hml, hown, htsL⟩ (c_X5_rib l dC dI m0 m1 m2 m3 m4 m5 m6 m7 m8 m9 cJ cZ (H).size h) (cwV 3 htsL gL_law_X5_rib rfl rfl rfl (by decide +kernel) ⟨Nat.le_of_ble_eq_true rfl, Nat.le_of_ble_eq_true rfl⟩) ⟨fbM, va_recv hKm hPs (ci := 3) (q0 := 0) rfl rfl, fun U hU hW => ⟨rfl, by rw [hU], by rw [hU]; exact hPs, va_K.moved hW.alike hKm, hDs.weaken (fun _ _ _ _ => trivial)⟩⟩ rfl rfl hl.1 rfl (lv_room (Nat.le_of_ble_eq_true rfl)) dL_law_348 ⟨Nat.le_of_ble_eq_true rfl, Nat.le_of_ble_eq_true rfl⟩) hS (fun q _ h => hFc q h) hFc (fun r_25 z_27 t H locs ht _ h hP1 _ hk1 hS => ?_)
                    obtain ⟨u_26, eu_26⟩ : ∃ z : (St × St) × St, z = (u_22.1, z_27) := ⟨_, rfl⟩
                    have h := h u_26 eu_26
                    have hP : va_P (dC, dI) vwCl (wL b0 h0 h1 h2 g0 g1 m0 m1 m2 m3 m4 m5 m6 m7 m8 m9 cI cJ cZ u_26) H := by rw [eu_26]; exact L_joinM hP (hD _) hk1 hFc (by rw [← ht]; exact hP1)
                    refine lv_icmp_eq (tgt := 735) hx hb dL_law_351 (by decide) (fun c_351 => ?_) (fun c_351 => ?_)
                    · have h := br1 h c_351
                      exact hJ_735 _ h _ _ hP hS _ (lv_sub hl [0, 1, 2, 3] rfl)
                    · have h := br2 h c_351
                      refine lv_iconst (v := 0) hx hb dL_law_354 (by decide) ?_
                      exact h.elim
                  refine lv_if_eq (tgt := 347) hx hb dL_law_340 (by decide) (fun c_340 => ?_) (fun c_340 => ?_)
                  · have h := br1 h c_340
                    refine lv_iconst (v := 0) hx hb dL_law_347 (by decide) ?_
                    exact hJ_348 _ h _ _ hP hS _ (lv_sub hl [0, 1, 2, 3] rfl)
                  · have h := br2 h c_340
                    refine lv_iconst (v := 1) hx hb dL_law_343 (by decide) ?_
                    refine lv_goto (tgt := 348) hx hb dL_law_344 (by decide) ?_
                    exact hJ_348 _ h _ _ hP hS _ (lv_sub hl [0, 1, 2, 3] rfl)
                refine lv_if_eq (tgt := 320) hx hb dL_law_313 (by decide) (fun c_313 => ?_) (fun c_313 => ?_)
                · have h := br1 h c_313
                  refine lv_iconst (v := 0) hx hb dL_law_320 (by decide) ?_
                  exact hJ_321 _ h _ _ hP hS _ (lv_sub hl [0, 1, 2, 3] rfl)
                · have h := br2 h c_313
                  refine lv_iconst (v := 1) hx hb dL_law_316 (by decide) ?_
                  refine lv_goto (tgt := 321) hx hb dL_law_317 (by decide) ?_
                  exact hJ_321 _ h _ _ hP hS _ (lv_sub hl [0, 1, 2, 3] rfl)
              · have h := br2 h c_33_3
                rcases Decidable.em (y_3 = 4) with c_33_4 | c_33_4
                · have h := br1 h c_33_4
                  refine lv_tableIn (off := 323) (tgt := 356) hx hb dL_law_33 (by rw [c_33_4]; decide) (by rw [c_33_4]; decide) (by rw [c_33_4]; rfl) (by decide) ?_
                  refine lv_aload_n hx hb dL_law_356 rfl (lv_at hl 1 rfl) ?_
                  refine lv_aload_n hx hb dL_law_357 rfl (lv_at hl 0 rfl) ?_
                  refine lv_iload_n hx hb dL_law_358 rfl (lv_at hl 3 rfl) ?_
                  refine lv_iconst (v := 1) hx hb dL_law_359 (by decide) ?_
                  refine lv_iadd hx hb dL_law_360 ?_
                  obtain ⟨hi, h⟩ := h
                  refine va_sld hx hb hX hbl hbA hS hi dL_law_361 ?_
                  refine lv_aload_n hx hb dL_law_362 rfl (lv_at hl 0 rfl) ?_
                  refine lv_iload_n hx hb dL_law_363 rfl (lv_at hl 3 rfl) ?_
                  refine lv_iconst (v := 2) hx hb dL_law_364 (by decide) ?_
                  refine lv_iadd hx hb dL_law_365 ?_
                  obtain ⟨hi, h⟩ := h
                  refine va_sld hx hb hX hbl hbA hS hi dL_law_366 ?_
                  have hPs := hP.sub (ws' := wX b0 h0 h1 h2 g0 g1 cI u_2.1) [0, 1, 2, 3, 4, 5] rfl
                  have hDs := (hD u_2).sub (ws' := wX b0 h0 h1 h2 g0 g1 cI u_2.1) [0, 1, 2, 3, 4, 5] (by decide) rfl
                  have hFc := fr_all (ws := wX b0 h0 h1 h2 g0 g1 cI u_2.1) hDs hS hA
                  refine va_calli (va_runV (As := [.int _, .int _]) (rest := []) ⟨hx, hb, hml, hown, htsL⟩ (c_X4_ribs l dC dI b0 h0 h1 h2 g0 g1 cI (H).size h) (cwV 2 htsL gL_law_X4_ribs rfl rfl rfl (by decide +kernel) ⟨Nat.le_of_ble_eq_true rfl, Nat.le_of_ble_eq_true rfl⟩) ⟨fbM, va_recv hKx hPs (ci := 2) (q0 := 0) rfl rfl, fun U hU hW => ⟨rfl, by rw [hU], by rw [hU]; exact hPs, va_K.moved hW.alike hKx, hDs.weaken (fun _ _ _ _ => trivial)⟩⟩ rfl rfl hl.1 rfl (lv_room (Nat.le_of_ble_eq_true rfl)) dL_law_367 ⟨Nat.le_of_ble_eq_true rfl, Nat.le_of_ble_eq_true rfl⟩) hS (fun q _ h => hFc q h) hFc (fun r_28 z_30 t H locs ht _ h hP1 _ hk1 hS => ?_)
                  obtain ⟨u_29, eu_29⟩ : ∃ z : (St × St) × St, z = (z_30, u_2.2) := ⟨_, rfl⟩
                  have h := h u_29 eu_29
                  have hP : va_P (dC, dI) vwCl (wL b0 h0 h1 h2 g0 g1 m0 m1 m2 m3 m4 m5 m6 m7 m8 m9 cI cJ cZ u_29) H := by rw [eu_29]; exact L_joinX hP (hD _) hk1 hFc (by rw [← ht]; exact hP1)
                  refine lv_aload_n hx hb dL_law_370 rfl (lv_at hl 2 rfl) ?_
                  refine lv_aload_n hx hb dL_law_371 rfl (lv_at hl 0 rfl) ?_
                  refine lv_iload_n hx hb dL_law_372 rfl (lv_at hl 3 rfl) ?_
                  refine lv_iconst (v := 1) hx hb dL_law_373 (by decide) ?_
                  refine lv_iadd hx hb dL_law_374 ?_
                  obtain ⟨hi, h⟩ := h
                  refine va_sld hx hb hX hbl hbA hS hi dL_law_375 ?_
                  refine lv_aload_n hx hb dL_law_376 rfl (lv_at hl 0 rfl) ?_
                  refine lv_iload_n hx hb dL_law_377 rfl (lv_at hl 3 rfl) ?_
                  refine lv_iconst (v := 2) hx hb dL_law_378 (by decide) ?_
                  refine lv_iadd hx hb dL_law_379 ?_
                  obtain ⟨hi, h⟩ := h
                  refine va_sld hx hb hX hbl hbA hS hi dL_law_380 ?_
                  have hPs := hP.sub (ws' := wM m0 m1 m2 m3 m4 m5 m6 m7 m8 m9 cJ cZ u_29.2) [6, 7, 8, 9, 10, 11, 12, 13, 14, 15] rfl
                  have hDs := (hD u_29).sub (ws' := wM m0 m1 m2 m3 m4 m5 m6 m7 m8 m9 cJ cZ u_29.2) [6, 7, 8, 9, 10, 11, 12, 13, 14, 15] (by decide) rfl
                  have hFc := fr_all (ws := wM m0 m1 m2 m3 m4 m5 m6 m7 m8 m9 cJ cZ u_29.2) hDs hS hA
                  refine va_calli (va_runV (As := [.int _, .int _]) (rest := [.int _]) ⟨hx, hb, hml, hown, htsL⟩ (c_X5_ribs l dC dI m0 m1 m2 m3 m4 m5 m6 m7 m8 m9 cJ cZ (H).size h) (cwV 2 htsL gL_law_X5_ribs rfl rfl rfl (by decide +kernel) ⟨Nat.le_of_ble_eq_true rfl, Nat.le_of_ble_eq_true rfl⟩) ⟨fbM, va_recv hKm hPs (ci := 3) (q0 := 0) rfl rfl, fun U hU hW => ⟨rfl, by rw [hU], by rw [hU]; exact hPs, va_K.moved hW.alike hKm, hDs.weaken (fun _ _ _ _ => trivial)⟩⟩ rfl rfl hl.1 rfl (lv_room (Nat.le_of_ble_eq_true rfl)) dL_law_381 ⟨Nat.le_of_ble_eq_true rfl, Nat.le_of_ble_eq_true rfl⟩) hS (fun q _ h => hFc q h) hFc (fun r_31 z_33 t H locs ht _ h hP1 _ hk1 hS => ?_)
                  obtain ⟨u_32, eu_32⟩ : ∃ z : (St × St) × St, z = (u_29.1, z_33) := ⟨_, rfl⟩
                  have h := h u_32 eu_32
                  have hP : va_P (dC, dI) vwCl (wL b0 h0 h1 h2 g0 g1 m0 m1 m2 m3 m4 m5 m6 m7 m8 m9 cI cJ cZ u_32) H := by rw [eu_32]; exact L_joinM hP (hD _) hk1 hFc (by rw [← ht]; exact hP1)
                  refine lv_icmp_eq (tgt := 735) hx hb dL_law_384 (by decide) (fun c_384 => ?_) (fun c_384 => ?_)
                  · have h := br1 h c_384
                    exact hJ_735 _ h _ _ hP hS _ (lv_sub hl [0, 1, 2, 3] rfl)
                  · have h := br2 h c_384
                    refine lv_iconst (v := 0) hx hb dL_law_387 (by decide) ?_
                    exact h.elim
                · have h := br2 h c_33_4
                  rcases Decidable.em (y_3 = 5) with c_33_5 | c_33_5
                  · have h := br1 h c_33_5
                    refine lv_tableIn (off := 356) (tgt := 389) hx hb dL_law_33 (by rw [c_33_5]; decide) (by rw [c_33_5]; decide) (by rw [c_33_5]; rfl) (by decide) ?_
                    refine lv_aload_n hx hb dL_law_389 rfl (lv_at hl 1 rfl) ?_
                    refine lv_aload_n hx hb dL_law_390 rfl (lv_at hl 0 rfl) ?_
                    refine lv_iload_n hx hb dL_law_391 rfl (lv_at hl 3 rfl) ?_
                    refine lv_iconst (v := 1) hx hb dL_law_392 (by decide) ?_
                    refine lv_iadd hx hb dL_law_393 ?_
                    obtain ⟨hi, h⟩ := h
                    refine va_sld hx hb hX hbl hbA hS hi dL_law_394 ?_
                    refine lv_aload_n hx hb dL_law_395 rfl (lv_at hl 0 rfl) ?_
                    refine lv_iload_n hx hb dL_law_396 rfl (lv_at hl 3 rfl) ?_
                    refine lv_iconst (v := 2) hx hb dL_law_397 (by decide) ?_
                    refine lv_iadd hx hb dL_law_398 ?_
                    obtain ⟨hi, h⟩ := h
                    refine va_sld hx hb hX hbl hbA hS hi dL_law_399 ?_
                    refine lv_aload_n hx hb dL_law_400 rfl (lv_at hl 0 rfl) ?_
                    refine lv_iload_n hx hb dL_law_401 rfl (lv_at hl 3 rfl) ?_
                    refine lv_iconst (v := 3) hx hb dL_law_402 (by decide) ?_
                    refine lv_iadd hx hb dL_law_403 ?_
                    obtain ⟨hi, h⟩ := h
                    refine va_sld hx hb hX hbl hbA hS hi dL_law_404 ?_
                    refine lv_aload_n hx hb dL_law_405 rfl (lv_at hl 0 rfl) ?_
                    refine lv_iload_n hx hb dL_law_406 rfl (lv_at hl 3 rfl) ?_
                    refine lv_iconst (v := 4) hx hb dL_law_407 (by decide) ?_
                    refine lv_iadd hx hb dL_law_408 ?_
                    obtain ⟨hi, h⟩ := h
                    refine va_sld hx hb hX hbl hbA hS hi dL_law_409 ?_
                    refine lv_aload_n hx hb dL_law_410 rfl (lv_at hl 0 rfl) ?_
                    refine lv_iload_n hx hb dL_law_411 rfl (lv_at hl 3 rfl) ?_
                    refine lv_iconst (v := 5) hx hb dL_law_412 (by decide) ?_
                    refine lv_iadd hx hb dL_law_413 ?_
                    obtain ⟨hi, h⟩ := h
                    refine va_sld hx hb hX hbl hbA hS hi dL_law_414 ?_
                    obtain ⟨J_423, hJi_423, h⟩ := jnE1 h
                    have hJ_423 : ∀ (w_34 : Int32), J_423 w_34 → ∀ (H : Heap) (locs : List Loc), va_P (dC, dI) vwCl (wL b0 h0 h1 h2 g0 g1 m0 m1 m2 m3 m4 m5 m6 m7 m8 m9 cI cJ cZ u_2) H → va_S A s.heap H locs → ∀ (ls : Array Slot), lv_has ls 4 [(0, .ref b), (1, .ref b0), (2, .ref m0), (3, .int v3_1)] → W p l e room_1 s m #[Value.ref b] below meth c H locs 16 1153 (lw_Z below #[Value.ref b] s) (F0 m 423 ls [.int w_34, .int (xs (v3_1 + (4 : Int32)).toNatClampNeg), .int (xs (v3_1 + (3 : Int32)).toNatClampNeg), .int (xs (v3_1 + (2 : Int32)).toNatClampNeg), .int (xs (v3_1 + (1 : Int32)).toNatClampNeg), .ref b0]) := by
                      intro w_34 h H locs hP hS ls hl
                      have h := hJi_423 _ h
                      have hPs := hP.sub (ws' := wX b0 h0 h1 h2 g0 g1 cI u_2.1) [0, 1, 2, 3, 4, 5] rfl
                      refine vp_callSi (W.runV (As := [.int _, .int _, .int _, .int _, .int _]) (rest := []) ⟨hx, hb, hml, hown, htsL⟩ (c_X4_figure l dC dI b0 h0 h1 h2 g0 g1 cI h) (cwV 5 htsL gL_law_X4_figure rfl rfl rfl (by decide +kernel) ⟨Nat.le_of_ble_eq_true rfl, Nat.le_of_ble_eq_true rfl⟩) ⟨fbR, va_recv hKx hPs (ci := 2) (q0 := 0) rfl rfl, fun U hU hW => ⟨rfl, by rw [hU]; exact hPs, va_K.moved hW.alike hKx⟩⟩ rfl rfl hl.1 rfl (lv_room (Nat.le_of_ble_eq_true rfl)) dL_law_423 ⟨Nat.le_of_ble_eq_true rfl, Nat.le_of_ble_eq_true rfl⟩) (fun r_35 h => ?_)
                      refine lv_aload_n hx hb dL_law_426 rfl (lv_at hl 2 rfl) ?_
                      refine lv_aload_n hx hb dL_law_427 rfl (lv_at hl 0 rfl) ?_
                      refine lv_iload_n hx hb dL_law_428 rfl (lv_at hl 3 rfl) ?_
                      refine lv_iconst (v := 1) hx hb dL_law_429 (by decide) ?_
                      refine lv_iadd hx hb dL_law_430 ?_
                      obtain ⟨hi, h⟩ := h
                      refine va_sld hx hb hX hbl hbA hS hi dL_law_431 ?_
                      refine lv_aload_n hx hb dL_law_432 rfl (lv_at hl 0 rfl) ?_
                      refine lv_iload_n hx hb dL_law_433 rfl (lv_at hl 3 rfl) ?_
                      refine lv_iconst (v := 2) hx hb dL_law_434 (by decide) ?_
                      refine lv_iadd hx hb dL_law_435 ?_
                      obtain ⟨hi, h⟩ := h
                      refine va_sld hx hb hX hbl hbA hS hi dL_law_436 ?_
                      refine lv_aload_n hx hb dL_law_437 rfl (lv_at hl 0 rfl) ?_
                      refine lv_iload_n hx hb dL_law_438 rfl (lv_at hl 3 rfl) ?_
                      refine lv_iconst (v := 3) hx hb dL_law_439 (by decide) ?_
                      refine lv_iadd hx hb dL_law_440 ?_
                      obtain ⟨hi, h⟩ := h
                      refine va_sld hx hb hX hbl hbA hS hi dL_law_441 ?_
                      refine lv_aload_n hx hb dL_law_442 rfl (lv_at hl 0 rfl) ?_
                      refine lv_iload_n hx hb dL_law_443 rfl (lv_at hl 3 rfl) ?_
                      refine lv_iconst (v := 4) hx hb dL_law_444 (by decide) ?_
                      refine lv_iadd hx hb dL_law_445 ?_
                      obtain ⟨hi, h⟩ := h
                      refine va_sld hx hb hX hbl hbA hS hi dL_law_446 ?_
                      refine lv_aload_n hx hb dL_law_447 rfl (lv_at hl 0 rfl) ?_
                      refine lv_iload_n hx hb dL_law_448 rfl (lv_at hl 3 rfl) ?_
                      refine lv_iconst (v := 5) hx hb dL_law_449 (by decide) ?_
                      refine lv_iadd hx hb dL_law_450 ?_
                      obtain ⟨hi, h⟩ := h
                      refine va_sld hx hb hX hbl hbA hS hi dL_law_451 ?_
                      obtain ⟨J_460, hJi_460, h⟩ := jnE1 h
                      have hJ_460 : ∀ (w_36 : Int32), J_460 w_36 → ∀ (H : Heap) (locs : List Loc), va_P (dC, dI) vwCl (wL b0 h0 h1 h2 g0 g1 m0 m1 m2 m3 m4 m5 m6 m7 m8 m9 cI cJ cZ u_2) H → va_S A s.heap H locs → ∀ (ls : Array Slot), lv_has ls 4 [(0, .ref b), (1, .ref b0), (2, .ref m0), (3, .int v3_1)] → W p l e room_1 s m #[Value.ref b] below meth c H locs 16 1153 (lw_Z below #[Value.ref b] s) (F0 m 460 ls [.int w_36, .int (xs (v3_1 + (4 : Int32)).toNatClampNeg), .int (xs (v3_1 + (3 : Int32)).toNatClampNeg), .int (xs (v3_1 + (2 : Int32)).toNatClampNeg), .int (xs (v3_1 + (1 : Int32)).toNatClampNeg), .ref m0, .int r_35]) := by
                        intro w_36 h H locs hP hS ls hl
                        have h := hJi_460 _ h
                        have hPs := hP.sub (ws' := wM m0 m1 m2 m3 m4 m5 m6 m7 m8 m9 cJ cZ u_2.2) [6, 7, 8, 9, 10, 11, 12, 13, 14, 15] rfl
                        have hDs := (hD u_2).sub (ws' := wM m0 m1 m2 m3 m4 m5 m6 m7 m8 m9 cJ cZ u_2.2) [6, 7, 8, 9, 10, 11, 12, 13, 14, 15] (by decide) rfl
                        have hFc := fr_all (ws := wM m0 m1 m2 m3 m4 m5 m6 m7 m8 m9 cJ cZ u_2.2) hDs hS hA
                        refine va_calli (va_runV (As := [.int _, .int _, .int _, .int _, .int _]) (rest := [.int _]) ⟨hx, hb, hml, hown, htsL⟩ (c_X5_figure l dC dI m0 m1 m2 m3 m4 m5 m6 m7 m8 m9 cJ cZ (H).size h) (cwV 5 htsL gL_law_X5_figure rfl rfl rfl (by decide +kernel) ⟨Nat.le_of_ble_eq_true rfl, Nat.le_of_ble_eq_true rfl⟩) ⟨fbM, va_recv hKm hPs (ci := 3) (q0 := 0) rfl rfl, fun U hU hW => ⟨rfl, by rw [hU], by rw [hU]; exact hPs, va_K.moved hW.alike hKm, hDs.weaken (fun _ _ _ _ => trivial)⟩⟩ rfl rfl hl.1 rfl (lv_room (Nat.le_of_ble_eq_true rfl)) dL_law_460 ⟨Nat.le_of_ble_eq_true rfl, Nat.le_of_ble_eq_true rfl⟩) hS (fun q _ h => hFc q h) hFc (fun r_37 z_39 t H locs ht _ h hP1 _ hk1 hS => ?_)
                        obtain ⟨u_38, eu_38⟩ : ∃ z : (St × St) × St, z = (u_2.1, z_39) := ⟨_, rfl⟩
                        have h := h u_38 eu_38
                        have hP : va_P (dC, dI) vwCl (wL b0 h0 h1 h2 g0 g1 m0 m1 m2 m3 m4 m5 m6 m7 m8 m9 cI cJ cZ u_38) H := by rw [eu_38]; exact L_joinM hP (hD _) hk1 hFc (by rw [← ht]; exact hP1)
                        refine lv_icmp_eq (tgt := 735) hx hb dL_law_463 (by decide) (fun c_463 => ?_) (fun c_463 => ?_)
                        · have h := br1 h c_463
                          exact hJ_735 _ h _ _ hP hS _ (lv_sub hl [0, 1, 2, 3] rfl)
                        · have h := br2 h c_463
                          refine lv_iconst (v := 0) hx hb dL_law_466 (by decide) ?_
                          exact h.elim
                      refine lv_if_eq (tgt := 459) hx hb dL_law_452 (by decide) (fun c_452 => ?_) (fun c_452 => ?_)
                      · have h := br1 h c_452
                        refine lv_iconst (v := 0) hx hb dL_law_459 (by decide) ?_
                        exact hJ_460 _ h _ _ hP hS _ (lv_sub hl [0, 1, 2, 3] rfl)
                      · have h := br2 h c_452
                        refine lv_iconst (v := 1) hx hb dL_law_455 (by decide) ?_
                        refine lv_goto (tgt := 460) hx hb dL_law_456 (by decide) ?_
                        exact hJ_460 _ h _ _ hP hS _ (lv_sub hl [0, 1, 2, 3] rfl)
                    refine lv_if_eq (tgt := 422) hx hb dL_law_415 (by decide) (fun c_415 => ?_) (fun c_415 => ?_)
                    · have h := br1 h c_415
                      refine lv_iconst (v := 0) hx hb dL_law_422 (by decide) ?_
                      exact hJ_423 _ h _ _ hP hS _ (lv_sub hl [0, 1, 2, 3] rfl)
                    · have h := br2 h c_415
                      refine lv_iconst (v := 1) hx hb dL_law_418 (by decide) ?_
                      refine lv_goto (tgt := 423) hx hb dL_law_419 (by decide) ?_
                      exact hJ_423 _ h _ _ hP hS _ (lv_sub hl [0, 1, 2, 3] rfl)
                  · have h := br2 h c_33_5
                    rcases Decidable.em (y_3 = 6) with c_33_6 | c_33_6
                    · have h := br1 h c_33_6
                      refine lv_tableIn (off := 435) (tgt := 468) hx hb dL_law_33 (by rw [c_33_6]; decide) (by rw [c_33_6]; decide) (by rw [c_33_6]; rfl) (by decide) ?_
                      refine lv_aload_n hx hb dL_law_468 rfl (lv_at hl 1 rfl) ?_
                      refine lv_aload_n hx hb dL_law_469 rfl (lv_at hl 0 rfl) ?_
                      refine lv_iload_n hx hb dL_law_470 rfl (lv_at hl 3 rfl) ?_
                      refine lv_iconst (v := 1) hx hb dL_law_471 (by decide) ?_
                      refine lv_iadd hx hb dL_law_472 ?_
                      obtain ⟨hi, h⟩ := h
                      refine va_sld hx hb hX hbl hbA hS hi dL_law_473 ?_
                      refine lv_aload_n hx hb dL_law_474 rfl (lv_at hl 0 rfl) ?_
                      refine lv_iload_n hx hb dL_law_475 rfl (lv_at hl 3 rfl) ?_
                      refine lv_iconst (v := 2) hx hb dL_law_476 (by decide) ?_
                      refine lv_iadd hx hb dL_law_477 ?_
                      obtain ⟨hi, h⟩ := h
                      refine va_sld hx hb hX hbl hbA hS hi dL_law_478 ?_
                      refine lv_aload_n hx hb dL_law_479 rfl (lv_at hl 0 rfl) ?_
                      refine lv_iload_n hx hb dL_law_480 rfl (lv_at hl 3 rfl) ?_
                      refine lv_iconst (v := 3) hx hb dL_law_481 (by decide) ?_
                      refine lv_iadd hx hb dL_law_482 ?_
                      obtain ⟨hi, h⟩ := h
                      refine va_sld hx hb hX hbl hbA hS hi dL_law_483 ?_
                      have hPs := hP.sub (ws' := wX b0 h0 h1 h2 g0 g1 cI u_2.1) [0, 1, 2, 3, 4, 5] rfl
                      refine vp_callSi (W.runV (As := [.int _, .int _, .int _]) (rest := []) ⟨hx, hb, hml, hown, htsL⟩ (c_X4_about l dC dI b0 h0 h1 h2 g0 g1 cI h) (cwV 3 htsL gL_law_X4_about rfl rfl rfl (by decide +kernel) ⟨Nat.le_of_ble_eq_true rfl, Nat.le_of_ble_eq_true rfl⟩) ⟨fbR, va_recv hKx hPs (ci := 2) (q0 := 0) rfl rfl, fun U hU hW => ⟨rfl, by rw [hU]; exact hPs, va_K.moved hW.alike hKx⟩⟩ rfl rfl hl.1 rfl (lv_room (Nat.le_of_ble_eq_true rfl)) dL_law_484 ⟨Nat.le_of_ble_eq_true rfl, Nat.le_of_ble_eq_true rfl⟩) (fun r_40 h => ?_)
                      refine lv_aload_n hx hb dL_law_487 rfl (lv_at hl 2 rfl) ?_
                      refine lv_aload_n hx hb dL_law_488 rfl (lv_at hl 0 rfl) ?_
                      refine lv_iload_n hx hb dL_law_489 rfl (lv_at hl 3 rfl) ?_
                      refine lv_iconst (v := 1) hx hb dL_law_490 (by decide) ?_
                      refine lv_iadd hx hb dL_law_491 ?_
                      obtain ⟨hi, h⟩ := h
                      refine va_sld hx hb hX hbl hbA hS hi dL_law_492 ?_
                      refine lv_aload_n hx hb dL_law_493 rfl (lv_at hl 0 rfl) ?_
                      refine lv_iload_n hx hb dL_law_494 rfl (lv_at hl 3 rfl) ?_
                      refine lv_iconst (v := 2) hx hb dL_law_495 (by decide) ?_
                      refine lv_iadd hx hb dL_law_496 ?_
                      obtain ⟨hi, h⟩ := h
                      refine va_sld hx hb hX hbl hbA hS hi dL_law_497 ?_
                      refine lv_aload_n hx hb dL_law_498 rfl (lv_at hl 0 rfl) ?_
                      refine lv_iload_n hx hb dL_law_499 rfl (lv_at hl 3 rfl) ?_
                      refine lv_iconst (v := 3) hx hb dL_law_500 (by decide) ?_
                      refine lv_iadd hx hb dL_law_501 ?_
                      obtain ⟨hi, h⟩ := h
                      refine va_sld hx hb hX hbl hbA hS hi dL_law_502 ?_
                      have hPs := hP.sub (ws' := wM m0 m1 m2 m3 m4 m5 m6 m7 m8 m9 cJ cZ u_2.2) [6, 7, 8, 9, 10, 11, 12, 13, 14, 15] rfl
                      have hDs := (hD u_2).sub (ws' := wM m0 m1 m2 m3 m4 m5 m6 m7 m8 m9 cJ cZ u_2.2) [6, 7, 8, 9, 10, 11, 12, 13, 14, 15] (by decide) rfl
                      have hFc := fr_all (ws := wM m0 m1 m2 m3 m4 m5 m6 m7 m8 m9 cJ cZ u_2.2) hDs hS hA
                      refine va_calli (va_runV (As := [.int _, .int _, .int _]) (rest := [.int _]) ⟨hx, hb, hml, hown, htsL⟩ (c_X5_about l dC dI m0 m1 m2 m3 m4 m5 m6 m7 m8 m9 cJ cZ (H).size h) (cwV 3 htsL gL_law_X5_about rfl rfl rfl (by decide +kernel) ⟨Nat.le_of_ble_eq_true rfl, Nat.le_of_ble_eq_true rfl⟩) ⟨fbM, va_recv hKm hPs (ci := 3) (q0 := 0) rfl rfl, fun U hU hW => ⟨rfl, by rw [hU], by rw [hU]; exact hPs, va_K.moved hW.alike hKm, hDs.weaken (fun _ _ _ _ => trivial)⟩⟩ rfl rfl hl.1 rfl (lv_room (Nat.le_of_ble_eq_true rfl)) dL_law_503 ⟨Nat.le_of_ble_eq_true rfl, Nat.le_of_ble_eq_true rfl⟩) hS (fun q _ h => hFc q h) hFc (fun r_41 z_43 t H locs ht _ h hP1 _ hk1 hS => ?_)
                      obtain ⟨u_42, eu_42⟩ : ∃ z : (St × St) × St, z = (u_2.1, z_43) := ⟨_, rfl⟩
                      have h := h u_42 eu_42
                      have hP : va_P (dC, dI) vwCl (wL b0 h0 h1 h2 g0 g1 m0 m1 m2 m3 m4 m5 m6 m7 m8 m9 cI cJ cZ u_42) H := by rw [eu_42]; exact L_joinM hP (hD _) hk1 hFc (by rw [← ht]; exact hP1)
                      refine lv_icmp_eq (tgt := 735) hx hb dL_law_506 (by decide) (fun c_506 => ?_) (fun c_506 => ?_)
                      · have h := br1 h c_506
                        exact hJ_735 _ h _ _ hP hS _ (lv_sub hl [0, 1, 2, 3] rfl)
                      · have h := br2 h c_506
                        refine lv_iconst (v := 0) hx hb dL_law_509 (by decide) ?_
                        exact h.elim
                    · have h := br2 h c_33_6
                      rcases Decidable.em (y_3 = 7) with c_33_7 | c_33_7
                      · have h := br1 h c_33_7
                        refine lv_tableIn (off := 478) (tgt := 511) hx hb dL_law_33 (by rw [c_33_7]; decide) (by rw [c_33_7]; decide) (by rw [c_33_7]; rfl) (by decide) ?_
                        refine lv_aload_n hx hb dL_law_511 rfl (lv_at hl 1 rfl) ?_
                        refine lv_aload_n hx hb dL_law_512 rfl (lv_at hl 0 rfl) ?_
                        refine lv_iload_n hx hb dL_law_513 rfl (lv_at hl 3 rfl) ?_
                        refine lv_iconst (v := 1) hx hb dL_law_514 (by decide) ?_
                        refine lv_iadd hx hb dL_law_515 ?_
                        obtain ⟨hi, h⟩ := h
                        refine va_sld hx hb hX hbl hbA hS hi dL_law_516 ?_
                        have hPs := hP.sub (ws' := wX b0 h0 h1 h2 g0 g1 cI u_2.1) [0, 1, 2, 3, 4, 5] rfl
                        refine vp_callSi (W.runV (As := [.int _]) (rest := []) ⟨hx, hb, hml, hown, htsL⟩ (c_X4_caught l dC dI b0 h0 h1 h2 g0 g1 cI h) (cwV 1 htsL gL_law_X4_caught rfl rfl rfl (by decide +kernel) ⟨Nat.le_of_ble_eq_true rfl, Nat.le_of_ble_eq_true rfl⟩) ⟨fbR, va_recv hKx hPs (ci := 2) (q0 := 0) rfl rfl, fun U hU hW => ⟨rfl, by rw [hU]; exact hPs, va_K.moved hW.alike hKx⟩⟩ rfl rfl hl.1 rfl (lv_room (Nat.le_of_ble_eq_true rfl)) dL_law_517 ⟨Nat.le_of_ble_eq_true rfl, Nat.le_of_ble_eq_true rfl⟩) (fun r_44 h => ?_)
                        refine lv_aload_n hx hb dL_law_520 rfl (lv_at hl 2 rfl) ?_
                        refine lv_aload_n hx hb dL_law_521 rfl (lv_at hl 0 rfl) ?_
                        refine lv_iload_n hx hb dL_law_522 rfl (lv_at hl 3 rfl) ?_
                        refine lv_iconst (v := 1) hx hb dL_law_523 (by decide) ?_
                        refine lv_iadd hx hb dL_law_524 ?_
                        obtain ⟨hi, h⟩ := h
                        refine va_sld hx hb hX hbl hbA hS hi dL_law_525 ?_
                        have hPs := hP.sub (ws' := wM m0 m1 m2 m3 m4 m5 m6 m7 m8 m9 cJ cZ u_2.2) [6, 7, 8, 9, 10, 11, 12, 13, 14, 15] rfl
                        have hDs := (hD u_2).sub (ws' := wM m0 m1 m2 m3 m4 m5 m6 m7 m8 m9 cJ cZ u_2.2) [6, 7, 8, 9, 10, 11, 12, 13, 14, 15] (by decide) rfl
                        have hFc := fr_all (ws := wM m0 m1 m2 m3 m4 m5 m6 m7 m8 m9 cJ cZ u_2.2) hDs hS hA
                        refine va_calli (va_runV (As := [.int _]) (rest := [.int _]) ⟨hx, hb, hml, hown, htsL⟩ (c_X5_caught l dC dI m0 m1 m2 m3 m4 m5 m6 m7 m8 m9 cJ cZ (H).size h) (cwV 1 htsL gL_law_X5_caught rfl rfl rfl (by decide +kernel) ⟨Nat.le_of_ble_eq_true rfl, Nat.le_of_ble_eq_true rfl⟩) ⟨fbM, va_recv hKm hPs (ci := 3) (q0 := 0) rfl rfl, fun U hU hW => ⟨rfl, by rw [hU], by rw [hU]; exact hPs, va_K.moved hW.alike hKm, hDs.weaken (fun _ _ _ _ => trivial)⟩⟩ rfl rfl hl.1 rfl (lv_room (Nat.le_of_ble_eq_true rfl)) dL_law_526 ⟨Nat.le_of_ble_eq_true rfl, Nat.le_of_ble_eq_true rfl⟩) hS (fun q _ h => hFc q h) hFc (fun r_45 z_47 t H locs ht _ h hP1 _ hk1 hS => ?_)
                        obtain ⟨u_46, eu_46⟩ : ∃ z : (St × St) × St, z = (u_2.1, z_47) := ⟨_, rfl⟩
                        have h := h u_46 eu_46
                        have hP : va_P (dC, dI) vwCl (wL b0 h0 h1 h2 g0 g1 m0 m1 m2 m3 m4 m5 m6 m7 m8 m9 cI cJ cZ u_46) H := by rw [eu_46]; exact L_joinM hP (hD _) hk1 hFc (by rw [← ht]; exact hP1)
                        refine lv_icmp_eq (tgt := 735) hx hb dL_law_529 (by decide) (fun c_529 => ?_) (fun c_529 => ?_)
                        · have h := br1 h c_529
                          exact hJ_735 _ h _ _ hP hS _ (lv_sub hl [0, 1, 2, 3] rfl)
                        · have h := br2 h c_529
                          refine lv_iconst (v := 0) hx hb dL_law_532 (by decide) ?_
                          exact h.elim
                      · have h := br2 h c_33_7
                        rcases Decidable.em (y_3 = 8) with c_33_8 | c_33_8
                        · have h := br1 h c_33_8
                          refine lv_tableIn (off := 501) (tgt := 534) hx hb dL_law_33 (by rw [c_33_8]; decide) (by rw [c_33_8]; decide) (by rw [c_33_8]; rfl) (by decide) ?_
                          refine lv_aload_n hx hb dL_law_534 rfl (lv_at hl 1 rfl) ?_
                          refine lv_aload_n hx hb dL_law_535 rfl (lv_at hl 0 rfl) ?_
                          refine lv_iload_n hx hb dL_law_536 rfl (lv_at hl 3 rfl) ?_
                          refine lv_iconst (v := 1) hx hb dL_law_537 (by decide) ?_
                          refine lv_iadd hx hb dL_law_538 ?_
                          obtain ⟨hi, h⟩ := h
                          refine va_sld hx hb hX hbl hbA hS hi dL_law_539 ?_
                          refine lv_aload_n hx hb dL_law_540 rfl (lv_at hl 0 rfl) ?_
                          refine lv_iload_n hx hb dL_law_541 rfl (lv_at hl 3 rfl) ?_
                          refine lv_iconst (v := 2) hx hb dL_law_542 (by decide) ?_
                          refine lv_iadd hx hb dL_law_543 ?_
                          obtain ⟨hi, h⟩ := h
                          refine va_sld hx hb hX hbl hbA hS hi dL_law_544 ?_
                          refine lv_aload_n hx hb dL_law_545 rfl (lv_at hl 0 rfl) ?_
                          refine lv_iload_n hx hb dL_law_546 rfl (lv_at hl 3 rfl) ?_
                          refine lv_iconst (v := 3) hx hb dL_law_547 (by decide) ?_
                          refine lv_iadd hx hb dL_law_548 ?_
                          obtain ⟨hi, h⟩ := h
                          refine va_sld hx hb hX hbl hbA hS hi dL_law_549 ?_
                          have hPs := hP.sub (ws' := wX b0 h0 h1 h2 g0 g1 cI u_2.1) [0, 1, 2, 3, 4, 5] rfl
                          refine vp_callSi (W.runV (As := [.int _, .int _, .int _]) (rest := []) ⟨hx, hb, hml, hown, htsL⟩ (c_X4_run l dC dI b0 h0 h1 h2 g0 g1 cI h) (cwV 3 htsL gL_law_X4_run rfl rfl rfl (by decide +kernel) ⟨Nat.le_of_ble_eq_true rfl, Nat.le_of_ble_eq_true rfl⟩) ⟨fbR, va_recv hKx hPs (ci := 2) (q0 := 0) rfl rfl, fun U hU hW => ⟨rfl, by rw [hU]; exact hPs, va_K.moved hW.alike hKx⟩⟩ rfl rfl hl.1 rfl (lv_room (Nat.le_of_ble_eq_true rfl)) dL_law_550 ⟨Nat.le_of_ble_eq_true rfl, Nat.le_of_ble_eq_true rfl⟩) (fun r_48 h => ?_)
                          refine lv_aload_n hx hb dL_law_553 rfl (lv_at hl 2 rfl) ?_
                          refine lv_aload_n hx hb dL_law_554 rfl (lv_at hl 0 rfl) ?_
                          refine lv_iload_n hx hb dL_law_555 rfl (lv_at hl 3 rfl) ?_
                          refine lv_iconst (v := 1) hx hb dL_law_556 (by decide) ?_
                          refine lv_iadd hx hb dL_law_557 ?_
                          obtain ⟨hi, h⟩ := h
                          refine va_sld hx hb hX hbl hbA hS hi dL_law_558 ?_
                          refine lv_aload_n hx hb dL_law_559 rfl (lv_at hl 0 rfl) ?_
                          refine lv_iload_n hx hb dL_law_560 rfl (lv_at hl 3 rfl) ?_
                          refine lv_iconst (v := 2) hx hb dL_law_561 (by decide) ?_
                          refine lv_iadd hx hb dL_law_562 ?_
                          obtain ⟨hi, h⟩ := h
                          refine va_sld hx hb hX hbl hbA hS hi dL_law_563 ?_
                          refine lv_aload_n hx hb dL_law_564 rfl (lv_at hl 0 rfl) ?_
                          refine lv_iload_n hx hb dL_law_565 rfl (lv_at hl 3 rfl) ?_
                          refine lv_iconst (v := 3) hx hb dL_law_566 (by decide) ?_
                          refine lv_iadd hx hb dL_law_567 ?_
                          obtain ⟨hi, h⟩ := h
                          refine va_sld hx hb hX hbl hbA hS hi dL_law_568 ?_
                          have hPs := hP.sub (ws' := wM m0 m1 m2 m3 m4 m5 m6 m7 m8 m9 cJ cZ u_2.2) [6, 7, 8, 9, 10, 11, 12, 13, 14, 15] rfl
                          have hDs := (hD u_2).sub (ws' := wM m0 m1 m2 m3 m4 m5 m6 m7 m8 m9 cJ cZ u_2.2) [6, 7, 8, 9, 10, 11, 12, 13, 14, 15] (by decide) rfl
                          have hFc := fr_all (ws := wM m0 m1 m2 m3 m4 m5 m6 m7 m8 m9 cJ cZ u_2.2) hDs hS hA
                          refine va_calli (va_runV (As := [.int _, .int _, .int _]) (rest := [.int _]) ⟨hx, hb, hml, hown, htsL⟩ (c_X5_run l dC dI m0 m1 m2 m3 m4 m5 m6 m7 m8 m9 cJ cZ (H).size h) (cwV 3 htsL gL_law_X5_run rfl rfl rfl (by decide +kernel) ⟨Nat.le_of_ble_eq_true rfl, Nat.le_of_ble_eq_true rfl⟩) ⟨fbM, va_recv hKm hPs (ci := 3) (q0 := 0) rfl rfl, fun U hU hW => ⟨rfl, by rw [hU], by rw [hU]; exact hPs, va_K.moved hW.alike hKm, hDs.weaken (fun _ _ _ _ => trivial)⟩⟩ rfl rfl hl.1 rfl (lv_room (Nat.le_of_ble_eq_true rfl)) dL_law_569 ⟨Nat.le_of_ble_eq_true rfl, Nat.le_of_ble_eq_true rfl⟩) hS (fun q _ h => hFc q h) hFc (fun r_49 z_51 t H locs ht _ h hP1 _ hk1 hS => ?_)
                          obtain ⟨u_50, eu_50⟩ : ∃ z : (St × St) × St, z = (u_2.1, z_51) := ⟨_, rfl⟩
                          have h := h u_50 eu_50
                          have hP : va_P (dC, dI) vwCl (wL b0 h0 h1 h2 g0 g1 m0 m1 m2 m3 m4 m5 m6 m7 m8 m9 cI cJ cZ u_50) H := by rw [eu_50]; exact L_joinM hP (hD _) hk1 hFc (by rw [← ht]; exact hP1)
                          refine lv_icmp_eq (tgt := 735) hx hb dL_law_572 (by decide) (fun c_572 => ?_) (fun c_572 => ?_)
                          · have h := br1 h c_572
                            exact hJ_735 _ h _ _ hP hS _ (lv_sub hl [0, 1, 2, 3] rfl)
                          · have h := br2 h c_572
                            refine lv_iconst (v := 0) hx hb dL_law_575 (by decide) ?_
                            exact h.elim
                        · have h := br2 h c_33_8
                          rcases Decidable.em (y_3 = 9) with c_33_9 | c_33_9
                          · have h := br1 h c_33_9
                            refine lv_tableIn (off := 544) (tgt := 577) hx hb dL_law_33 (by rw [c_33_9]; decide) (by rw [c_33_9]; decide) (by rw [c_33_9]; rfl) (by decide) ?_
                            refine lv_aload_n hx hb dL_law_577 rfl (lv_at hl 1 rfl) ?_
                            have hPs := hP.sub (ws' := wX b0 h0 h1 h2 g0 g1 cI u_2.1) [0, 1, 2, 3, 4, 5] rfl
                            refine vp_callSi (W.runV (As := []) (rest := []) ⟨hx, hb, hml, hown, htsL⟩ (c_X4_cover l dC dI b0 h0 h1 h2 g0 g1 cI h) (cwV 0 htsL gL_law_X4_cover rfl rfl rfl (by decide +kernel) ⟨Nat.le_of_ble_eq_true rfl, Nat.le_of_ble_eq_true rfl⟩) ⟨fbR, va_recv hKx hPs (ci := 2) (q0 := 0) rfl rfl, fun U hU hW => ⟨rfl, by rw [hU]; exact hPs, va_K.moved hW.alike hKx⟩⟩ rfl rfl hl.1 rfl (lv_room (Nat.le_of_ble_eq_true rfl)) dL_law_578 ⟨Nat.le_of_ble_eq_true rfl, Nat.le_of_ble_eq_true rfl⟩) (fun r_52 h => ?_)
                            refine lv_aload_n hx hb dL_law_581 rfl (lv_at hl 2 rfl) ?_
                            have hPs := hP.sub (ws' := wM m0 m1 m2 m3 m4 m5 m6 m7 m8 m9 cJ cZ u_2.2) [6, 7, 8, 9, 10, 11, 12, 13, 14, 15] rfl
                            have hDs := (hD u_2).sub (ws' := wM m0 m1 m2 m3 m4 m5 m6 m7 m8 m9 cJ cZ u_2.2) [6, 7, 8, 9, 10, 11, 12, 13, 14, 15] (by decide) rfl
                            have hFc := fr_all (ws := wM m0 m1 m2 m3 m4 m5 m6 m7 m8 m9 cJ cZ u_2.2) hDs hS hA
                            refine va_calli (va_runV (As := []) (rest := [.int _]) ⟨hx, hb, hml, hown, htsL⟩ (c_X5_cover l dC dI m0 m1 m2 m3 m4 m5 m6 m7 m8 m9 cJ cZ (H).size h) (cwV 0 htsL gL_law_X5_cover rfl rfl rfl (by decide +kernel) ⟨Nat.le_of_ble_eq_true rfl, Nat.le_of_ble_eq_true rfl⟩) ⟨fbM, va_recv hKm hPs (ci := 3) (q0 := 0) rfl rfl, fun U hU hW => ⟨rfl, by rw [hU], by rw [hU]; exact hPs, va_K.moved hW.alike hKm, hDs.weaken (fun _ _ _ _ => trivial)⟩⟩ rfl rfl hl.1 rfl (lv_room (Nat.le_of_ble_eq_true rfl)) dL_law_582 ⟨Nat.le_of_ble_eq_true rfl, Nat.le_of_ble_eq_true rfl⟩) hS (fun q _ h => hFc q h) hFc (fun r_53 z_55 t H locs ht _ h hP1 _ hk1 hS => ?_)
                            obtain ⟨u_54, eu_54⟩ : ∃ z : (St × St) × St, z = (u_2.1, z_55) := ⟨_, rfl⟩
                            have h := h u_54 eu_54
                            have hP : va_P (dC, dI) vwCl (wL b0 h0 h1 h2 g0 g1 m0 m1 m2 m3 m4 m5 m6 m7 m8 m9 cI cJ cZ u_54) H := by rw [eu_54]; exact L_joinM hP (hD _) hk1 hFc (by rw [← ht]; exact hP1)
                            refine lv_icmp_eq (tgt := 735) hx hb dL_law_585 (by decide) (fun c_585 => ?_) (fun c_585 => ?_)
                            · have h := br1 h c_585
                              exact hJ_735 _ h _ _ hP hS _ (lv_sub hl [0, 1, 2, 3] rfl)
                            · have h := br2 h c_585
                              refine lv_iconst (v := 0) hx hb dL_law_588 (by decide) ?_
                              exact h.elim
                          · have h := br2 h c_33_9
                            rcases Decidable.em (y_3 = 10) with c_33_10 | c_33_10
                            · have h := br1 h c_33_10
                              refine lv_tableIn (off := 557) (tgt := 590) hx hb dL_law_33 (by rw [c_33_10]; decide) (by rw [c_33_10]; decide) (by rw [c_33_10]; rfl) (by decide) ?_
                              refine lv_aload_n hx hb dL_law_590 rfl (lv_at hl 1 rfl) ?_
                              refine lv_aload_n hx hb dL_law_591 rfl (lv_at hl 0 rfl) ?_
                              refine lv_iload_n hx hb dL_law_592 rfl (lv_at hl 3 rfl) ?_
                              refine lv_iconst (v := 1) hx hb dL_law_593 (by decide) ?_
                              refine lv_iadd hx hb dL_law_594 ?_
                              obtain ⟨hi, h⟩ := h
                              refine va_sld hx hb hX hbl hbA hS hi dL_law_595 ?_
                              refine lv_aload_n hx hb dL_law_596 rfl (lv_at hl 0 rfl) ?_
                              refine lv_iload_n hx hb dL_law_597 rfl (lv_at hl 3 rfl) ?_
                              refine lv_iconst (v := 2) hx hb dL_law_598 (by decide) ?_
                              refine lv_iadd hx hb dL_law_599 ?_
                              obtain ⟨hi, h⟩ := h
                              refine va_sld hx hb hX hbl hbA hS hi dL_law_600 ?_
                              have hPs := hP.sub (ws' := wX b0 h0 h1 h2 g0 g1 cI u_2.1) [0, 1, 2, 3, 4, 5] rfl
                              have hDs := (hD u_2).sub (ws' := wX b0 h0 h1 h2 g0 g1 cI u_2.1) [0, 1, 2, 3, 4, 5] (by decide) rfl
                              have hFc := fr_all (ws := wX b0 h0 h1 h2 g0 g1 cI u_2.1) hDs hS hA
                              refine va_calli (va_runV (As := [.int _, .int _]) (rest := []) ⟨hx, hb, hml, hown, htsL⟩ (c_X4_best l dC dI b0 h0 h1 h2 g0 g1 cI (H).size h) (cwV 2 htsL gL_law_X4_best rfl rfl rfl (by decide +kernel) ⟨Nat.le_of_ble_eq_true rfl, Nat.le_of_ble_eq_true rfl⟩) ⟨fbM, va_recv hKx hPs (ci := 2) (q0 := 0) rfl rfl, fun U hU hW => ⟨rfl, by rw [hU], by rw [hU]; exact hPs, va_K.moved hW.alike hKx, hDs.weaken (fun _ _ _ _ => trivial)⟩⟩ rfl rfl hl.1 rfl (lv_room (Nat.le_of_ble_eq_true rfl)) dL_law_601 ⟨Nat.le_of_ble_eq_true rfl, Nat.le_of_ble_eq_true rfl⟩) hS (fun q _ h => hFc q h) hFc (fun r_56 z_58 t H locs ht _ h hP1 _ hk1 hS => ?_)
                              obtain ⟨u_57, eu_57⟩ : ∃ z : (St × St) × St, z = (z_58, u_2.2) := ⟨_, rfl⟩
                              have h := h u_57 eu_57
                              have hP : va_P (dC, dI) vwCl (wL b0 h0 h1 h2 g0 g1 m0 m1 m2 m3 m4 m5 m6 m7 m8 m9 cI cJ cZ u_57) H := by rw [eu_57]; exact L_joinX hP (hD _) hk1 hFc (by rw [← ht]; exact hP1)
                              refine lv_aload_n hx hb dL_law_604 rfl (lv_at hl 2 rfl) ?_
                              refine lv_aload_n hx hb dL_law_605 rfl (lv_at hl 0 rfl) ?_
                              refine lv_iload_n hx hb dL_law_606 rfl (lv_at hl 3 rfl) ?_
                              refine lv_iconst (v := 1) hx hb dL_law_607 (by decide) ?_
                              refine lv_iadd hx hb dL_law_608 ?_
                              obtain ⟨hi, h⟩ := h
                              refine va_sld hx hb hX hbl hbA hS hi dL_law_609 ?_
                              refine lv_aload_n hx hb dL_law_610 rfl (lv_at hl 0 rfl) ?_
                              refine lv_iload_n hx hb dL_law_611 rfl (lv_at hl 3 rfl) ?_
                              refine lv_iconst (v := 2) hx hb dL_law_612 (by decide) ?_
                              refine lv_iadd hx hb dL_law_613 ?_
                              obtain ⟨hi, h⟩ := h
                              refine va_sld hx hb hX hbl hbA hS hi dL_law_614 ?_
                              have hPs := hP.sub (ws' := wM m0 m1 m2 m3 m4 m5 m6 m7 m8 m9 cJ cZ u_57.2) [6, 7, 8, 9, 10, 11, 12, 13, 14, 15] rfl
                              have hDs := (hD u_57).sub (ws' := wM m0 m1 m2 m3 m4 m5 m6 m7 m8 m9 cJ cZ u_57.2) [6, 7, 8, 9, 10, 11, 12, 13, 14, 15] (by decide) rfl
                              have hFc := fr_all (ws := wM m0 m1 m2 m3 m4 m5 m6 m7 m8 m9 cJ cZ u_57.2) hDs hS hA
                              refine va_calli (va_runV (As := [.int _, .int _]) (rest := [.int _]) ⟨hx, hb, hml, hown, htsL⟩ (c_X5_best l dC dI m0 m1 m2 m3 m4 m5 m6 m7 m8 m9 cJ cZ (H).size h) (cwV 2 htsL gL_law_X5_best rfl rfl rfl (by decide +kernel) ⟨Nat.le_of_ble_eq_true rfl, Nat.le_of_ble_eq_true rfl⟩) ⟨fbM, va_recv hKm hPs (ci := 3) (q0 := 0) rfl rfl, fun U hU hW => ⟨rfl, by rw [hU], by rw [hU]; exact hPs, va_K.moved hW.alike hKm, hDs.weaken (fun _ _ _ _ => trivial)⟩⟩ rfl rfl hl.1 rfl (lv_room (Nat.le_of_ble_eq_true rfl)) dL_law_615 ⟨Nat.le_of_ble_eq_true rfl, Nat.le_of_ble_eq_true rfl⟩) hS (fun q _ h => hFc q h) hFc (fun r_59 z_61 t H locs ht _ h hP1 _ hk1 hS => ?_)
                              obtain ⟨u_60, eu_60⟩ : ∃ z : (St × St) × St, z = (u_57.1, z_61) := ⟨_, rfl⟩
                              have h := h u_60 eu_60
                              have hP : va_P (dC, dI) vwCl (wL b0 h0 h1 h2 g0 g1 m0 m1 m2 m3 m4 m5 m6 m7 m8 m9 cI cJ cZ u_60) H := by rw [eu_60]; exact L_joinM hP (hD _) hk1 hFc (by rw [← ht]; exact hP1)
                              refine lv_icmp_eq (tgt := 735) hx hb dL_law_618 (by decide) (fun c_618 => ?_) (fun c_618 => ?_)
                              · have h := br1 h c_618
                                exact hJ_735 _ h _ _ hP hS _ (lv_sub hl [0, 1, 2, 3] rfl)
                              · have h := br2 h c_618
                                refine lv_iconst (v := 0) hx hb dL_law_621 (by decide) ?_
                                exact h.elim
                            · have h := br2 h c_33_10
                              rcases Decidable.em (y_3 = 11) with c_33_11 | c_33_11
                              · have h := br1 h c_33_11
                                refine lv_tableIn (off := 590) (tgt := 623) hx hb dL_law_33 (by rw [c_33_11]; decide) (by rw [c_33_11]; decide) (by rw [c_33_11]; rfl) (by decide) ?_
                                refine lv_aload_n hx hb dL_law_623 rfl (lv_at hl 1 rfl) ?_
                                refine lv_aload_n hx hb dL_law_624 rfl (lv_at hl 0 rfl) ?_
                                refine lv_iload_n hx hb dL_law_625 rfl (lv_at hl 3 rfl) ?_
                                refine lv_iconst (v := 1) hx hb dL_law_626 (by decide) ?_
                                refine lv_iadd hx hb dL_law_627 ?_
                                obtain ⟨hi, h⟩ := h
                                refine va_sld hx hb hX hbl hbA hS hi dL_law_628 ?_
                                have hPs := hP.sub (ws' := wX b0 h0 h1 h2 g0 g1 cI u_2.1) [0, 1, 2, 3, 4, 5] rfl
                                refine vp_callSi (W.runV (As := [.int _]) (rest := []) ⟨hx, hb, hml, hown, htsL⟩ (c_X4_told l dC dI b0 h0 h1 h2 g0 g1 cI h) (cwV 1 htsL gL_law_X4_told rfl rfl rfl (by decide +kernel) ⟨Nat.le_of_ble_eq_true rfl, Nat.le_of_ble_eq_true rfl⟩) ⟨fbR, va_recv hKx hPs (ci := 2) (q0 := 0) rfl rfl, fun U hU hW => ⟨rfl, by rw [hU]; exact hPs, va_K.moved hW.alike hKx⟩⟩ rfl rfl hl.1 rfl (lv_room (Nat.le_of_ble_eq_true rfl)) dL_law_629 ⟨Nat.le_of_ble_eq_true rfl, Nat.le_of_ble_eq_true rfl⟩) (fun r_62 h => ?_)
                                refine lv_aload_n hx hb dL_law_632 rfl (lv_at hl 2 rfl) ?_
                                refine lv_aload_n hx hb dL_law_633 rfl (lv_at hl 0 rfl) ?_
                                refine lv_iload_n hx hb dL_law_634 rfl (lv_at hl 3 rfl) ?_
                                refine lv_iconst (v := 1) hx hb dL_law_635 (by decide) ?_
                                refine lv_iadd hx hb dL_law_636 ?_
                                obtain ⟨hi, h⟩ := h
                                refine va_sld hx hb hX hbl hbA hS hi dL_law_637 ?_
                                have hPs := hP.sub (ws' := wM m0 m1 m2 m3 m4 m5 m6 m7 m8 m9 cJ cZ u_2.2) [6, 7, 8, 9, 10, 11, 12, 13, 14, 15] rfl
                                have hDs := (hD u_2).sub (ws' := wM m0 m1 m2 m3 m4 m5 m6 m7 m8 m9 cJ cZ u_2.2) [6, 7, 8, 9, 10, 11, 12, 13, 14, 15] (by decide) rfl
                                have hFc := fr_all (ws := wM m0 m1 m2 m3 m4 m5 m6 m7 m8 m9 cJ cZ u_2.2) hDs hS hA
                                refine va_calli (va_runV (As := [.int _]) (rest := [.int _]) ⟨hx, hb, hml, hown, htsL⟩ (c_X5_told l dC dI m0 m1 m2 m3 m4 m5 m6 m7 m8 m9 cJ cZ (H).size h) (cwV 1 htsL gL_law_X5_told rfl rfl rfl (by decide +kernel) ⟨Nat.le_of_ble_eq_true rfl, Nat.le_of_ble_eq_true rfl⟩) ⟨fbM, va_recv hKm hPs (ci := 3) (q0 := 0) rfl rfl, fun U hU hW => ⟨rfl, by rw [hU], by rw [hU]; exact hPs, va_K.moved hW.alike hKm, hDs.weaken (fun _ _ _ _ => trivial)⟩⟩ rfl rfl hl.1 rfl (lv_room (Nat.le_of_ble_eq_true rfl)) dL_law_638 ⟨Nat.le_of_ble_eq_true rfl, Nat.le_of_ble_eq_true rfl⟩) hS (fun q _ h => hFc q h) hFc (fun r_63 z_65 t H locs ht _ h hP1 _ hk1 hS => ?_)
                                obtain ⟨u_64, eu_64⟩ : ∃ z : (St × St) × St, z = (u_2.1, z_65) := ⟨_, rfl⟩
                                have h := h u_64 eu_64
                                have hP : va_P (dC, dI) vwCl (wL b0 h0 h1 h2 g0 g1 m0 m1 m2 m3 m4 m5 m6 m7 m8 m9 cI cJ cZ u_64) H := by rw [eu_64]; exact L_joinM hP (hD _) hk1 hFc (by rw [← ht]; exact hP1)
                                refine lv_icmp_eq (tgt := 735) hx hb dL_law_641 (by decide) (fun c_641 => ?_) (fun c_641 => ?_)
                                · have h := br1 h c_641
                                  exact hJ_735 _ h _ _ hP hS _ (lv_sub hl [0, 1, 2, 3] rfl)
                                · have h := br2 h c_641
                                  refine lv_iconst (v := 0) hx hb dL_law_644 (by decide) ?_
                                  exact h.elim
                              · have h := br2 h c_33_11
                                rcases Decidable.em (y_3 = 12) with c_33_12 | c_33_12
                                · have h := br1 h c_33_12
                                  refine lv_tableIn (off := 613) (tgt := 646) hx hb dL_law_33 (by rw [c_33_12]; decide) (by rw [c_33_12]; decide) (by rw [c_33_12]; rfl) (by decide) ?_
                                  refine lv_aload_n hx hb dL_law_646 rfl (lv_at hl 1 rfl) ?_
                                  refine lv_aload_n hx hb dL_law_647 rfl (lv_at hl 0 rfl) ?_
                                  refine lv_iload_n hx hb dL_law_648 rfl (lv_at hl 3 rfl) ?_
                                  refine lv_iconst (v := 1) hx hb dL_law_649 (by decide) ?_
                                  refine lv_iadd hx hb dL_law_650 ?_
                                  obtain ⟨hi, h⟩ := h
                                  refine va_sld hx hb hX hbl hbA hS hi dL_law_651 ?_
                                  refine lv_aload_n hx hb dL_law_652 rfl (lv_at hl 0 rfl) ?_
                                  refine lv_iload_n hx hb dL_law_653 rfl (lv_at hl 3 rfl) ?_
                                  refine lv_iconst (v := 2) hx hb dL_law_654 (by decide) ?_
                                  refine lv_iadd hx hb dL_law_655 ?_
                                  obtain ⟨hi, h⟩ := h
                                  refine va_sld hx hb hX hbl hbA hS hi dL_law_656 ?_
                                  refine lv_aload_n hx hb dL_law_657 rfl (lv_at hl 0 rfl) ?_
                                  refine lv_iload_n hx hb dL_law_658 rfl (lv_at hl 3 rfl) ?_
                                  refine lv_iconst (v := 3) hx hb dL_law_659 (by decide) ?_
                                  refine lv_iadd hx hb dL_law_660 ?_
                                  obtain ⟨hi, h⟩ := h
                                  refine va_sld hx hb hX hbl hbA hS hi dL_law_661 ?_
                                  have hPs := hP.sub (ws' := wX b0 h0 h1 h2 g0 g1 cI u_2.1) [0, 1, 2, 3, 4, 5] rfl
                                  have hDs := (hD u_2).sub (ws' := wX b0 h0 h1 h2 g0 g1 cI u_2.1) [0, 1, 2, 3, 4, 5] (by decide) rfl
                                  have hFc := fr_all (ws := wX b0 h0 h1 h2 g0 g1 cI u_2.1) hDs hS hA
                                  refine va_calli (va_runV (As := [.int _, .int _, .int _]) (rest := []) ⟨hx, hb, hml, hown, htsL⟩ (c_X4_lay l dC dI b0 h0 h1 h2 g0 g1 cI (H).size h) (cwV 3 htsL gL_law_X4_lay rfl rfl rfl (by decide +kernel) ⟨Nat.le_of_ble_eq_true rfl, Nat.le_of_ble_eq_true rfl⟩) ⟨fbM, va_recv hKx hPs (ci := 2) (q0 := 0) rfl rfl, fun U hU hW => ⟨rfl, by rw [hU], by rw [hU]; exact hPs, va_K.moved hW.alike hKx, hDs.weaken (fun _ _ _ _ => trivial)⟩⟩ rfl rfl hl.1 rfl (lv_room (Nat.le_of_ble_eq_true rfl)) dL_law_662 ⟨Nat.le_of_ble_eq_true rfl, Nat.le_of_ble_eq_true rfl⟩) hS (fun q _ h => hFc q h) hFc (fun r_66 z_68 t H locs ht _ h hP1 _ hk1 hS => ?_)
                                  obtain ⟨u_67, eu_67⟩ : ∃ z : (St × St) × St, z = (z_68, u_2.2) := ⟨_, rfl⟩
                                  have h := h u_67 eu_67
                                  have hP : va_P (dC, dI) vwCl (wL b0 h0 h1 h2 g0 g1 m0 m1 m2 m3 m4 m5 m6 m7 m8 m9 cI cJ cZ u_67) H := by rw [eu_67]; exact L_joinX hP (hD _) hk1 hFc (by rw [← ht]; exact hP1)
                                  refine lv_aload_n hx hb dL_law_665 rfl (lv_at hl 2 rfl) ?_
                                  refine lv_aload_n hx hb dL_law_666 rfl (lv_at hl 0 rfl) ?_
                                  refine lv_iload_n hx hb dL_law_667 rfl (lv_at hl 3 rfl) ?_
                                  refine lv_iconst (v := 1) hx hb dL_law_668 (by decide) ?_
                                  refine lv_iadd hx hb dL_law_669 ?_
                                  obtain ⟨hi, h⟩ := h
                                  refine va_sld hx hb hX hbl hbA hS hi dL_law_670 ?_
                                  refine lv_aload_n hx hb dL_law_671 rfl (lv_at hl 0 rfl) ?_
                                  refine lv_iload_n hx hb dL_law_672 rfl (lv_at hl 3 rfl) ?_
                                  refine lv_iconst (v := 2) hx hb dL_law_673 (by decide) ?_
                                  refine lv_iadd hx hb dL_law_674 ?_
                                  obtain ⟨hi, h⟩ := h
                                  refine va_sld hx hb hX hbl hbA hS hi dL_law_675 ?_
                                  refine lv_aload_n hx hb dL_law_676 rfl (lv_at hl 0 rfl) ?_
                                  refine lv_iload_n hx hb dL_law_677 rfl (lv_at hl 3 rfl) ?_
                                  refine lv_iconst (v := 3) hx hb dL_law_678 (by decide) ?_
                                  refine lv_iadd hx hb dL_law_679 ?_
                                  obtain ⟨hi, h⟩ := h
                                  refine va_sld hx hb hX hbl hbA hS hi dL_law_680 ?_
                                  have hPs := hP.sub (ws' := wM m0 m1 m2 m3 m4 m5 m6 m7 m8 m9 cJ cZ u_67.2) [6, 7, 8, 9, 10, 11, 12, 13, 14, 15] rfl
                                  have hDs := (hD u_67).sub (ws' := wM m0 m1 m2 m3 m4 m5 m6 m7 m8 m9 cJ cZ u_67.2) [6, 7, 8, 9, 10, 11, 12, 13, 14, 15] (by decide) rfl
                                  have hFc := fr_all (ws := wM m0 m1 m2 m3 m4 m5 m6 m7 m8 m9 cJ cZ u_67.2) hDs hS hA
                                  refine va_calli (va_runV (As := [.int _, .int _, .int _]) (rest := [.int _]) ⟨hx, hb, hml, hown, htsL⟩ (c_X5_lay l dC dI m0 m1 m2 m3 m4 m5 m6 m7 m8 m9 cJ cZ (H).size h) (cwV 3 htsL gL_law_X5_lay rfl rfl rfl (by decide +kernel) ⟨Nat.le_of_ble_eq_true rfl, Nat.le_of_ble_eq_true rfl⟩) ⟨fbM, va_recv hKm hPs (ci := 3) (q0 := 0) rfl rfl, fun U hU hW => ⟨rfl, by rw [hU], by rw [hU]; exact hPs, va_K.moved hW.alike hKm, hDs.weaken (fun _ _ _ _ => trivial)⟩⟩ rfl rfl hl.1 rfl (lv_room (Nat.le_of_ble_eq_true rfl)) dL_law_681 ⟨Nat.le_of_ble_eq_true rfl, Nat.le_of_ble_eq_true rfl⟩) hS (fun q _ h => hFc q h) hFc (fun r_69 z_71 t H locs ht _ h hP1 _ hk1 hS => ?_)
                                  obtain ⟨u_70, eu_70⟩ : ∃ z : (St × St) × St, z = (u_67.1, z_71) := ⟨_, rfl⟩
                                  have h := h u_70 eu_70
                                  have hP : va_P (dC, dI) vwCl (wL b0 h0 h1 h2 g0 g1 m0 m1 m2 m3 m4 m5 m6 m7 m8 m9 cI cJ cZ u_70) H := by rw [eu_70]; exact L_joinM hP (hD _) hk1 hFc (by rw [← ht]; exact hP1)
                                  refine lv_icmp_eq (tgt := 735) hx hb dL_law_684 (by decide) (fun c_684 => ?_) (fun c_684 => ?_)
                                  · have h := br1 h c_684
                                    exact hJ_735 _ h _ _ hP hS _ (lv_sub hl [0, 1, 2, 3] rfl)
                                  · have h := br2 h c_684
                                    refine lv_iconst (v := 0) hx hb dL_law_687 (by decide) ?_
                                    exact h.elim
                                · have h := br2 h c_33_12
                                  rcases Decidable.em (y_3 = 13) with c_33_13 | c_33_13
                                  · have h := br1 h c_33_13
                                    refine lv_tableIn (off := 656) (tgt := 689) hx hb dL_law_33 (by rw [c_33_13]; decide) (by rw [c_33_13]; decide) (by rw [c_33_13]; rfl) (by decide) ?_
                                    refine lv_aload_n hx hb dL_law_689 rfl (lv_at hl 1 rfl) ?_
                                    refine lv_aload_n hx hb dL_law_690 rfl (lv_at hl 0 rfl) ?_
                                    refine lv_iload_n hx hb dL_law_691 rfl (lv_at hl 3 rfl) ?_
                                    refine lv_iconst (v := 1) hx hb dL_law_692 (by decide) ?_
                                    refine lv_iadd hx hb dL_law_693 ?_
                                    obtain ⟨hi, h⟩ := h
                                    refine va_sld hx hb hX hbl hbA hS hi dL_law_694 ?_
                                    refine lv_aload_n hx hb dL_law_695 rfl (lv_at hl 0 rfl) ?_
                                    refine lv_iload_n hx hb dL_law_696 rfl (lv_at hl 3 rfl) ?_
                                    refine lv_iconst (v := 2) hx hb dL_law_697 (by decide) ?_
                                    refine lv_iadd hx hb dL_law_698 ?_
                                    obtain ⟨hi, h⟩ := h
                                    refine va_sld hx hb hX hbl hbA hS hi dL_law_699 ?_
                                    have hPs := hP.sub (ws' := wX b0 h0 h1 h2 g0 g1 cI u_2.1) [0, 1, 2, 3, 4, 5] rfl
                                    refine vp_callSi (W.runV (As := [.int _, .int _]) (rest := []) ⟨hx, hb, hml, hown, htsL⟩ (c_X4_laid l dC dI b0 h0 h1 h2 g0 g1 cI h) (cwV 2 htsL gL_law_X4_laid rfl rfl rfl (by decide +kernel) ⟨Nat.le_of_ble_eq_true rfl, Nat.le_of_ble_eq_true rfl⟩) ⟨fbR, va_recv hKx hPs (ci := 2) (q0 := 0) rfl rfl, fun U hU hW => ⟨rfl, by rw [hU]; exact hPs, va_K.moved hW.alike hKx⟩⟩ rfl rfl hl.1 rfl (lv_room (Nat.le_of_ble_eq_true rfl)) dL_law_700 ⟨Nat.le_of_ble_eq_true rfl, Nat.le_of_ble_eq_true rfl⟩) (fun r_72 h => ?_)
                                    refine lv_aload_n hx hb dL_law_703 rfl (lv_at hl 2 rfl) ?_
                                    refine lv_aload_n hx hb dL_law_704 rfl (lv_at hl 0 rfl) ?_
                                    refine lv_iload_n hx hb dL_law_705 rfl (lv_at hl 3 rfl) ?_
                                    refine lv_iconst (v := 1) hx hb dL_law_706 (by decide) ?_
                                    refine lv_iadd hx hb dL_law_707 ?_
                                    obtain ⟨hi, h⟩ := h
                                    refine va_sld hx hb hX hbl hbA hS hi dL_law_708 ?_
                                    refine lv_aload_n hx hb dL_law_709 rfl (lv_at hl 0 rfl) ?_
                                    refine lv_iload_n hx hb dL_law_710 rfl (lv_at hl 3 rfl) ?_
                                    refine lv_iconst (v := 2) hx hb dL_law_711 (by decide) ?_
                                    refine lv_iadd hx hb dL_law_712 ?_
                                    obtain ⟨hi, h⟩ := h
                                    refine va_sld hx hb hX hbl hbA hS hi dL_law_713 ?_
                                    have hPs := hP.sub (ws' := wM m0 m1 m2 m3 m4 m5 m6 m7 m8 m9 cJ cZ u_2.2) [6, 7, 8, 9, 10, 11, 12, 13, 14, 15] rfl
                                    refine vp_callSi (W.runV (As := [.int _, .int _]) (rest := [.int _]) ⟨hx, hb, hml, hown, htsL⟩ (c_X5_laid l dC dI m0 m1 m2 m3 m4 m5 m6 m7 m8 m9 cJ cZ h) (cwV 2 htsL gL_law_X5_laid rfl rfl rfl (by decide +kernel) ⟨Nat.le_of_ble_eq_true rfl, Nat.le_of_ble_eq_true rfl⟩) ⟨fbR, va_recv hKm hPs (ci := 3) (q0 := 0) rfl rfl, fun U hU hW => ⟨rfl, by rw [hU]; exact hPs, va_K.moved hW.alike hKm⟩⟩ rfl rfl hl.1 rfl (lv_room (Nat.le_of_ble_eq_true rfl)) dL_law_714 ⟨Nat.le_of_ble_eq_true rfl, Nat.le_of_ble_eq_true rfl⟩) (fun r_73 h => ?_)
                                    refine lv_icmp_eq (tgt := 735) hx hb dL_law_717 (by decide) (fun c_717 => ?_) (fun c_717 => ?_)
                                    · have h := br1 h c_717
                                      exact hJ_735 _ h _ _ hP hS _ (lv_sub hl [0, 1, 2, 3] rfl)
                                    · have h := br2 h c_717
                                      refine lv_iconst (v := 0) hx hb dL_law_720 (by decide) ?_
                                      exact h.elim
                                  · have h := br2 h c_33_13
                                    rcases Decidable.em (y_3 = 14) with c_33_14 | c_33_14
                                    · have h := br1 h c_33_14
                                      refine lv_tableIn (off := 689) (tgt := 722) hx hb dL_law_33 (by rw [c_33_14]; decide) (by rw [c_33_14]; decide) (by rw [c_33_14]; rfl) (by decide) ?_
                                      refine lv_aload_n hx hb dL_law_722 rfl (lv_at hl 1 rfl) ?_
                                      have hPs := hP.sub (ws' := wX b0 h0 h1 h2 g0 g1 cI u_2.1) [0, 1, 2, 3, 4, 5] rfl
                                      refine vp_callSi (W.runV (As := []) (rest := []) ⟨hx, hb, hml, hown, htsL⟩ (c_X4_least l dC dI b0 h0 h1 h2 g0 g1 cI h) (cwV 0 htsL gL_law_X4_least rfl rfl rfl (by decide +kernel) ⟨Nat.le_of_ble_eq_true rfl, Nat.le_of_ble_eq_true rfl⟩) ⟨fbR, va_recv hKx hPs (ci := 2) (q0 := 0) rfl rfl, fun U hU hW => ⟨rfl, by rw [hU]; exact hPs, va_K.moved hW.alike hKx⟩⟩ rfl rfl hl.1 rfl (lv_room (Nat.le_of_ble_eq_true rfl)) dL_law_723 ⟨Nat.le_of_ble_eq_true rfl, Nat.le_of_ble_eq_true rfl⟩) (fun r_74 h => ?_)
                                      refine lv_aload_n hx hb dL_law_726 rfl (lv_at hl 2 rfl) ?_
                                      have hPs := hP.sub (ws' := wM m0 m1 m2 m3 m4 m5 m6 m7 m8 m9 cJ cZ u_2.2) [6, 7, 8, 9, 10, 11, 12, 13, 14, 15] rfl
                                      refine vp_callSi (W.runV (As := []) (rest := [.int _]) ⟨hx, hb, hml, hown, htsL⟩ (c_X5_least l dC dI m0 m1 m2 m3 m4 m5 m6 m7 m8 m9 cJ cZ h) (cwV 0 htsL gL_law_X5_least rfl rfl rfl (by decide +kernel) ⟨Nat.le_of_ble_eq_true rfl, Nat.le_of_ble_eq_true rfl⟩) ⟨fbR, va_recv hKm hPs (ci := 3) (q0 := 0) rfl rfl, fun U hU hW => ⟨rfl, by rw [hU]; exact hPs, va_K.moved hW.alike hKm⟩⟩ rfl rfl hl.1 rfl (lv_room (Nat.le_of_ble_eq_true rfl)) dL_law_727 ⟨Nat.le_of_ble_eq_true rfl, Nat.le_of_ble_eq_true rfl⟩) (fun r_75 h => ?_)
                                      refine lv_icmp_eq (tgt := 735) hx hb dL_law_730 (by decide) (fun c_730 => ?_) (fun c_730 => ?_)
                                      · have h := br1 h c_730
                                        exact hJ_735 _ h _ _ hP hS _ (lv_sub hl [0, 1, 2, 3] rfl)
                                      · have h := br2 h c_730
                                        refine lv_iconst (v := 0) hx hb dL_law_733 (by decide) ?_
                                        exact h.elim
                                    · have h := br2 h c_33_14
                                      refine lv_tableOut (tgt := 735) hx hb dL_law_33 (by
                                        have t_0 : y_3.toInt ≠ 0 := fun q => c_33_0 (Int32.toInt_inj.mp (q.trans (by decide)))
                                        have t_1 : y_3.toInt ≠ 1 := fun q => c_33_1 (Int32.toInt_inj.mp (q.trans (by decide)))
                                        have t_2 : y_3.toInt ≠ 2 := fun q => c_33_2 (Int32.toInt_inj.mp (q.trans (by decide)))
                                        have t_3 : y_3.toInt ≠ 3 := fun q => c_33_3 (Int32.toInt_inj.mp (q.trans (by decide)))
                                        have t_4 : y_3.toInt ≠ 4 := fun q => c_33_4 (Int32.toInt_inj.mp (q.trans (by decide)))
                                        have t_5 : y_3.toInt ≠ 5 := fun q => c_33_5 (Int32.toInt_inj.mp (q.trans (by decide)))
                                        have t_6 : y_3.toInt ≠ 6 := fun q => c_33_6 (Int32.toInt_inj.mp (q.trans (by decide)))
                                        have t_7 : y_3.toInt ≠ 7 := fun q => c_33_7 (Int32.toInt_inj.mp (q.trans (by decide)))
                                        have t_8 : y_3.toInt ≠ 8 := fun q => c_33_8 (Int32.toInt_inj.mp (q.trans (by decide)))
                                        have t_9 : y_3.toInt ≠ 9 := fun q => c_33_9 (Int32.toInt_inj.mp (q.trans (by decide)))
                                        have t_10 : y_3.toInt ≠ 10 := fun q => c_33_10 (Int32.toInt_inj.mp (q.trans (by decide)))
                                        have t_11 : y_3.toInt ≠ 11 := fun q => c_33_11 (Int32.toInt_inj.mp (q.trans (by decide)))
                                        have t_12 : y_3.toInt ≠ 12 := fun q => c_33_12 (Int32.toInt_inj.mp (q.trans (by decide)))
                                        have t_13 : y_3.toInt ≠ 13 := fun q => c_33_13 (Int32.toInt_inj.mp (q.trans (by decide)))
                                        have t_14 : y_3.toInt ≠ 14 := fun q => c_33_14 (Int32.toInt_inj.mp (q.trans (by decide)))
                                        omega) (by decide) ?_
                                      exact hJ_735 _ h _ _ hP hS _ (lv_sub hl [0, 1, 2, 3] rfl)
  exact loop_18 n _ _ h _ _ hP hS _ (lv_sub hl [0, 1, 2, 3] rfl)
