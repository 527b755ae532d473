theorem vpk {L k j : Nat} (hL : L ≤ 4096) (hk : 8 * k + 8 ≤ L) (hj : j < 8) : vp_in (nI (8 * k) + nI j) L := by rw [nI_add]; exact vp_in_nI (by omega) (by omega)
theorem vpk0 {L k : Nat} (hL : L ≤ 4096) (hk : 8 * k + 8 ≤ L) : vp_in (nI (8 * k)) L := vp_in_nI (by omega) (by omega)
set_option maxHeartbeats 40000000 in
set_option maxRecDepth 100000 in
theorem law_loop {p : Program} {l : Launch} {e : Env} {s : State} {m : MethodId} {below : List Frame} {meth : Method} {c : Code} {dC : Nat → ClassId} {dI : Nat → Nat → Nat} {b L : Nat} {xs : Nat → Int32} (hL : L ≤ 4096) (C0 : lw_At p s m meth c b L xs) {b0 h0 h1 h2 g0 g1 m0 m1 m2 m3 m4 m5 m6 m7 m8 m9 : Nat} {cI cJ cZ : ClassId} (hK : va_K (dC, dI) vwCl [(cI, .int), (cJ, .int), (cZ, .boolean)] s) {u0 : (St × St) × St} (hD0 : va_D (fun q : Nat => s.heap.size ≤ q) (wL b0 h0 h1 h2 g0 g1 m0 m1 m2 m3 m4 m5 m6 m7 m8 m9 cI cJ cZ u0)) : ∀ (n k : Nat), k ≤ L / 8 → L / 8 + 1 ≤ k + n → ∀ (u : (St × St) × St), Inv u.1 u.2 → ∀ (H : Heap) (locs : List Loc), va_P (dC, dI) vwCl (wL b0 h0 h1 h2 g0 g1 m0 m1 m2 m3 m4 m5 m6 m7 m8 m9 cI cJ cZ u) H → va_S (fun q : Nat => s.heap.size ≤ q) s.heap H locs → ∀ (ls : Array Slot), lv_has ls 4 [(0, .ref b), (1, .ref b0), (2, .ref m0), (3, .int (nI (8 * k)))] → W p l e room_1 s m #[Value.ref b] below meth c H locs 16 1153 (lw_Z below #[Value.ref b] s) (F0 m 18 ls []) := by
  obtain ⟨hx, hb, hr, hml, hown, hts, hX, hbl, hlocks, hgv⟩ := C0
  have hA : ∀ q : Nat, s.heap.size ≤ q → (fun q : Nat => s.heap.size ≤ q) q := fun _ h => h
  have hbA : ¬ (fun q : Nat => s.heap.size ≤ q) b := Nat.not_le.mpr hbl
  have htsL : ∀ w ∈ wsL_law, w.before #[Value.ref b] s = true := fun w h => hts w (wsL_law_in w h)
  have hKx : va_K (dC, dI) vwCl [(cI, .int)] s := hK.sub [0] rfl
  have hKm : va_K (dC, dI) vwCl [(cJ, .int), (cZ, .boolean)] s := hK.sub [1, 2] rfl
  have hD : ∀ z, va_D (fun q : Nat => s.heap.size ≤ q) (wL b0 h0 h1 h2 g0 g1 m0 m1 m2 m3 m4 m5 m6 m7 m8 m9 cI cJ cZ z) := fun z => va_Dsame hD0 rfl
  intro n
  induction n with
  | zero => intro k h1 h2; exact absurd h2 (by omega)
  | succ n ih =>
    intro k hkL hkn u hI H locs hP hS ls hl
    have next : ∀ (u : (St × St) × St), Inv u.1 u.2 → ∀ (H : Heap) (locs : List Loc), va_P (dC, dI) vwCl (wL b0 h0 h1 h2 g0 g1 m0 m1 m2 m3 m4 m5 m6 m7 m8 m9 cI cJ cZ u) H → va_S (fun q : Nat => s.heap.size ≤ q) s.heap H locs → 8 * k + 8 ≤ L → ∀ (ls : Array Slot), lv_has ls 4 [(0, .ref b), (1, .ref b0), (2, .ref m0), (3, .int (nI (8 * k)))] → W p l e room_1 s m #[Value.ref b] below meth c H locs 16 1153 (lw_Z below #[Value.ref b] s) (F0 m 735 ls []) := by
      intro u hI H locs hP hS hk ls hl
      obtain ⟨y_9, ey_9⟩ : ∃ z : Int32, z = nI (8 * k) + (8 : Int32) := ⟨_, rfl⟩
      refine lv_iinc (v := y_9) (lv' := [(3, .int y_9), (0, .ref b), (1, .ref b0), (2, .ref m0)]) hx hb dL_law_735 hl (k := 3) rfl (by rw [ey_9]; rfl) (by decide) rfl (fun ls hl => ?_)
      refine lv_goto (tgt := 18) hx hb dL_law_738 (by decide) ?_
      rw [show nI (8 * k) + (8 : Int32) = nI (8 * (k + 1)) from nI_add (8 * k) 8] at ey_9
      subst ey_9
      exact ih (k + 1) (by omega) (by omega) u hI H locs hP hS ls (lv_sub hl [1, 2, 3, 0] rfl)
    refine lv_iload_n hx hb dL_law_18 rfl (lv_at hl 3 rfl) ?_
    refine lv_aload_n hx hb dL_law_19 rfl (lv_at hl 0 rfl) ?_
    refine va_slen hx hb hX hbl hbA hS dL_law_20 ?_
    refine lv_bipush (v := 8) hx hb dL_law_21 (by decide) ?_
    refine lv_isub hx hb dL_law_23 ?_
    have eL : (Int32.ofNat L - (8 : Int32)).toInt = (L : Int) - 8 := pk_sub_toInt (a := L) (b := 8) (by omega) (by decide)
    refine lv_icmp_gt (tgt := 741) hx hb dL_law_24 (by decide) (fun c_24 => ?_) (fun c_24 => ?_)
    · refine lv_iconst (v := 1) hx hb dL_law_741 (by decide) ?_
      refine va_forget (fun q hq => hS.2.2 q hq) ?_
      exact lw_ret hx hb hr hlocks dL_law_742
    · have hk : 8 * k + 8 ≤ L := by
        rw [fa_lt, eL, nI_toInt (by omega)] at c_24
        omega
      have next := fun u hI H locs hP hS ls hl => next u hI H locs hP hS hk ls hl
      obtain ⟨ux, um⟩ := u
      refine lv_aload_n hx hb dL_law_27 rfl (lv_at hl 0 rfl) ?_
      refine lv_iload_n hx hb dL_law_28 rfl (lv_at hl 3 rfl) ?_
      refine va_sld hx hb hX hbl hbA hS (vpk0 hL hk) dL_law_29 ?_
      refine lv_bipush (v := 15) hx hb dL_law_30 (by decide) ?_
      refine lv_iand hx hb dL_law_32 ?_
      refine lv_topi (fun y_0 ey_0 => ?_)
      rcases Decidable.em (y_0 = 0) with c_0 | c_0
      · refine lv_tableIn (off := 75) (tgt := 108) hx hb dL_law_33 (by rw [c_0]; decide) (by rw [c_0]; decide) (by rw [c_0]; rfl) (by decide) ?_
        refine lv_aload_n hx hb dL_law_108 rfl (lv_at hl 1 rfl) ?_
        refine lv_aload_n hx hb dL_law_109 rfl (lv_at hl 0 rfl) ?_
        refine lv_iload_n hx hb dL_law_110 rfl (lv_at hl 3 rfl) ?_
        refine lv_iconst (v := 1) hx hb dL_law_111 (by decide) ?_
        refine lv_iadd hx hb dL_law_112 ?_
        refine va_sld hx hb hX hbl hbA hS (vpk hL hk (j := 1) (by decide)) dL_law_113 ?_
        refine lv_aload_n hx hb dL_law_114 rfl (lv_at hl 0 rfl) ?_
        refine lv_iload_n hx hb dL_law_115 rfl (lv_at hl 3 rfl) ?_
        refine lv_iconst (v := 2) hx hb dL_law_116 (by decide) ?_
        refine lv_iadd hx hb dL_law_117 ?_
        refine va_sld hx hb hX hbl hbA hS (vpk hL hk (j := 2) (by decide)) dL_law_118 ?_
        refine lv_aload_n hx hb dL_law_119 rfl (lv_at hl 0 rfl) ?_
        refine lv_iload_n hx hb dL_law_120 rfl (lv_at hl 3 rfl) ?_
        refine lv_iconst (v := 3) hx hb dL_law_121 (by decide) ?_
        refine lv_iadd hx hb dL_law_122 ?_
        refine va_sld hx hb hX hbl hbA hS (vpk hL hk (j := 3) (by decide)) dL_law_123 ?_
        have h := op_space hI (xs (nI (8 * k) + (1 : Int32)).toNatClampNeg) (xs (nI (8 * k) + (2 : Int32)).toNatClampNeg) (xs (nI (8 * k) + (3 : Int32)).toNatClampNeg)
        have hPs := hP.sub (ws' := wX b0 h0 h1 h2 g0 g1 cI ux) [0, 1, 2, 3, 4, 5] rfl
        have hDs := (hD (ux, um)).sub (ws' := wX b0 h0 h1 h2 g0 g1 cI ux) [0, 1, 2, 3, 4, 5] (by decide) rfl
        have hFc := fr_all (ws := wX b0 h0 h1 h2 g0 g1 cI ux) hDs hS hA
        refine va_calli (va_runV (As := [.int _, .int _, .int _]) (rest := []) ⟨hx, hb, hml, hown, htsL⟩ (c_X4_space l dC dI b0 h0 h1 h2 g0 g1 cI H.size h) (cwV 3 htsL gL_law_X4_space rfl rfl rfl (by decide +kernel) ⟨Nat.le_of_ble_eq_true rfl, Nat.le_of_ble_eq_true rfl⟩) ⟨fbM, va_recv hKx hPs (ci := 2) (q0 := 0) rfl rfl, fun U hU hW => ⟨rfl, by rw [hU], by rw [hU]; exact hPs, va_K.moved hW.alike hKx, hDs.weaken (fun _ _ _ _ => trivial)⟩⟩ rfl rfl hl.1 rfl (lv_room (Nat.le_of_ble_eq_true rfl)) dL_law_124 ⟨Nat.le_of_ble_eq_true rfl, Nat.le_of_ble_eq_true rfl⟩) hS (fun q _ h => hFc q h) hFc (fun rx ux t H locs ht _ h hP1 _ hk1 hS => ?_)
        have hP : va_P (dC, dI) vwCl (wL b0 h0 h1 h2 g0 g1 m0 m1 m2 m3 m4 m5 m6 m7 m8 m9 cI cJ cZ (ux, um)) H := L_joinX hP (hD _) hk1 hFc (by rw [← ht]; exact hP1)
        refine lv_aload_n hx hb dL_law_127 rfl (lv_at hl 2 rfl) ?_
        refine lv_aload_n hx hb dL_law_128 rfl (lv_at hl 0 rfl) ?_
        refine lv_iload_n hx hb dL_law_129 rfl (lv_at hl 3 rfl) ?_
        refine lv_iconst (v := 1) hx hb dL_law_130 (by decide) ?_
        refine lv_iadd hx hb dL_law_131 ?_
        refine va_sld hx hb hX hbl hbA hS (vpk hL hk (j := 1) (by decide)) dL_law_132 ?_
        refine lv_aload_n hx hb dL_law_133 rfl (lv_at hl 0 rfl) ?_
        refine lv_iload_n hx hb dL_law_134 rfl (lv_at hl 3 rfl) ?_
        refine lv_iconst (v := 2) hx hb dL_law_135 (by decide) ?_
        refine lv_iadd hx hb dL_law_136 ?_
        refine va_sld hx hb hX hbl hbA hS (vpk hL hk (j := 2) (by decide)) dL_law_137 ?_
        refine lv_aload_n hx hb dL_law_138 rfl (lv_at hl 0 rfl) ?_
        refine lv_iload_n hx hb dL_law_139 rfl (lv_at hl 3 rfl) ?_
        refine lv_iconst (v := 3) hx hb dL_law_140 (by decide) ?_
        refine lv_iadd hx hb dL_law_141 ?_
        refine va_sld hx hb hX hbl hbA hS (vpk hL hk (j := 3) (by decide)) dL_law_142 ?_
        have hPs := hP.sub (ws' := wM m0 m1 m2 m3 m4 m5 m6 m7 m8 m9 cJ cZ um) [6, 7, 8, 9, 10, 11, 12, 13, 14, 15] rfl
        have hDs := (hD (ux, um)).sub (ws' := wM m0 m1 m2 m3 m4 m5 m6 m7 m8 m9 cJ cZ um) [6, 7, 8, 9, 10, 11, 12, 13, 14, 15] (by decide) rfl
        have hFc := fr_all (ws := wM m0 m1 m2 m3 m4 m5 m6 m7 m8 m9 cJ cZ um) hDs hS hA
        refine va_calli (va_runV (As := [.int _, .int _, .int _]) (rest := [.int _]) ⟨hx, hb, hml, hown, htsL⟩ (c_X5_space l dC dI m0 m1 m2 m3 m4 m5 m6 m7 m8 m9 cJ cZ H.size h) (cwV 3 htsL gL_law_X5_space rfl rfl rfl (by decide +kernel) ⟨Nat.le_of_ble_eq_true rfl, Nat.le_of_ble_eq_true rfl⟩) ⟨fbM, va_recv hKm hPs (ci := 3) (q0 := 0) rfl rfl, fun U hU hW => ⟨rfl, by rw [hU], by rw [hU]; exact hPs, va_K.moved hW.alike hKm, hDs.weaken (fun _ _ _ _ => trivial)⟩⟩ rfl rfl hl.1 rfl (lv_room (Nat.le_of_ble_eq_true rfl)) dL_law_143 ⟨Nat.le_of_ble_eq_true rfl, Nat.le_of_ble_eq_true rfl⟩) hS (fun q _ h => hFc q h) hFc (fun rm um t H locs ht _ h hP1 _ hk1 hS => ?_)
        have hP : va_P (dC, dI) vwCl (wL b0 h0 h1 h2 g0 g1 m0 m1 m2 m3 m4 m5 m6 m7 m8 m9 cI cJ cZ (ux, um)) H := L_joinM hP (hD _) hk1 hFc (by rw [← ht]; exact hP1)
        obtain ⟨hr12, hI⟩ := h
        refine lv_icmp_eq (tgt := 735) hx hb dL_law_146 (by decide) (fun _ => ?_) (fun w => absurd hr12 w)
        exact next (ux, um) hI _ _ hP hS _ (lv_sub hl [0, 1, 2, 3] rfl)
      · skip
        rcases Decidable.em (y_0 = 1) with c_1 | c_1
        · refine lv_tableIn (off := 118) (tgt := 151) hx hb dL_law_33 (by rw [c_1]; decide) (by rw [c_1]; decide) (by rw [c_1]; rfl) (by decide) ?_
          refine lv_aload_n hx hb dL_law_151 rfl (lv_at hl 1 rfl) ?_
          refine lv_aload_n hx hb dL_law_152 rfl (lv_at hl 0 rfl) ?_
          refine lv_iload_n hx hb dL_law_153 rfl (lv_at hl 3 rfl) ?_
          refine lv_iconst (v := 1) hx hb dL_law_154 (by decide) ?_
          refine lv_iadd hx hb dL_law_155 ?_
          refine va_sld hx hb hX hbl hbA hS (vpk hL hk (j := 1) (by decide)) dL_law_156 ?_
          refine lv_aload_n hx hb dL_law_157 rfl (lv_at hl 0 rfl) ?_
          refine lv_iload_n hx hb dL_law_158 rfl (lv_at hl 3 rfl) ?_
          refine lv_iconst (v := 2) hx hb dL_law_159 (by decide) ?_
          refine lv_iadd hx hb dL_law_160 ?_
          refine va_sld hx hb hX hbl hbA hS (vpk hL hk (j := 2) (by decide)) dL_law_161 ?_
          refine lv_aload_n hx hb dL_law_162 rfl (lv_at hl 0 rfl) ?_
          refine lv_iload_n hx hb dL_law_163 rfl (lv_at hl 3 rfl) ?_
          refine lv_iconst (v := 3) hx hb dL_law_164 (by decide) ?_
          refine lv_iadd hx hb dL_law_165 ?_
          refine va_sld hx hb hX hbl hbA hS (vpk hL hk (j := 3) (by decide)) dL_law_166 ?_
          refine lv_aload_n hx hb dL_law_167 rfl (lv_at hl 0 rfl) ?_
          refine lv_iload_n hx hb dL_law_168 rfl (lv_at hl 3 rfl) ?_
          refine lv_iconst (v := 4) hx hb dL_law_169 (by decide) ?_
          refine lv_iadd hx hb dL_law_170 ?_
          refine va_sld hx hb hX hbl hbA hS (vpk hL hk (j := 4) (by decide)) dL_law_171 ?_
          refine lv_aload_n hx hb dL_law_172 rfl (lv_at hl 0 rfl) ?_
          refine lv_iload_n hx hb dL_law_173 rfl (lv_at hl 3 rfl) ?_
          refine lv_iconst (v := 5) hx hb dL_law_174 (by decide) ?_
          refine lv_iadd hx hb dL_law_175 ?_
          refine va_sld hx hb hX hbl hbA hS (vpk hL hk (j := 5) (by decide)) dL_law_176 ?_
          refine lv_aload_n hx hb dL_law_177 rfl (lv_at hl 0 rfl) ?_
          refine lv_iload_n hx hb dL_law_178 rfl (lv_at hl 3 rfl) ?_
          refine lv_bipush (v := 6) hx hb dL_law_179 (by decide) ?_
          refine lv_iadd hx hb dL_law_181 ?_
          refine va_sld hx hb hX hbl hbA hS (vpk hL hk (j := 6) (by decide)) dL_law_182 ?_
          refine lv_aload_n hx hb dL_law_183 rfl (lv_at hl 0 rfl) ?_
          refine lv_iload_n hx hb dL_law_184 rfl (lv_at hl 3 rfl) ?_
          refine lv_bipush (v := 7) hx hb dL_law_185 (by decide) ?_
          refine lv_iadd hx hb dL_law_187 ?_
          refine va_sld hx hb hX hbl hbA hS (vpk hL hk (j := 7) (by decide)) dL_law_188 ?_
          refine lv_if_eq (tgt := 196) hx hb dL_law_189 (by decide) (fun cb_189 => ?_) (fun cb_189 => ?_)
          · refine lv_iconst (v := 0) hx hb dL_law_196 (by decide) ?_
            have h := op_box hI (xs (nI (8 * k) + (1 : Int32)).toNatClampNeg) (xs (nI (8 * k) + (2 : Int32)).toNatClampNeg) (xs (nI (8 * k) + (3 : Int32)).toNatClampNeg) (xs (nI (8 * k) + (4 : Int32)).toNatClampNeg) (xs (nI (8 * k) + (5 : Int32)).toNatClampNeg) (xs (nI (8 * k) + (6 : Int32)).toNatClampNeg) false
            have hPs := hP.sub (ws' := wX b0 h0 h1 h2 g0 g1 cI ux) [0, 1, 2, 3, 4, 5] rfl
            have hDs := (hD (ux, um)).sub (ws' := wX b0 h0 h1 h2 g0 g1 cI ux) [0, 1, 2, 3, 4, 5] (by decide) rfl
            have hFc := fr_all (ws := wX b0 h0 h1 h2 g0 g1 cI ux) hDs hS hA
            refine va_calli (va_runV (As := [.int _, .int _, .int _, .int _, .int _, .int _, .int _]) (rest := []) ⟨hx, hb, hml, hown, htsL⟩ (c_X4_box l dC dI b0 h0 h1 h2 g0 g1 cI H.size h) (cwV 7 htsL gL_law_X4_box rfl rfl rfl (by decide +kernel) ⟨Nat.le_of_ble_eq_true rfl, Nat.le_of_ble_eq_true rfl⟩) ⟨fbM, va_recv hKx hPs (ci := 2) (q0 := 0) rfl rfl, fun U hU hW => ⟨rfl, by rw [hU], by rw [hU]; exact hPs, va_K.moved hW.alike hKx, hDs.weaken (fun _ _ _ _ => trivial)⟩⟩ rfl rfl hl.1 rfl (lv_room (Nat.le_of_ble_eq_true rfl)) dL_law_197 ⟨Nat.le_of_ble_eq_true rfl, Nat.le_of_ble_eq_true rfl⟩) hS (fun q _ h => hFc q h) hFc (fun rx ux t H locs ht _ h hP1 _ hk1 hS => ?_)
            have hP : va_P (dC, dI) vwCl (wL b0 h0 h1 h2 g0 g1 m0 m1 m2 m3 m4 m5 m6 m7 m8 m9 cI cJ cZ (ux, um)) H := L_joinX hP (hD _) hk1 hFc (by rw [← ht]; exact hP1)
            refine lv_aload_n hx hb dL_law_200 rfl (lv_at hl 2 rfl) ?_
            refine lv_aload_n hx hb dL_law_201 rfl (lv_at hl 0 rfl) ?_
            refine lv_iload_n hx hb dL_law_202 rfl (lv_at hl 3 rfl) ?_
            refine lv_iconst (v := 1) hx hb dL_law_203 (by decide) ?_
            refine lv_iadd hx hb dL_law_204 ?_
            refine va_sld hx hb hX hbl hbA hS (vpk hL hk (j := 1) (by decide)) dL_law_205 ?_
            refine lv_aload_n hx hb dL_law_206 rfl (lv_at hl 0 rfl) ?_
            refine lv_iload_n hx hb dL_law_207 rfl (lv_at hl 3 rfl) ?_
            refine lv_iconst (v := 2) hx hb dL_law_208 (by decide) ?_
            refine lv_iadd hx hb dL_law_209 ?_
            refine va_sld hx hb hX hbl hbA hS (vpk hL hk (j := 2) (by decide)) dL_law_210 ?_
            refine lv_aload_n hx hb dL_law_211 rfl (lv_at hl 0 rfl) ?_
            refine lv_iload_n hx hb dL_law_212 rfl (lv_at hl 3 rfl) ?_
            refine lv_iconst (v := 3) hx hb dL_law_213 (by decide) ?_
            refine lv_iadd hx hb dL_law_214 ?_
            refine va_sld hx hb hX hbl hbA hS (vpk hL hk (j := 3) (by decide)) dL_law_215 ?_
            refine lv_aload_n hx hb dL_law_216 rfl (lv_at hl 0 rfl) ?_
            refine lv_iload_n hx hb dL_law_217 rfl (lv_at hl 3 rfl) ?_
            refine lv_iconst (v := 4) hx hb dL_law_218 (by decide) ?_
            refine lv_iadd hx hb dL_law_219 ?_
            refine va_sld hx hb hX hbl hbA hS (vpk hL hk (j := 4) (by decide)) dL_law_220 ?_
            refine lv_aload_n hx hb dL_law_221 rfl (lv_at hl 0 rfl) ?_
            refine lv_iload_n hx hb dL_law_222 rfl (lv_at hl 3 rfl) ?_
            refine lv_iconst (v := 5) hx hb dL_law_223 (by decide) ?_
            refine lv_iadd hx hb dL_law_224 ?_
            refine va_sld hx hb hX hbl hbA hS (vpk hL hk (j := 5) (by decide)) dL_law_225 ?_
            refine lv_aload_n hx hb dL_law_226 rfl (lv_at hl 0 rfl) ?_
            refine lv_iload_n hx hb dL_law_227 rfl (lv_at hl 3 rfl) ?_
            refine lv_bipush (v := 6) hx hb dL_law_228 (by decide) ?_
            refine lv_iadd hx hb dL_law_230 ?_
            refine va_sld hx hb hX hbl hbA hS (vpk hL hk (j := 6) (by decide)) dL_law_231 ?_
            refine lv_aload_n hx hb dL_law_232 rfl (lv_at hl 0 rfl) ?_
            refine lv_iload_n hx hb dL_law_233 rfl (lv_at hl 3 rfl) ?_
            refine lv_bipush (v := 7) hx hb dL_law_234 (by decide) ?_
            refine lv_iadd hx hb dL_law_236 ?_
            refine va_sld hx hb hX hbl hbA hS (vpk hL hk (j := 7) (by decide)) dL_law_237 ?_
            refine lv_if_eq (tgt := 245) hx hb dL_law_238 (by decide) (fun _ => ?_) (fun w => absurd cb_189 w)
            refine lv_iconst (v := 0) hx hb dL_law_245 (by decide) ?_
            have hPs := hP.sub (ws' := wM m0 m1 m2 m3 m4 m5 m6 m7 m8 m9 cJ cZ um) [6, 7, 8, 9, 10, 11, 12, 13, 14, 15] rfl
            have hDs := (hD (ux, um)).sub (ws' := wM m0 m1 m2 m3 m4 m5 m6 m7 m8 m9 cJ cZ um) [6, 7, 8, 9, 10, 11, 12, 13, 14, 15] (by decide) rfl
            have hFc := fr_all (ws := wM m0 m1 m2 m3 m4 m5 m6 m7 m8 m9 cJ cZ um) hDs hS hA
            refine va_calli (va_runV (As := [.int _, .int _, .int _, .int _, .int _, .int _, .int _]) (rest := [.int _]) ⟨hx, hb, hml, hown, htsL⟩ (c_X5_box l dC dI m0 m1 m2 m3 m4 m5 m6 m7 m8 m9 cJ cZ H.size h) (cwV 7 htsL gL_law_X5_box rfl rfl rfl (by decide +kernel) ⟨Nat.le_of_ble_eq_true rfl, Nat.le_of_ble_eq_true rfl⟩) ⟨fbM, va_recv hKm hPs (ci := 3) (q0 := 0) rfl rfl, fun U hU hW => ⟨rfl, by rw [hU], by rw [hU]; exact hPs, va_K.moved hW.alike hKm, hDs.weaken (fun _ _ _ _ => trivial)⟩⟩ rfl rfl hl.1 rfl (lv_room (Nat.le_of_ble_eq_true rfl)) dL_law_246 ⟨Nat.le_of_ble_eq_true rfl, Nat.le_of_ble_eq_true rfl⟩) hS (fun q _ h => hFc q h) hFc (fun rm um t H locs ht _ h hP1 _ hk1 hS => ?_)
            have hP : va_P (dC, dI) vwCl (wL b0 h0 h1 h2 g0 g1 m0 m1 m2 m3 m4 m5 m6 m7 m8 m9 cI cJ cZ (ux, um)) H := L_joinM hP (hD _) hk1 hFc (by rw [← ht]; exact hP1)
            obtain ⟨hr12, hI⟩ := h
            refine lv_icmp_eq (tgt := 735) hx hb dL_law_249 (by decide) (fun _ => ?_) (fun w => absurd hr12 w)
            exact next (ux, um) hI _ _ hP hS _ (lv_sub hl [0, 1, 2, 3] rfl)
          · refine lv_iconst (v := 1) hx hb dL_law_192 (by decide) ?_
            refine lv_goto (tgt := 197) hx hb dL_law_193 (by decide) ?_
            have h := op_box hI (xs (nI (8 * k) + (1 : Int32)).toNatClampNeg) (xs (nI (8 * k) + (2 : Int32)).toNatClampNeg) (xs (nI (8 * k) + (3 : Int32)).toNatClampNeg) (xs (nI (8 * k) + (4 : Int32)).toNatClampNeg) (xs (nI (8 * k) + (5 : Int32)).toNatClampNeg) (xs (nI (8 * k) + (6 : Int32)).toNatClampNeg) true
            have hPs := hP.sub (ws' := wX b0 h0 h1 h2 g0 g1 cI ux) [0, 1, 2, 3, 4, 5] rfl
            have hDs := (hD (ux, um)).sub (ws' := wX b0 h0 h1 h2 g0 g1 cI ux) [0, 1, 2, 3, 4, 5] (by decide) rfl
            have hFc := fr_all (ws := wX b0 h0 h1 h2 g0 g1 cI ux) hDs hS hA
            refine va_calli (va_runV (As := [.int _, .int _, .int _, .int _, .int _, .int _, .int _]) (rest := []) ⟨hx, hb, hml, hown, htsL⟩ (c_X4_box l dC dI b0 h0 h1 h2 g0 g1 cI H.size h) (cwV 7 htsL gL_law_X4_box rfl rfl rfl (by decide +kernel) ⟨Nat.le_of_ble_eq_true rfl, Nat.le_of_ble_eq_true rfl⟩) ⟨fbM, va_recv hKx hPs (ci := 2) (q0 := 0) rfl rfl, fun U hU hW => ⟨rfl, by rw [hU], by rw [hU]; exact hPs, va_K.moved hW.alike hKx, hDs.weaken (fun _ _ _ _ => trivial)⟩⟩ rfl rfl hl.1 rfl (lv_room (Nat.le_of_ble_eq_true rfl)) dL_law_197 ⟨Nat.le_of_ble_eq_true rfl, Nat.le_of_ble_eq_true rfl⟩) hS (fun q _ h => hFc q h) hFc (fun rx ux t H locs ht _ h hP1 _ hk1 hS => ?_)
            have hP : va_P (dC, dI) vwCl (wL b0 h0 h1 h2 g0 g1 m0 m1 m2 m3 m4 m5 m6 m7 m8 m9 cI cJ cZ (ux, um)) H := L_joinX hP (hD _) hk1 hFc (by rw [← ht]; exact hP1)
            refine lv_aload_n hx hb dL_law_200 rfl (lv_at hl 2 rfl) ?_
            refine lv_aload_n hx hb dL_law_201 rfl (lv_at hl 0 rfl) ?_
            refine lv_iload_n hx hb dL_law_202 rfl (lv_at hl 3 rfl) ?_
            refine lv_iconst (v := 1) hx hb dL_law_203 (by decide) ?_
            refine lv_iadd hx hb dL_law_204 ?_
            refine va_sld hx hb hX hbl hbA hS (vpk hL hk (j := 1) (by decide)) dL_law_205 ?_
            refine lv_aload_n hx hb dL_law_206 rfl (lv_at hl 0 rfl) ?_
            refine lv_iload_n hx hb dL_law_207 rfl (lv_at hl 3 rfl) ?_
            refine lv_iconst (v := 2) hx hb dL_law_208 (by decide) ?_
            refine lv_iadd hx hb dL_law_209 ?_
            refine va_sld hx hb hX hbl hbA hS (vpk hL hk (j := 2) (by decide)) dL_law_210 ?_
            refine lv_aload_n hx hb dL_law_211 rfl (lv_at hl 0 rfl) ?_
            refine lv_iload_n hx hb dL_law_212 rfl (lv_at hl 3 rfl) ?_
            refine lv_iconst (v := 3) hx hb dL_law_213 (by decide) ?_
            refine lv_iadd hx hb dL_law_214 ?_
            refine va_sld hx hb hX hbl hbA hS (vpk hL hk (j := 3) (by decide)) dL_law_215 ?_
            refine lv_aload_n hx hb dL_law_216 rfl (lv_at hl 0 rfl) ?_
            refine lv_iload_n hx hb dL_law_217 rfl (lv_at hl 3 rfl) ?_
            refine lv_iconst (v := 4) hx hb dL_law_218 (by decide) ?_
            refine lv_iadd hx hb dL_law_219 ?_
            refine va_sld hx hb hX hbl hbA hS (vpk hL hk (j := 4) (by decide)) dL_law_220 ?_
            refine lv_aload_n hx hb dL_law_221 rfl (lv_at hl 0 rfl) ?_
            refine lv_iload_n hx hb dL_law_222 rfl (lv_at hl 3 rfl) ?_
            refine lv_iconst (v := 5) hx hb dL_law_223 (by decide) ?_
            refine lv_iadd hx hb dL_law_224 ?_
            refine va_sld hx hb hX hbl hbA hS (vpk hL hk (j := 5) (by decide)) dL_law_225 ?_
            refine lv_aload_n hx hb dL_law_226 rfl (lv_at hl 0 rfl) ?_
            refine lv_iload_n hx hb dL_law_227 rfl (lv_at hl 3 rfl) ?_
            refine lv_bipush (v := 6) hx hb dL_law_228 (by decide) ?_
            refine lv_iadd hx hb dL_law_230 ?_
            refine va_sld hx hb hX hbl hbA hS (vpk hL hk (j := 6) (by decide)) dL_law_231 ?_
            refine lv_aload_n hx hb dL_law_232 rfl (lv_at hl 0 rfl) ?_
            refine lv_iload_n hx hb dL_law_233 rfl (lv_at hl 3 rfl) ?_
            refine lv_bipush (v := 7) hx hb dL_law_234 (by decide) ?_
            refine lv_iadd hx hb dL_law_236 ?_
            refine va_sld hx hb hX hbl hbA hS (vpk hL hk (j := 7) (by decide)) dL_law_237 ?_
            refine lv_if_eq (tgt := 245) hx hb dL_law_238 (by decide) (fun w => absurd w cb_189) (fun _ => ?_)
            refine lv_iconst (v := 1) hx hb dL_law_241 (by decide) ?_
            refine lv_goto (tgt := 246) hx hb dL_law_242 (by decide) ?_
            have hPs := hP.sub (ws' := wM m0 m1 m2 m3 m4 m5 m6 m7 m8 m9 cJ cZ um) [6, 7, 8, 9, 10, 11, 12, 13, 14, 15] rfl
            have hDs := (hD (ux, um)).sub (ws' := wM m0 m1 m2 m3 m4 m5 m6 m7 m8 m9 cJ cZ um) [6, 7, 8, 9, 10, 11, 12, 13, 14, 15] (by decide) rfl
            have hFc := fr_all (ws := wM m0 m1 m2 m3 m4 m5 m6 m7 m8 m9 cJ cZ um) hDs hS hA
            refine va_calli (va_runV (As := [.int _, .int _, .int _, .int _, .int _, .int _, .int _]) (rest := [.int _]) ⟨hx, hb, hml, hown, htsL⟩ (c_X5_box l dC dI m0 m1 m2 m3 m4 m5 m6 m7 m8 m9 cJ cZ H.size h) (cwV 7 htsL gL_law_X5_box rfl rfl rfl (by decide +kernel) ⟨Nat.le_of_ble_eq_true rfl, Nat.le_of_ble_eq_true rfl⟩) ⟨fbM, va_recv hKm hPs (ci := 3) (q0 := 0) rfl rfl, fun U hU hW => ⟨rfl, by rw [hU], by rw [hU]; exact hPs, va_K.moved hW.alike hKm, hDs.weaken (fun _ _ _ _ => trivial)⟩⟩ rfl rfl hl.1 rfl (lv_room (Nat.le_of_ble_eq_true rfl)) dL_law_246 ⟨Nat.le_of_ble_eq_true rfl, Nat.le_of_ble_eq_true rfl⟩) hS (fun q _ h => hFc q h) hFc (fun rm um t H locs ht _ h hP1 _ hk1 hS => ?_)
            have hP : va_P (dC, dI) vwCl (wL b0 h0 h1 h2 g0 g1 m0 m1 m2 m3 m4 m5 m6 m7 m8 m9 cI cJ cZ (ux, um)) H := L_joinM hP (hD _) hk1 hFc (by rw [← ht]; exact hP1)
            obtain ⟨hr12, hI⟩ := h
            refine lv_icmp_eq (tgt := 735) hx hb dL_law_249 (by decide) (fun _ => ?_) (fun w => absurd hr12 w)
            exact next (ux, um) hI _ _ hP hS _ (lv_sub hl [0, 1, 2, 3] rfl)
        · skip
          rcases Decidable.em (y_0 = 2) with c_2 | c_2
          · refine lv_tableIn (off := 221) (tgt := 254) hx hb dL_law_33 (by rw [c_2]; decide) (by rw [c_2]; decide) (by rw [c_2]; rfl) (by decide) ?_
            refine lv_aload_n hx hb dL_law_254 rfl (lv_at hl 1 rfl) ?_
            refine lv_aload_n hx hb dL_law_255 rfl (lv_at hl 0 rfl) ?_
            refine lv_iload_n hx hb dL_law_256 rfl (lv_at hl 3 rfl) ?_
            refine lv_iconst (v := 1) hx hb dL_law_257 (by decide) ?_
            refine lv_iadd hx hb dL_law_258 ?_
            refine va_sld hx hb hX hbl hbA hS (vpk hL hk (j := 1) (by decide)) dL_law_259 ?_
            refine lv_aload_n hx hb dL_law_260 rfl (lv_at hl 0 rfl) ?_
            refine lv_iload_n hx hb dL_law_261 rfl (lv_at hl 3 rfl) ?_
            refine lv_iconst (v := 2) hx hb dL_law_262 (by decide) ?_
            refine lv_iadd hx hb dL_law_263 ?_
            refine va_sld hx hb hX hbl hbA hS (vpk hL hk (j := 2) (by decide)) dL_law_264 ?_
            refine lv_aload_n hx hb dL_law_265 rfl (lv_at hl 0 rfl) ?_
            refine lv_iload_n hx hb dL_law_266 rfl (lv_at hl 3 rfl) ?_
            refine lv_iconst (v := 3) hx hb dL_law_267 (by decide) ?_
            refine lv_iadd hx hb dL_law_268 ?_
            refine va_sld hx hb hX hbl hbA hS (vpk hL hk (j := 3) (by decide)) dL_law_269 ?_
            have h := op_at hI (xs (nI (8 * k) + (1 : Int32)).toNatClampNeg) (xs (nI (8 * k) + (2 : Int32)).toNatClampNeg) (xs (nI (8 * k) + (3 : Int32)).toNatClampNeg)
            have hPs := hP.sub (ws' := wX b0 h0 h1 h2 g0 g1 cI ux) [0, 1, 2, 3, 4, 5] rfl
            refine vp_callSi (W.runV (As := [.int _, .int _, .int _]) (rest := []) ⟨hx, hb, hml, hown, htsL⟩ (c_X4_at l dC dI b0 h0 h1 h2 g0 g1 cI h) (cwV 3 htsL gL_law_X4_at rfl rfl rfl (by decide +kernel) ⟨Nat.le_of_ble_eq_true rfl, Nat.le_of_ble_eq_true rfl⟩) ⟨fbR, va_recv hKx hPs (ci := 2) (q0 := 0) rfl rfl, fun U hU hW => ⟨rfl, by rw [hU]; exact hPs, va_K.moved hW.alike hKx⟩⟩ rfl rfl hl.1 rfl (lv_room (Nat.le_of_ble_eq_true rfl)) dL_law_270 ⟨Nat.le_of_ble_eq_true rfl, Nat.le_of_ble_eq_true rfl⟩) (fun rx h => ?_)
            refine lv_aload_n hx hb dL_law_273 rfl (lv_at hl 2 rfl) ?_
            refine lv_aload_n hx hb dL_law_274 rfl (lv_at hl 0 rfl) ?_
            refine lv_iload_n hx hb dL_law_275 rfl (lv_at hl 3 rfl) ?_
            refine lv_iconst (v := 1) hx hb dL_law_276 (by decide) ?_
            refine lv_iadd hx hb dL_law_277 ?_
            refine va_sld hx hb hX hbl hbA hS (vpk hL hk (j := 1) (by decide)) dL_law_278 ?_
            refine lv_aload_n hx hb dL_law_279 rfl (lv_at hl 0 rfl) ?_
            refine lv_iload_n hx hb dL_law_280 rfl (lv_at hl 3 rfl) ?_
            refine lv_iconst (v := 2) hx hb dL_law_281 (by decide) ?_
            refine lv_iadd hx hb dL_law_282 ?_
            refine va_sld hx hb hX hbl hbA hS (vpk hL hk (j := 2) (by decide)) dL_law_283 ?_
            refine lv_aload_n hx hb dL_law_284 rfl (lv_at hl 0 rfl) ?_
            refine lv_iload_n hx hb dL_law_285 rfl (lv_at hl 3 rfl) ?_
            refine lv_iconst (v := 3) hx hb dL_law_286 (by decide) ?_
            refine lv_iadd hx hb dL_law_287 ?_
            refine va_sld hx hb hX hbl hbA hS (vpk hL hk (j := 3) (by decide)) dL_law_288 ?_
            have hPs := hP.sub (ws' := wM m0 m1 m2 m3 m4 m5 m6 m7 m8 m9 cJ cZ um) [6, 7, 8, 9, 10, 11, 12, 13, 14, 15] rfl
            refine vp_callSi (W.runV (As := [.int _, .int _, .int _]) (rest := [.int _]) ⟨hx, hb, hml, hown, htsL⟩ (c_X5_at l dC dI m0 m1 m2 m3 m4 m5 m6 m7 m8 m9 cJ cZ h) (cwV 3 htsL gL_law_X5_at rfl rfl rfl (by decide +kernel) ⟨Nat.le_of_ble_eq_true rfl, Nat.le_of_ble_eq_true rfl⟩) ⟨fbR, va_recv hKm hPs (ci := 3) (q0 := 0) rfl rfl, fun U hU hW => ⟨rfl, by rw [hU]; exact hPs, va_K.moved hW.alike hKm⟩⟩ rfl rfl hl.1 rfl (lv_room (Nat.le_of_ble_eq_true rfl)) dL_law_289 ⟨Nat.le_of_ble_eq_true rfl, Nat.le_of_ble_eq_true rfl⟩) (fun rm h => ?_)
            have hr12 := h
            refine lv_icmp_eq (tgt := 735) hx hb dL_law_292 (by decide) (fun _ => ?_) (fun w => absurd hr12 w)
            exact next (ux, um) hI _ _ hP hS _ (lv_sub hl [0, 1, 2, 3] rfl)
          · skip
            rcases Decidable.em (y_0 = 3) with c_3 | c_3
            · refine lv_tableIn (off := 264) (tgt := 297) hx hb dL_law_33 (by rw [c_3]; decide) (by rw [c_3]; decide) (by rw [c_3]; rfl) (by decide) ?_
              refine lv_aload_n hx hb dL_law_297 rfl (lv_at hl 1 rfl) ?_
              refine lv_aload_n hx hb dL_law_298 rfl (lv_at hl 0 rfl) ?_
              refine lv_iload_n hx hb dL_law_299 rfl (lv_at hl 3 rfl) ?_
              refine lv_iconst (v := 1) hx hb dL_law_300 (by decide) ?_
              refine lv_iadd hx hb dL_law_301 ?_
              refine va_sld hx hb hX hbl hbA hS (vpk hL hk (j := 1) (by decide)) dL_law_302 ?_
              refine lv_aload_n hx hb dL_law_303 rfl (lv_at hl 0 rfl) ?_
              refine lv_iload_n hx hb dL_law_304 rfl (lv_at hl 3 rfl) ?_
              refine lv_iconst (v := 2) hx hb dL_law_305 (by decide) ?_
              refine lv_iadd hx hb dL_law_306 ?_
              refine va_sld hx hb hX hbl hbA hS (vpk hL hk (j := 2) (by decide)) dL_law_307 ?_
              refine lv_aload_n hx hb dL_law_308 rfl (lv_at hl 0 rfl) ?_
              refine lv_iload_n hx hb dL_law_309 rfl (lv_at hl 3 rfl) ?_
              refine lv_iconst (v := 3) hx hb dL_law_310 (by decide) ?_
              refine lv_iadd hx hb dL_law_311 ?_
              refine va_sld hx hb hX hbl hbA hS (vpk hL hk (j := 3) (by decide)) dL_law_312 ?_
              refine lv_if_eq (tgt := 320) hx hb dL_law_313 (by decide) (fun cb_313 => ?_) (fun cb_313 => ?_)
              · refine lv_iconst (v := 0) hx hb dL_law_320 (by decide) ?_
                have h := op_rib hI (xs (nI (8 * k) + (1 : Int32)).toNatClampNeg) (xs (nI (8 * k) + (2 : Int32)).toNatClampNeg) (0 : Int32)
                have hPs := hP.sub (ws' := wX b0 h0 h1 h2 g0 g1 cI ux) [0, 1, 2, 3, 4, 5] rfl
                have hDs := (hD (ux, um)).sub (ws' := wX b0 h0 h1 h2 g0 g1 cI ux) [0, 1, 2, 3, 4, 5] (by decide) rfl
                have hFc := fr_all (ws := wX b0 h0 h1 h2 g0 g1 cI ux) hDs hS hA
                refine va_calli (va_runV (As := [.int _, .int _, .int _]) (rest := []) ⟨hx, hb, hml, hown, htsL⟩ (c_X4_rib l dC dI b0 h0 h1 h2 g0 g1 cI H.size h) (cwV 3 htsL gL_law_X4_rib rfl rfl rfl (by decide +kernel) ⟨Nat.le_of_ble_eq_true rfl, Nat.le_of_ble_eq_true rfl⟩) ⟨fbM, va_recv hKx hPs (ci := 2) (q0 := 0) rfl rfl, fun U hU hW => ⟨rfl, by rw [hU], by rw [hU]; exact hPs, va_K.moved hW.alike hKx, hDs.weaken (fun _ _ _ _ => trivial)⟩⟩ rfl rfl hl.1 rfl (lv_room (Nat.le_of_ble_eq_true rfl)) dL_law_321 ⟨Nat.le_of_ble_eq_true rfl, Nat.le_of_ble_eq_true rfl⟩) hS (fun q _ h => hFc q h) hFc (fun rx ux t H locs ht _ h hP1 _ hk1 hS => ?_)
                have hP : va_P (dC, dI) vwCl (wL b0 h0 h1 h2 g0 g1 m0 m1 m2 m3 m4 m5 m6 m7 m8 m9 cI cJ cZ (ux, um)) H := L_joinX hP (hD _) hk1 hFc (by rw [← ht]; exact hP1)
                refine lv_aload_n hx hb dL_law_324 rfl (lv_at hl 2 rfl) ?_
                refine lv_aload_n hx hb dL_law_325 rfl (lv_at hl 0 rfl) ?_
                refine lv_iload_n hx hb dL_law_326 rfl (lv_at hl 3 rfl) ?_
                refine lv_iconst (v := 1) hx hb dL_law_327 (by decide) ?_
                refine lv_iadd hx hb dL_law_328 ?_
                refine va_sld hx hb hX hbl hbA hS (vpk hL hk (j := 1) (by decide)) dL_law_329 ?_
                refine lv_aload_n hx hb dL_law_330 rfl (lv_at hl 0 rfl) ?_
                refine lv_iload_n hx hb dL_law_331 rfl (lv_at hl 3 rfl) ?_
                refine lv_iconst (v := 2) hx hb dL_law_332 (by decide) ?_
                refine lv_iadd hx hb dL_law_333 ?_
                refine va_sld hx hb hX hbl hbA hS (vpk hL hk (j := 2) (by decide)) dL_law_334 ?_
                refine lv_aload_n hx hb dL_law_335 rfl (lv_at hl 0 rfl) ?_
                refine lv_iload_n hx hb dL_law_336 rfl (lv_at hl 3 rfl) ?_
                refine lv_iconst (v := 3) hx hb dL_law_337 (by decide) ?_
                refine lv_iadd hx hb dL_law_338 ?_
                refine va_sld hx hb hX hbl hbA hS (vpk hL hk (j := 3) (by decide)) dL_law_339 ?_
                refine lv_if_eq (tgt := 347) hx hb dL_law_340 (by decide) (fun _ => ?_) (fun w => absurd cb_313 w)
                refine lv_iconst (v := 0) hx hb dL_law_347 (by decide) ?_
                have hPs := hP.sub (ws' := wM m0 m1 m2 m3 m4 m5 m6 m7 m8 m9 cJ cZ um) [6, 7, 8, 9, 10, 11, 12, 13, 14, 15] rfl
                have hDs := (hD (ux, um)).sub (ws' := wM m0 m1 m2 m3 m4 m5 m6 m7 m8 m9 cJ cZ um) [6, 7, 8, 9, 10, 11, 12, 13, 14, 15] (by decide) rfl
                have hFc := fr_all (ws := wM m0 m1 m2 m3 m4 m5 m6 m7 m8 m9 cJ cZ um) hDs hS hA
                refine va_calli (va_runV (As := [.int _, .int _, .int _]) (rest := [.int _]) ⟨hx, hb, hml, hown, htsL⟩ (c_X5_rib l dC dI m0 m1 m2 m3 m4 m5 m6 m7 m8 m9 cJ cZ H.size h) (cwV 3 htsL gL_law_X5_rib rfl rfl rfl (by decide +kernel) ⟨Nat.le_of_ble_eq_true rfl, Nat.le_of_ble_eq_true rfl⟩) ⟨fbM, va_recv hKm hPs (ci := 3) (q0 := 0) rfl rfl, fun U hU hW => ⟨rfl, by rw [hU], by rw [hU]; exact hPs, va_K.moved hW.alike hKm, hDs.weaken (fun _ _ _ _ => trivial)⟩⟩ rfl rfl hl.1 rfl (lv_room (Nat.le_of_ble_eq_true rfl)) dL_law_348 ⟨Nat.le_of_ble_eq_true rfl, Nat.le_of_ble_eq_true rfl⟩) hS (fun q _ h => hFc q h) hFc (fun rm um t H locs ht _ h hP1 _ hk1 hS => ?_)
                have hP : va_P (dC, dI) vwCl (wL b0 h0 h1 h2 g0 g1 m0 m1 m2 m3 m4 m5 m6 m7 m8 m9 cI cJ cZ (ux, um)) H := L_joinM hP (hD _) hk1 hFc (by rw [← ht]; exact hP1)
                obtain ⟨hr12, hI⟩ := h
                refine lv_icmp_eq (tgt := 735) hx hb dL_law_351 (by decide) (fun _ => ?_) (fun w => absurd hr12 w)
                exact next (ux, um) hI _ _ hP hS _ (lv_sub hl [0, 1, 2, 3] rfl)
              · refine lv_iconst (v := 1) hx hb dL_law_316 (by decide) ?_
                refine lv_goto (tgt := 321) hx hb dL_law_317 (by decide) ?_
                have h := op_rib hI (xs (nI (8 * k) + (1 : Int32)).toNatClampNeg) (xs (nI (8 * k) + (2 : Int32)).toNatClampNeg) (1 : Int32)
                have hPs := hP.sub (ws' := wX b0 h0 h1 h2 g0 g1 cI ux) [0, 1, 2, 3, 4, 5] rfl
                have hDs := (hD (ux, um)).sub (ws' := wX b0 h0 h1 h2 g0 g1 cI ux) [0, 1, 2, 3, 4, 5] (by decide) rfl
                have hFc := fr_all (ws := wX b0 h0 h1 h2 g0 g1 cI ux) hDs hS hA
                refine va_calli (va_runV (As := [.int _, .int _, .int _]) (rest := []) ⟨hx, hb, hml, hown, htsL⟩ (c_X4_rib l dC dI b0 h0 h1 h2 g0 g1 cI H.size h) (cwV 3 htsL gL_law_X4_rib rfl rfl rfl (by decide +kernel) ⟨Nat.le_of_ble_eq_true rfl, Nat.le_of_ble_eq_true rfl⟩) ⟨fbM, va_recv hKx hPs (ci := 2) (q0 := 0) rfl rfl, fun U hU hW => ⟨rfl, by rw [hU], by rw [hU]; exact hPs, va_K.moved hW.alike hKx, hDs.weaken (fun _ _ _ _ => trivial)⟩⟩ rfl rfl hl.1 rfl (lv_room (Nat.le_of_ble_eq_true rfl)) dL_law_321 ⟨Nat.le_of_ble_eq_true rfl, Nat.le_of_ble_eq_true rfl⟩) hS (fun q _ h => hFc q h) hFc (fun rx ux t H locs ht _ h hP1 _ hk1 hS => ?_)
                have hP : va_P (dC, dI) vwCl (wL b0 h0 h1 h2 g0 g1 m0 m1 m2 m3 m4 m5 m6 m7 m8 m9 cI cJ cZ (ux, um)) H := L_joinX hP (hD _) hk1 hFc (by rw [← ht]; exact hP1)
                refine lv_aload_n hx hb dL_law_324 rfl (lv_at hl 2 rfl) ?_
                refine lv_aload_n hx hb dL_law_325 rfl (lv_at hl 0 rfl) ?_
                refine lv_iload_n hx hb dL_law_326 rfl (lv_at hl 3 rfl) ?_
                refine lv_iconst (v := 1) hx hb dL_law_327 (by decide) ?_
                refine lv_iadd hx hb dL_law_328 ?_
                refine va_sld hx hb hX hbl hbA hS (vpk hL hk (j := 1) (by decide)) dL_law_329 ?_
                refine lv_aload_n hx hb dL_law_330 rfl (lv_at hl 0 rfl) ?_
                refine lv_iload_n hx hb dL_law_331 rfl (lv_at hl 3 rfl) ?_
                refine lv_iconst (v := 2) hx hb dL_law_332 (by decide) ?_
                refine lv_iadd hx hb dL_law_333 ?_
                refine va_sld hx hb hX hbl hbA hS (vpk hL hk (j := 2) (by decide)) dL_law_334 ?_
                refine lv_aload_n hx hb dL_law_335 rfl (lv_at hl 0 rfl) ?_
                refine lv_iload_n hx hb dL_law_336 rfl (lv_at hl 3 rfl) ?_
                refine lv_iconst (v := 3) hx hb dL_law_337 (by decide) ?_
                refine lv_iadd hx hb dL_law_338 ?_
                refine va_sld hx hb hX hbl hbA hS (vpk hL hk (j := 3) (by decide)) dL_law_339 ?_
                refine lv_if_eq (tgt := 347) hx hb dL_law_340 (by decide) (fun w => absurd w cb_313) (fun _ => ?_)
                refine lv_iconst (v := 1) hx hb dL_law_343 (by decide) ?_
                refine lv_goto (tgt := 348) hx hb dL_law_344 (by decide) ?_
                have hPs := hP.sub (ws' := wM m0 m1 m2 m3 m4 m5 m6 m7 m8 m9 cJ cZ um) [6, 7, 8, 9, 10, 11, 12, 13, 14, 15] rfl
                have hDs := (hD (ux, um)).sub (ws' := wM m0 m1 m2 m3 m4 m5 m6 m7 m8 m9 cJ cZ um) [6, 7, 8, 9, 10, 11, 12, 13, 14, 15] (by decide) rfl
                have hFc := fr_all (ws := wM m0 m1 m2 m3 m4 m5 m6 m7 m8 m9 cJ cZ um) hDs hS hA
                refine va_calli (va_runV (As := [.int _, .int _, .int _]) (rest := [.int _]) ⟨hx, hb, hml, hown, htsL⟩ (c_X5_rib l dC dI m0 m1 m2 m3 m4 m5 m6 m7 m8 m9 cJ cZ H.size h) (cwV 3 htsL gL_law_X5_rib rfl rfl rfl (by decide +kernel) ⟨Nat.le_of_ble_eq_true rfl, Nat.le_of_ble_eq_true rfl⟩) ⟨fbM, va_recv hKm hPs (ci := 3) (q0 := 0) rfl rfl, fun U hU hW => ⟨rfl, by rw [hU], by rw [hU]; exact hPs, va_K.moved hW.alike hKm, hDs.weaken (fun _ _ _ _ => trivial)⟩⟩ rfl rfl hl.1 rfl (lv_room (Nat.le_of_ble_eq_true rfl)) dL_law_348 ⟨Nat.le_of_ble_eq_true rfl, Nat.le_of_ble_eq_true rfl⟩) hS (fun q _ h => hFc q h) hFc (fun rm um t H locs ht _ h hP1 _ hk1 hS => ?_)
                have hP : va_P (dC, dI) vwCl (wL b0 h0 h1 h2 g0 g1 m0 m1 m2 m3 m4 m5 m6 m7 m8 m9 cI cJ cZ (ux, um)) H := L_joinM hP (hD _) hk1 hFc (by rw [← ht]; exact hP1)
                obtain ⟨hr12, hI⟩ := h
                refine lv_icmp_eq (tgt := 735) hx hb dL_law_351 (by decide) (fun _ => ?_) (fun w => absurd hr12 w)
                exact next (ux, um) hI _ _ hP hS _ (lv_sub hl [0, 1, 2, 3] rfl)
            · skip
              rcases Decidable.em (y_0 = 4) with c_4 | c_4
              · refine lv_tableIn (off := 323) (tgt := 356) hx hb dL_law_33 (by rw [c_4]; decide) (by rw [c_4]; decide) (by rw [c_4]; rfl) (by decide) ?_
                refine lv_aload_n hx hb dL_law_356 rfl (lv_at hl 1 rfl) ?_
                refine lv_aload_n hx hb dL_law_357 rfl (lv_at hl 0 rfl) ?_
                refine lv_iload_n hx hb dL_law_358 rfl (lv_at hl 3 rfl) ?_
                refine lv_iconst (v := 1) hx hb dL_law_359 (by decide) ?_
                refine lv_iadd hx hb dL_law_360 ?_
                refine va_sld hx hb hX hbl hbA hS (vpk hL hk (j := 1) (by decide)) dL_law_361 ?_
                refine lv_aload_n hx hb dL_law_362 rfl (lv_at hl 0 rfl) ?_
                refine lv_iload_n hx hb dL_law_363 rfl (lv_at hl 3 rfl) ?_
                refine lv_iconst (v := 2) hx hb dL_law_364 (by decide) ?_
                refine lv_iadd hx hb dL_law_365 ?_
                refine va_sld hx hb hX hbl hbA hS (vpk hL hk (j := 2) (by decide)) dL_law_366 ?_
                have h := op_ribs hI (xs (nI (8 * k) + (1 : Int32)).toNatClampNeg) (xs (nI (8 * k) + (2 : Int32)).toNatClampNeg)
                have hPs := hP.sub (ws' := wX b0 h0 h1 h2 g0 g1 cI ux) [0, 1, 2, 3, 4, 5] rfl
                have hDs := (hD (ux, um)).sub (ws' := wX b0 h0 h1 h2 g0 g1 cI ux) [0, 1, 2, 3, 4, 5] (by decide) rfl
                have hFc := fr_all (ws := wX b0 h0 h1 h2 g0 g1 cI ux) hDs hS hA
                refine va_calli (va_runV (As := [.int _, .int _]) (rest := []) ⟨hx, hb, hml, hown, htsL⟩ (c_X4_ribs l dC dI b0 h0 h1 h2 g0 g1 cI H.size h) (cwV 2 htsL gL_law_X4_ribs rfl rfl rfl (by decide +kernel) ⟨Nat.le_of_ble_eq_true rfl, Nat.le_of_ble_eq_true rfl⟩) ⟨fbM, va_recv hKx hPs (ci := 2) (q0 := 0) rfl rfl, fun U hU hW => ⟨rfl, by rw [hU], by rw [hU]; exact hPs, va_K.moved hW.alike hKx, hDs.weaken (fun _ _ _ _ => trivial)⟩⟩ rfl rfl hl.1 rfl (lv_room (Nat.le_of_ble_eq_true rfl)) dL_law_367 ⟨Nat.le_of_ble_eq_true rfl, Nat.le_of_ble_eq_true rfl⟩) hS (fun q _ h => hFc q h) hFc (fun rx ux t H locs ht _ h hP1 _ hk1 hS => ?_)
                have hP : va_P (dC, dI) vwCl (wL b0 h0 h1 h2 g0 g1 m0 m1 m2 m3 m4 m5 m6 m7 m8 m9 cI cJ cZ (ux, um)) H := L_joinX hP (hD _) hk1 hFc (by rw [← ht]; exact hP1)
                refine lv_aload_n hx hb dL_law_370 rfl (lv_at hl 2 rfl) ?_
                refine lv_aload_n hx hb dL_law_371 rfl (lv_at hl 0 rfl) ?_
                refine lv_iload_n hx hb dL_law_372 rfl (lv_at hl 3 rfl) ?_
                refine lv_iconst (v := 1) hx hb dL_law_373 (by decide) ?_
                refine lv_iadd hx hb dL_law_374 ?_
                refine va_sld hx hb hX hbl hbA hS (vpk hL hk (j := 1) (by decide)) dL_law_375 ?_
                refine lv_aload_n hx hb dL_law_376 rfl (lv_at hl 0 rfl) ?_
                refine lv_iload_n hx hb dL_law_377 rfl (lv_at hl 3 rfl) ?_
                refine lv_iconst (v := 2) hx hb dL_law_378 (by decide) ?_
                refine lv_iadd hx hb dL_law_379 ?_
                refine va_sld hx hb hX hbl hbA hS (vpk hL hk (j := 2) (by decide)) dL_law_380 ?_
                have hPs := hP.sub (ws' := wM m0 m1 m2 m3 m4 m5 m6 m7 m8 m9 cJ cZ um) [6, 7, 8, 9, 10, 11, 12, 13, 14, 15] rfl
                have hDs := (hD (ux, um)).sub (ws' := wM m0 m1 m2 m3 m4 m5 m6 m7 m8 m9 cJ cZ um) [6, 7, 8, 9, 10, 11, 12, 13, 14, 15] (by decide) rfl
                have hFc := fr_all (ws := wM m0 m1 m2 m3 m4 m5 m6 m7 m8 m9 cJ cZ um) hDs hS hA
                refine va_calli (va_runV (As := [.int _, .int _]) (rest := [.int _]) ⟨hx, hb, hml, hown, htsL⟩ (c_X5_ribs l dC dI m0 m1 m2 m3 m4 m5 m6 m7 m8 m9 cJ cZ H.size h) (cwV 2 htsL gL_law_X5_ribs rfl rfl rfl (by decide +kernel) ⟨Nat.le_of_ble_eq_true rfl, Nat.le_of_ble_eq_true rfl⟩) ⟨fbM, va_recv hKm hPs (ci := 3) (q0 := 0) rfl rfl, fun U hU hW => ⟨rfl, by rw [hU], by rw [hU]; exact hPs, va_K.moved hW.alike hKm, hDs.weaken (fun _ _ _ _ => trivial)⟩⟩ rfl rfl hl.1 rfl (lv_room (Nat.le_of_ble_eq_true rfl)) dL_law_381 ⟨Nat.le_of_ble_eq_true rfl, Nat.le_of_ble_eq_true rfl⟩) hS (fun q _ h => hFc q h) hFc (fun rm um t H locs ht _ h hP1 _ hk1 hS => ?_)
                have hP : va_P (dC, dI) vwCl (wL b0 h0 h1 h2 g0 g1 m0 m1 m2 m3 m4 m5 m6 m7 m8 m9 cI cJ cZ (ux, um)) H := L_joinM hP (hD _) hk1 hFc (by rw [← ht]; exact hP1)
                obtain ⟨hr12, hI⟩ := h
                refine lv_icmp_eq (tgt := 735) hx hb dL_law_384 (by decide) (fun _ => ?_) (fun w => absurd hr12 w)
                exact next (ux, um) hI _ _ hP hS _ (lv_sub hl [0, 1, 2, 3] rfl)
              · skip
                rcases Decidable.em (y_0 = 5) with c_5 | c_5
                · refine lv_tableIn (off := 356) (tgt := 389) hx hb dL_law_33 (by rw [c_5]; decide) (by rw [c_5]; decide) (by rw [c_5]; rfl) (by decide) ?_
                  refine lv_aload_n hx hb dL_law_389 rfl (lv_at hl 1 rfl) ?_
                  refine lv_aload_n hx hb dL_law_390 rfl (lv_at hl 0 rfl) ?_
                  refine lv_iload_n hx hb dL_law_391 rfl (lv_at hl 3 rfl) ?_
                  refine lv_iconst (v := 1) hx hb dL_law_392 (by decide) ?_
                  refine lv_iadd hx hb dL_law_393 ?_
                  refine va_sld hx hb hX hbl hbA hS (vpk hL hk (j := 1) (by decide)) dL_law_394 ?_
                  refine lv_aload_n hx hb dL_law_395 rfl (lv_at hl 0 rfl) ?_
                  refine lv_iload_n hx hb dL_law_396 rfl (lv_at hl 3 rfl) ?_
                  refine lv_iconst (v := 2) hx hb dL_law_397 (by decide) ?_
                  refine lv_iadd hx hb dL_law_398 ?_
                  refine va_sld hx hb hX hbl hbA hS (vpk hL hk (j := 2) (by decide)) dL_law_399 ?_
                  refine lv_aload_n hx hb dL_law_400 rfl (lv_at hl 0 rfl) ?_
                  refine lv_iload_n hx hb dL_law_401 rfl (lv_at hl 3 rfl) ?_
                  refine lv_iconst (v := 3) hx hb dL_law_402 (by decide) ?_
                  refine lv_iadd hx hb dL_law_403 ?_
                  refine va_sld hx hb hX hbl hbA hS (vpk hL hk (j := 3) (by decide)) dL_law_404 ?_
                  refine lv_aload_n hx hb dL_law_405 rfl (lv_at hl 0 rfl) ?_
                  refine lv_iload_n hx hb dL_law_406 rfl (lv_at hl 3 rfl) ?_
                  refine lv_iconst (v := 4) hx hb dL_law_407 (by decide) ?_
                  refine lv_iadd hx hb dL_law_408 ?_
                  refine va_sld hx hb hX hbl hbA hS (vpk hL hk (j := 4) (by decide)) dL_law_409 ?_
                  refine lv_aload_n hx hb dL_law_410 rfl (lv_at hl 0 rfl) ?_
                  refine lv_iload_n hx hb dL_law_411 rfl (lv_at hl 3 rfl) ?_
                  refine lv_iconst (v := 5) hx hb dL_law_412 (by decide) ?_
                  refine lv_iadd hx hb dL_law_413 ?_
                  refine va_sld hx hb hX hbl hbA hS (vpk hL hk (j := 5) (by decide)) dL_law_414 ?_
                  refine lv_if_eq (tgt := 422) hx hb dL_law_415 (by decide) (fun cb_415 => ?_) (fun cb_415 => ?_)
                  · refine lv_iconst (v := 0) hx hb dL_law_422 (by decide) ?_
                    have h := op_figure hI (xs (nI (8 * k) + (1 : Int32)).toNatClampNeg) (xs (nI (8 * k) + (2 : Int32)).toNatClampNeg) (xs (nI (8 * k) + (3 : Int32)).toNatClampNeg) (xs (nI (8 * k) + (4 : Int32)).toNatClampNeg) false
                    have hPs := hP.sub (ws' := wX b0 h0 h1 h2 g0 g1 cI ux) [0, 1, 2, 3, 4, 5] rfl
                    refine vp_callSi (W.runV (As := [.int _, .int _, .int _, .int _, .int _]) (rest := []) ⟨hx, hb, hml, hown, htsL⟩ (c_X4_figure l dC dI b0 h0 h1 h2 g0 g1 cI h) (cwV 5 htsL gL_law_X4_figure rfl rfl rfl (by decide +kernel) ⟨Nat.le_of_ble_eq_true rfl, Nat.le_of_ble_eq_true rfl⟩) ⟨fbR, va_recv hKx hPs (ci := 2) (q0 := 0) rfl rfl, fun U hU hW => ⟨rfl, by rw [hU]; exact hPs, va_K.moved hW.alike hKx⟩⟩ rfl rfl hl.1 rfl (lv_room (Nat.le_of_ble_eq_true rfl)) dL_law_423 ⟨Nat.le_of_ble_eq_true rfl, Nat.le_of_ble_eq_true rfl⟩) (fun rx h => ?_)
                    refine lv_aload_n hx hb dL_law_426 rfl (lv_at hl 2 rfl) ?_
                    refine lv_aload_n hx hb dL_law_427 rfl (lv_at hl 0 rfl) ?_
                    refine lv_iload_n hx hb dL_law_428 rfl (lv_at hl 3 rfl) ?_
                    refine lv_iconst (v := 1) hx hb dL_law_429 (by decide) ?_
                    refine lv_iadd hx hb dL_law_430 ?_
                    refine va_sld hx hb hX hbl hbA hS (vpk hL hk (j := 1) (by decide)) dL_law_431 ?_
                    refine lv_aload_n hx hb dL_law_432 rfl (lv_at hl 0 rfl) ?_
                    refine lv_iload_n hx hb dL_law_433 rfl (lv_at hl 3 rfl) ?_
                    refine lv_iconst (v := 2) hx hb dL_law_434 (by decide) ?_
                    refine lv_iadd hx hb dL_law_435 ?_
                    refine va_sld hx hb hX hbl hbA hS (vpk hL hk (j := 2) (by decide)) dL_law_436 ?_
                    refine lv_aload_n hx hb dL_law_437 rfl (lv_at hl 0 rfl) ?_
                    refine lv_iload_n hx hb dL_law_438 rfl (lv_at hl 3 rfl) ?_
                    refine lv_iconst (v := 3) hx hb dL_law_439 (by decide) ?_
                    refine lv_iadd hx hb dL_law_440 ?_
                    refine va_sld hx hb hX hbl hbA hS (vpk hL hk (j := 3) (by decide)) dL_law_441 ?_
                    refine lv_aload_n hx hb dL_law_442 rfl (lv_at hl 0 rfl) ?_
                    refine lv_iload_n hx hb dL_law_443 rfl (lv_at hl 3 rfl) ?_
                    refine lv_iconst (v := 4) hx hb dL_law_444 (by decide) ?_
                    refine lv_iadd hx hb dL_law_445 ?_
                    refine va_sld hx hb hX hbl hbA hS (vpk hL hk (j := 4) (by decide)) dL_law_446 ?_
                    refine lv_aload_n hx hb dL_law_447 rfl (lv_at hl 0 rfl) ?_
                    refine lv_iload_n hx hb dL_law_448 rfl (lv_at hl 3 rfl) ?_
                    refine lv_iconst (v := 5) hx hb dL_law_449 (by decide) ?_
                    refine lv_iadd hx hb dL_law_450 ?_
                    refine va_sld hx hb hX hbl hbA hS (vpk hL hk (j := 5) (by decide)) dL_law_451 ?_
                    refine lv_if_eq (tgt := 459) hx hb dL_law_452 (by decide) (fun _ => ?_) (fun w => absurd cb_415 w)
                    refine lv_iconst (v := 0) hx hb dL_law_459 (by decide) ?_
                    have hPs := hP.sub (ws' := wM m0 m1 m2 m3 m4 m5 m6 m7 m8 m9 cJ cZ um) [6, 7, 8, 9, 10, 11, 12, 13, 14, 15] rfl
                    have hDs := (hD (ux, um)).sub (ws' := wM m0 m1 m2 m3 m4 m5 m6 m7 m8 m9 cJ cZ um) [6, 7, 8, 9, 10, 11, 12, 13, 14, 15] (by decide) rfl
                    have hFc := fr_all (ws := wM m0 m1 m2 m3 m4 m5 m6 m7 m8 m9 cJ cZ um) hDs hS hA
                    refine va_calli (va_runV (As := [.int _, .int _, .int _, .int _, .int _]) (rest := [.int _]) ⟨hx, hb, hml, hown, htsL⟩ (c_X5_figure l dC dI m0 m1 m2 m3 m4 m5 m6 m7 m8 m9 cJ cZ H.size h) (cwV 5 htsL gL_law_X5_figure rfl rfl rfl (by decide +kernel) ⟨Nat.le_of_ble_eq_true rfl, Nat.le_of_ble_eq_true rfl⟩) ⟨fbM, va_recv hKm hPs (ci := 3) (q0 := 0) rfl rfl, fun U hU hW => ⟨rfl, by rw [hU], by rw [hU]; exact hPs, va_K.moved hW.alike hKm, hDs.weaken (fun _ _ _ _ => trivial)⟩⟩ rfl rfl hl.1 rfl (lv_room (Nat.le_of_ble_eq_true rfl)) dL_law_460 ⟨Nat.le_of_ble_eq_true rfl, Nat.le_of_ble_eq_true rfl⟩) hS (fun q _ h => hFc q h) hFc (fun rm um t H locs ht _ h hP1 _ hk1 hS => ?_)
                    have hP : va_P (dC, dI) vwCl (wL b0 h0 h1 h2 g0 g1 m0 m1 m2 m3 m4 m5 m6 m7 m8 m9 cI cJ cZ (ux, um)) H := L_joinM hP (hD _) hk1 hFc (by rw [← ht]; exact hP1)
                    obtain ⟨hr12, hI⟩ := h
                    refine lv_icmp_eq (tgt := 735) hx hb dL_law_463 (by decide) (fun _ => ?_) (fun w => absurd hr12 w)
                    exact next (ux, um) hI _ _ hP hS _ (lv_sub hl [0, 1, 2, 3] rfl)
                  · refine lv_iconst (v := 1) hx hb dL_law_418 (by decide) ?_
                    refine lv_goto (tgt := 423) hx hb dL_law_419 (by decide) ?_
                    have h := op_figure hI (xs (nI (8 * k) + (1 : Int32)).toNatClampNeg) (xs (nI (8 * k) + (2 : Int32)).toNatClampNeg) (xs (nI (8 * k) + (3 : Int32)).toNatClampNeg) (xs (nI (8 * k) + (4 : Int32)).toNatClampNeg) true
                    have hPs := hP.sub (ws' := wX b0 h0 h1 h2 g0 g1 cI ux) [0, 1, 2, 3, 4, 5] rfl
                    refine vp_callSi (W.runV (As := [.int _, .int _, .int _, .int _, .int _]) (rest := []) ⟨hx, hb, hml, hown, htsL⟩ (c_X4_figure l dC dI b0 h0 h1 h2 g0 g1 cI h) (cwV 5 htsL gL_law_X4_figure rfl rfl rfl (by decide +kernel) ⟨Nat.le_of_ble_eq_true rfl, Nat.le_of_ble_eq_true rfl⟩) ⟨fbR, va_recv hKx hPs (ci := 2) (q0 := 0) rfl rfl, fun U hU hW => ⟨rfl, by rw [hU]; exact hPs, va_K.moved hW.alike hKx⟩⟩ rfl rfl hl.1 rfl (lv_room (Nat.le_of_ble_eq_true rfl)) dL_law_423 ⟨Nat.le_of_ble_eq_true rfl, Nat.le_of_ble_eq_true rfl⟩) (fun rx h => ?_)
                    refine lv_aload_n hx hb dL_law_426 rfl (lv_at hl 2 rfl) ?_
                    refine lv_aload_n hx hb dL_law_427 rfl (lv_at hl 0 rfl) ?_
                    refine lv_iload_n hx hb dL_law_428 rfl (lv_at hl 3 rfl) ?_
                    refine lv_iconst (v := 1) hx hb dL_law_429 (by decide) ?_
                    refine lv_iadd hx hb dL_law_430 ?_
                    refine va_sld hx hb hX hbl hbA hS (vpk hL hk (j := 1) (by decide)) dL_law_431 ?_
                    refine lv_aload_n hx hb dL_law_432 rfl (lv_at hl 0 rfl) ?_
                    refine lv_iload_n hx hb dL_law_433 rfl (lv_at hl 3 rfl) ?_
                    refine lv_iconst (v := 2) hx hb dL_law_434 (by decide) ?_
                    refine lv_iadd hx hb dL_law_435 ?_
                    refine va_sld hx hb hX hbl hbA hS (vpk hL hk (j := 2) (by decide)) dL_law_436 ?_
                    refine lv_aload_n hx hb dL_law_437 rfl (lv_at hl 0 rfl) ?_
                    refine lv_iload_n hx hb dL_law_438 rfl (lv_at hl 3 rfl) ?_
                    refine lv_iconst (v := 3) hx hb dL_law_439 (by decide) ?_
                    refine lv_iadd hx hb dL_law_440 ?_
                    refine va_sld hx hb hX hbl hbA hS (vpk hL hk (j := 3) (by decide)) dL_law_441 ?_
                    refine lv_aload_n hx hb dL_law_442 rfl (lv_at hl 0 rfl) ?_
                    refine lv_iload_n hx hb dL_law_443 rfl (lv_at hl 3 rfl) ?_
                    refine lv_iconst (v := 4) hx hb dL_law_444 (by decide) ?_
                    refine lv_iadd hx hb dL_law_445 ?_
                    refine va_sld hx hb hX hbl hbA hS (vpk hL hk (j := 4) (by decide)) dL_law_446 ?_
                    refine lv_aload_n hx hb dL_law_447 rfl (lv_at hl 0 rfl) ?_
                    refine lv_iload_n hx hb dL_law_448 rfl (lv_at hl 3 rfl) ?_
                    refine lv_iconst (v := 5) hx hb dL_law_449 (by decide) ?_
                    refine lv_iadd hx hb dL_law_450 ?_
                    refine va_sld hx hb hX hbl hbA hS (vpk hL hk (j := 5) (by decide)) dL_law_451 ?_
                    refine lv_if_eq (tgt := 459) hx hb dL_law_452 (by decide) (fun w => absurd w cb_415) (fun _ => ?_)
                    refine lv_iconst (v := 1) hx hb dL_law_455 (by decide) ?_
                    refine lv_goto (tgt := 460) hx hb dL_law_456 (by decide) ?_
                    have hPs := hP.sub (ws' := wM m0 m1 m2 m3 m4 m5 m6 m7 m8 m9 cJ cZ um) [6, 7, 8, 9, 10, 11, 12, 13, 14, 15] rfl
                    have hDs := (hD (ux, um)).sub (ws' := wM m0 m1 m2 m3 m4 m5 m6 m7 m8 m9 cJ cZ um) [6, 7, 8, 9, 10, 11, 12, 13, 14, 15] (by decide) rfl
                    have hFc := fr_all (ws := wM m0 m1 m2 m3 m4 m5 m6 m7 m8 m9 cJ cZ um) hDs hS hA
                    refine va_calli (va_runV (As := [.int _, .int _, .int _, .int _, .int _]) (rest := [.int _]) ⟨hx, hb, hml, hown, htsL⟩ (c_X5_figure l dC dI m0 m1 m2 m3 m4 m5 m6 m7 m8 m9 cJ cZ H.size h) (cwV 5 htsL gL_law_X5_figure rfl rfl rfl (by decide +kernel) ⟨Nat.le_of_ble_eq_true rfl, Nat.le_of_ble_eq_true rfl⟩) ⟨fbM, va_recv hKm hPs (ci := 3) (q0 := 0) rfl rfl, fun U hU hW => ⟨rfl, by rw [hU], by rw [hU]; exact hPs, va_K.moved hW.alike hKm, hDs.weaken (fun _ _ _ _ => trivial)⟩⟩ rfl rfl hl.1 rfl (lv_room (Nat.le_of_ble_eq_true rfl)) dL_law_460 ⟨Nat.le_of_ble_eq_true rfl, Nat.le_of_ble_eq_true rfl⟩) hS (fun q _ h => hFc q h) hFc (fun rm um t H locs ht _ h hP1 _ hk1 hS => ?_)
                    have hP : va_P (dC, dI) vwCl (wL b0 h0 h1 h2 g0 g1 m0 m1 m2 m3 m4 m5 m6 m7 m8 m9 cI cJ cZ (ux, um)) H := L_joinM hP (hD _) hk1 hFc (by rw [← ht]; exact hP1)
                    obtain ⟨hr12, hI⟩ := h
                    refine lv_icmp_eq (tgt := 735) hx hb dL_law_463 (by decide) (fun _ => ?_) (fun w => absurd hr12 w)
                    exact next (ux, um) hI _ _ hP hS _ (lv_sub hl [0, 1, 2, 3] rfl)
                · skip
                  rcases Decidable.em (y_0 = 6) with c_6 | c_6
                  · refine lv_tableIn (off := 435) (tgt := 468) hx hb dL_law_33 (by rw [c_6]; decide) (by rw [c_6]; decide) (by rw [c_6]; rfl) (by decide) ?_
                    refine lv_aload_n hx hb dL_law_468 rfl (lv_at hl 1 rfl) ?_
                    refine lv_aload_n hx hb dL_law_469 rfl (lv_at hl 0 rfl) ?_
                    refine lv_iload_n hx hb dL_law_470 rfl (lv_at hl 3 rfl) ?_
                    refine lv_iconst (v := 1) hx hb dL_law_471 (by decide) ?_
                    refine lv_iadd hx hb dL_law_472 ?_
                    refine va_sld hx hb hX hbl hbA hS (vpk hL hk (j := 1) (by decide)) dL_law_473 ?_
                    refine lv_aload_n hx hb dL_law_474 rfl (lv_at hl 0 rfl) ?_
                    refine lv_iload_n hx hb dL_law_475 rfl (lv_at hl 3 rfl) ?_
                    refine lv_iconst (v := 2) hx hb dL_law_476 (by decide) ?_
                    refine lv_iadd hx hb dL_law_477 ?_
                    refine va_sld hx hb hX hbl hbA hS (vpk hL hk (j := 2) (by decide)) dL_law_478 ?_
                    refine lv_aload_n hx hb dL_law_479 rfl (lv_at hl 0 rfl) ?_
                    refine lv_iload_n hx hb dL_law_480 rfl (lv_at hl 3 rfl) ?_
                    refine lv_iconst (v := 3) hx hb dL_law_481 (by decide) ?_
                    refine lv_iadd hx hb dL_law_482 ?_
                    refine va_sld hx hb hX hbl hbA hS (vpk hL hk (j := 3) (by decide)) dL_law_483 ?_
                    have h := op_about hI (xs (nI (8 * k) + (1 : Int32)).toNatClampNeg) (xs (nI (8 * k) + (2 : Int32)).toNatClampNeg) (xs (nI (8 * k) + (3 : Int32)).toNatClampNeg)
                    have hPs := hP.sub (ws' := wX b0 h0 h1 h2 g0 g1 cI ux) [0, 1, 2, 3, 4, 5] rfl
                    refine vp_callSi (W.runV (As := [.int _, .int _, .int _]) (rest := []) ⟨hx, hb, hml, hown, htsL⟩ (c_X4_about l dC dI b0 h0 h1 h2 g0 g1 cI h) (cwV 3 htsL gL_law_X4_about rfl rfl rfl (by decide +kernel) ⟨Nat.le_of_ble_eq_true rfl, Nat.le_of_ble_eq_true rfl⟩) ⟨fbR, va_recv hKx hPs (ci := 2) (q0 := 0) rfl rfl, fun U hU hW => ⟨rfl, by rw [hU]; exact hPs, va_K.moved hW.alike hKx⟩⟩ rfl rfl hl.1 rfl (lv_room (Nat.le_of_ble_eq_true rfl)) dL_law_484 ⟨Nat.le_of_ble_eq_true rfl, Nat.le_of_ble_eq_true rfl⟩) (fun rx h => ?_)
                    refine lv_aload_n hx hb dL_law_487 rfl (lv_at hl 2 rfl) ?_
                    refine lv_aload_n hx hb dL_law_488 rfl (lv_at hl 0 rfl) ?_
                    refine lv_iload_n hx hb dL_law_489 rfl (lv_at hl 3 rfl) ?_
                    refine lv_iconst (v := 1) hx hb dL_law_490 (by decide) ?_
                    refine lv_iadd hx hb dL_law_491 ?_
                    refine va_sld hx hb hX hbl hbA hS (vpk hL hk (j := 1) (by decide)) dL_law_492 ?_
                    refine lv_aload_n hx hb dL_law_493 rfl (lv_at hl 0 rfl) ?_
                    refine lv_iload_n hx hb dL_law_494 rfl (lv_at hl 3 rfl) ?_
                    refine lv_iconst (v := 2) hx hb dL_law_495 (by decide) ?_
                    refine lv_iadd hx hb dL_law_496 ?_
                    refine va_sld hx hb hX hbl hbA hS (vpk hL hk (j := 2) (by decide)) dL_law_497 ?_
                    refine lv_aload_n hx hb dL_law_498 rfl (lv_at hl 0 rfl) ?_
                    refine lv_iload_n hx hb dL_law_499 rfl (lv_at hl 3 rfl) ?_
                    refine lv_iconst (v := 3) hx hb dL_law_500 (by decide) ?_
                    refine lv_iadd hx hb dL_law_501 ?_
                    refine va_sld hx hb hX hbl hbA hS (vpk hL hk (j := 3) (by decide)) dL_law_502 ?_
                    have hPs := hP.sub (ws' := wM m0 m1 m2 m3 m4 m5 m6 m7 m8 m9 cJ cZ um) [6, 7, 8, 9, 10, 11, 12, 13, 14, 15] rfl
                    have hDs := (hD (ux, um)).sub (ws' := wM m0 m1 m2 m3 m4 m5 m6 m7 m8 m9 cJ cZ um) [6, 7, 8, 9, 10, 11, 12, 13, 14, 15] (by decide) rfl
                    have hFc := fr_all (ws := wM m0 m1 m2 m3 m4 m5 m6 m7 m8 m9 cJ cZ um) hDs hS hA
                    refine va_calli (va_runV (As := [.int _, .int _, .int _]) (rest := [.int _]) ⟨hx, hb, hml, hown, htsL⟩ (c_X5_about l dC dI m0 m1 m2 m3 m4 m5 m6 m7 m8 m9 cJ cZ H.size h) (cwV 3 htsL gL_law_X5_about rfl rfl rfl (by decide +kernel) ⟨Nat.le_of_ble_eq_true rfl, Nat.le_of_ble_eq_true rfl⟩) ⟨fbM, va_recv hKm hPs (ci := 3) (q0 := 0) rfl rfl, fun U hU hW => ⟨rfl, by rw [hU], by rw [hU]; exact hPs, va_K.moved hW.alike hKm, hDs.weaken (fun _ _ _ _ => trivial)⟩⟩ rfl rfl hl.1 rfl (lv_room (Nat.le_of_ble_eq_true rfl)) dL_law_503 ⟨Nat.le_of_ble_eq_true rfl, Nat.le_of_ble_eq_true rfl⟩) hS (fun q _ h => hFc q h) hFc (fun rm um t H locs ht _ h hP1 _ hk1 hS => ?_)
                    have hP : va_P (dC, dI) vwCl (wL b0 h0 h1 h2 g0 g1 m0 m1 m2 m3 m4 m5 m6 m7 m8 m9 cI cJ cZ (ux, um)) H := L_joinM hP (hD _) hk1 hFc (by rw [← ht]; exact hP1)
                    obtain ⟨hr12, hI⟩ := h
                    refine lv_icmp_eq (tgt := 735) hx hb dL_law_506 (by decide) (fun _ => ?_) (fun w => absurd hr12 w)
                    exact next (ux, um) hI _ _ hP hS _ (lv_sub hl [0, 1, 2, 3] rfl)
                  · skip
                    rcases Decidable.em (y_0 = 7) with c_7 | c_7
                    · refine lv_tableIn (off := 478) (tgt := 511) hx hb dL_law_33 (by rw [c_7]; decide) (by rw [c_7]; decide) (by rw [c_7]; rfl) (by decide) ?_
                      refine lv_aload_n hx hb dL_law_511 rfl (lv_at hl 1 rfl) ?_
                      refine lv_aload_n hx hb dL_law_512 rfl (lv_at hl 0 rfl) ?_
                      refine lv_iload_n hx hb dL_law_513 rfl (lv_at hl 3 rfl) ?_
                      refine lv_iconst (v := 1) hx hb dL_law_514 (by decide) ?_
                      refine lv_iadd hx hb dL_law_515 ?_
                      refine va_sld hx hb hX hbl hbA hS (vpk hL hk (j := 1) (by decide)) dL_law_516 ?_
                      have h := op_caught hI (xs (nI (8 * k) + (1 : Int32)).toNatClampNeg)
                      have hPs := hP.sub (ws' := wX b0 h0 h1 h2 g0 g1 cI ux) [0, 1, 2, 3, 4, 5] rfl
                      refine vp_callSi (W.runV (As := [.int _]) (rest := []) ⟨hx, hb, hml, hown, htsL⟩ (c_X4_caught l dC dI b0 h0 h1 h2 g0 g1 cI h) (cwV 1 htsL gL_law_X4_caught rfl rfl rfl (by decide +kernel) ⟨Nat.le_of_ble_eq_true rfl, Nat.le_of_ble_eq_true rfl⟩) ⟨fbR, va_recv hKx hPs (ci := 2) (q0 := 0) rfl rfl, fun U hU hW => ⟨rfl, by rw [hU]; exact hPs, va_K.moved hW.alike hKx⟩⟩ rfl rfl hl.1 rfl (lv_room (Nat.le_of_ble_eq_true rfl)) dL_law_517 ⟨Nat.le_of_ble_eq_true rfl, Nat.le_of_ble_eq_true rfl⟩) (fun rx h => ?_)
                      refine lv_aload_n hx hb dL_law_520 rfl (lv_at hl 2 rfl) ?_
                      refine lv_aload_n hx hb dL_law_521 rfl (lv_at hl 0 rfl) ?_
                      refine lv_iload_n hx hb dL_law_522 rfl (lv_at hl 3 rfl) ?_
                      refine lv_iconst (v := 1) hx hb dL_law_523 (by decide) ?_
                      refine lv_iadd hx hb dL_law_524 ?_
                      refine va_sld hx hb hX hbl hbA hS (vpk hL hk (j := 1) (by decide)) dL_law_525 ?_
                      have hPs := hP.sub (ws' := wM m0 m1 m2 m3 m4 m5 m6 m7 m8 m9 cJ cZ um) [6, 7, 8, 9, 10, 11, 12, 13, 14, 15] rfl
                      have hDs := (hD (ux, um)).sub (ws' := wM m0 m1 m2 m3 m4 m5 m6 m7 m8 m9 cJ cZ um) [6, 7, 8, 9, 10, 11, 12, 13, 14, 15] (by decide) rfl
                      have hFc := fr_all (ws := wM m0 m1 m2 m3 m4 m5 m6 m7 m8 m9 cJ cZ um) hDs hS hA
                      refine va_calli (va_runV (As := [.int _]) (rest := [.int _]) ⟨hx, hb, hml, hown, htsL⟩ (c_X5_caught l dC dI m0 m1 m2 m3 m4 m5 m6 m7 m8 m9 cJ cZ H.size h) (cwV 1 htsL gL_law_X5_caught rfl rfl rfl (by decide +kernel) ⟨Nat.le_of_ble_eq_true rfl, Nat.le_of_ble_eq_true rfl⟩) ⟨fbM, va_recv hKm hPs (ci := 3) (q0 := 0) rfl rfl, fun U hU hW => ⟨rfl, by rw [hU], by rw [hU]; exact hPs, va_K.moved hW.alike hKm, hDs.weaken (fun _ _ _ _ => trivial)⟩⟩ rfl rfl hl.1 rfl (lv_room (Nat.le_of_ble_eq_true rfl)) dL_law_526 ⟨Nat.le_of_ble_eq_true rfl, Nat.le_of_ble_eq_true rfl⟩) hS (fun q _ h => hFc q h) hFc (fun rm um t H locs ht _ h hP1 _ hk1 hS => ?_)
                      have hP : va_P (dC, dI) vwCl (wL b0 h0 h1 h2 g0 g1 m0 m1 m2 m3 m4 m5 m6 m7 m8 m9 cI cJ cZ (ux, um)) H := L_joinM hP (hD _) hk1 hFc (by rw [← ht]; exact hP1)
                      obtain ⟨hr12, hI⟩ := h
                      refine lv_icmp_eq (tgt := 735) hx hb dL_law_529 (by decide) (fun _ => ?_) (fun w => absurd hr12 w)
                      exact next (ux, um) hI _ _ hP hS _ (lv_sub hl [0, 1, 2, 3] rfl)
                    · skip
                      rcases Decidable.em (y_0 = 8) with c_8 | c_8
                      · refine lv_tableIn (off := 501) (tgt := 534) hx hb dL_law_33 (by rw [c_8]; decide) (by rw [c_8]; decide) (by rw [c_8]; rfl) (by decide) ?_
                        refine lv_aload_n hx hb dL_law_534 rfl (lv_at hl 1 rfl) ?_
                        refine lv_aload_n hx hb dL_law_535 rfl (lv_at hl 0 rfl) ?_
                        refine lv_iload_n hx hb dL_law_536 rfl (lv_at hl 3 rfl) ?_
                        refine lv_iconst (v := 1) hx hb dL_law_537 (by decide) ?_
                        refine lv_iadd hx hb dL_law_538 ?_
                        refine va_sld hx hb hX hbl hbA hS (vpk hL hk (j := 1) (by decide)) dL_law_539 ?_
                        refine lv_aload_n hx hb dL_law_540 rfl (lv_at hl 0 rfl) ?_
                        refine lv_iload_n hx hb dL_law_541 rfl (lv_at hl 3 rfl) ?_
                        refine lv_iconst (v := 2) hx hb dL_law_542 (by decide) ?_
                        refine lv_iadd hx hb dL_law_543 ?_
                        refine va_sld hx hb hX hbl hbA hS (vpk hL hk (j := 2) (by decide)) dL_law_544 ?_
                        refine lv_aload_n hx hb dL_law_545 rfl (lv_at hl 0 rfl) ?_
                        refine lv_iload_n hx hb dL_law_546 rfl (lv_at hl 3 rfl) ?_
                        refine lv_iconst (v := 3) hx hb dL_law_547 (by decide) ?_
                        refine lv_iadd hx hb dL_law_548 ?_
                        refine va_sld hx hb hX hbl hbA hS (vpk hL hk (j := 3) (by decide)) dL_law_549 ?_
                        have h := op_run hI (xs (nI (8 * k) + (1 : Int32)).toNatClampNeg) (xs (nI (8 * k) + (2 : Int32)).toNatClampNeg) (xs (nI (8 * k) + (3 : Int32)).toNatClampNeg)
                        have hPs := hP.sub (ws' := wX b0 h0 h1 h2 g0 g1 cI ux) [0, 1, 2, 3, 4, 5] rfl
                        refine vp_callSi (W.runV (As := [.int _, .int _, .int _]) (rest := []) ⟨hx, hb, hml, hown, htsL⟩ (c_X4_run l dC dI b0 h0 h1 h2 g0 g1 cI h) (cwV 3 htsL gL_law_X4_run rfl rfl rfl (by decide +kernel) ⟨Nat.le_of_ble_eq_true rfl, Nat.le_of_ble_eq_true rfl⟩) ⟨fbR, va_recv hKx hPs (ci := 2) (q0 := 0) rfl rfl, fun U hU hW => ⟨rfl, by rw [hU]; exact hPs, va_K.moved hW.alike hKx⟩⟩ rfl rfl hl.1 rfl (lv_room (Nat.le_of_ble_eq_true rfl)) dL_law_550 ⟨Nat.le_of_ble_eq_true rfl, Nat.le_of_ble_eq_true rfl⟩) (fun rx h => ?_)
                        refine lv_aload_n hx hb dL_law_553 rfl (lv_at hl 2 rfl) ?_
                        refine lv_aload_n hx hb dL_law_554 rfl (lv_at hl 0 rfl) ?_
                        refine lv_iload_n hx hb dL_law_555 rfl (lv_at hl 3 rfl) ?_
                        refine lv_iconst (v := 1) hx hb dL_law_556 (by decide) ?_
                        refine lv_iadd hx hb dL_law_557 ?_
                        refine va_sld hx hb hX hbl hbA hS (vpk hL hk (j := 1) (by decide)) dL_law_558 ?_
                        refine lv_aload_n hx hb dL_law_559 rfl (lv_at hl 0 rfl) ?_
                        refine lv_iload_n hx hb dL_law_560 rfl (lv_at hl 3 rfl) ?_
                        refine lv_iconst (v := 2) hx hb dL_law_561 (by decide) ?_
                        refine lv_iadd hx hb dL_law_562 ?_
                        refine va_sld hx hb hX hbl hbA hS (vpk hL hk (j := 2) (by decide)) dL_law_563 ?_
                        refine lv_aload_n hx hb dL_law_564 rfl (lv_at hl 0 rfl) ?_
                        refine lv_iload_n hx hb dL_law_565 rfl (lv_at hl 3 rfl) ?_
                        refine lv_iconst (v := 3) hx hb dL_law_566 (by decide) ?_
                        refine lv_iadd hx hb dL_law_567 ?_
                        refine va_sld hx hb hX hbl hbA hS (vpk hL hk (j := 3) (by decide)) dL_law_568 ?_
                        have hPs := hP.sub (ws' := wM m0 m1 m2 m3 m4 m5 m6 m7 m8 m9 cJ cZ um) [6, 7, 8, 9, 10, 11, 12, 13, 14, 15] rfl
                        have hDs := (hD (ux, um)).sub (ws' := wM m0 m1 m2 m3 m4 m5 m6 m7 m8 m9 cJ cZ um) [6, 7, 8, 9, 10, 11, 12, 13, 14, 15] (by decide) rfl
                        have hFc := fr_all (ws := wM m0 m1 m2 m3 m4 m5 m6 m7 m8 m9 cJ cZ um) hDs hS hA
                        refine va_calli (va_runV (As := [.int _, .int _, .int _]) (rest := [.int _]) ⟨hx, hb, hml, hown, htsL⟩ (c_X5_run l dC dI m0 m1 m2 m3 m4 m5 m6 m7 m8 m9 cJ cZ H.size h) (cwV 3 htsL gL_law_X5_run rfl rfl rfl (by decide +kernel) ⟨Nat.le_of_ble_eq_true rfl, Nat.le_of_ble_eq_true rfl⟩) ⟨fbM, va_recv hKm hPs (ci := 3) (q0 := 0) rfl rfl, fun U hU hW => ⟨rfl, by rw [hU], by rw [hU]; exact hPs, va_K.moved hW.alike hKm, hDs.weaken (fun _ _ _ _ => trivial)⟩⟩ rfl rfl hl.1 rfl (lv_room (Nat.le_of_ble_eq_true rfl)) dL_law_569 ⟨Nat.le_of_ble_eq_true rfl, Nat.le_of_ble_eq_true rfl⟩) hS (fun q _ h => hFc q h) hFc (fun rm um t H locs ht _ h hP1 _ hk1 hS => ?_)
                        have hP : va_P (dC, dI) vwCl (wL b0 h0 h1 h2 g0 g1 m0 m1 m2 m3 m4 m5 m6 m7 m8 m9 cI cJ cZ (ux, um)) H := L_joinM hP (hD _) hk1 hFc (by rw [← ht]; exact hP1)
                        obtain ⟨hr12, hI⟩ := h
                        refine lv_icmp_eq (tgt := 735) hx hb dL_law_572 (by decide) (fun _ => ?_) (fun w => absurd hr12 w)
                        exact next (ux, um) hI _ _ hP hS _ (lv_sub hl [0, 1, 2, 3] rfl)
                      · skip
                        rcases Decidable.em (y_0 = 9) with c_9 | c_9
                        · refine lv_tableIn (off := 544) (tgt := 577) hx hb dL_law_33 (by rw [c_9]; decide) (by rw [c_9]; decide) (by rw [c_9]; rfl) (by decide) ?_
                          refine lv_aload_n hx hb dL_law_577 rfl (lv_at hl 1 rfl) ?_
                          have h := op_cover hI
                          have hPs := hP.sub (ws' := wX b0 h0 h1 h2 g0 g1 cI ux) [0, 1, 2, 3, 4, 5] rfl
                          refine vp_callSi (W.runV (As := []) (rest := []) ⟨hx, hb, hml, hown, htsL⟩ (c_X4_cover l dC dI b0 h0 h1 h2 g0 g1 cI h) (cwV 0 htsL gL_law_X4_cover rfl rfl rfl (by decide +kernel) ⟨Nat.le_of_ble_eq_true rfl, Nat.le_of_ble_eq_true rfl⟩) ⟨fbR, va_recv hKx hPs (ci := 2) (q0 := 0) rfl rfl, fun U hU hW => ⟨rfl, by rw [hU]; exact hPs, va_K.moved hW.alike hKx⟩⟩ rfl rfl hl.1 rfl (lv_room (Nat.le_of_ble_eq_true rfl)) dL_law_578 ⟨Nat.le_of_ble_eq_true rfl, Nat.le_of_ble_eq_true rfl⟩) (fun rx h => ?_)
                          refine lv_aload_n hx hb dL_law_581 rfl (lv_at hl 2 rfl) ?_
                          have hPs := hP.sub (ws' := wM m0 m1 m2 m3 m4 m5 m6 m7 m8 m9 cJ cZ um) [6, 7, 8, 9, 10, 11, 12, 13, 14, 15] rfl
                          have hDs := (hD (ux, um)).sub (ws' := wM m0 m1 m2 m3 m4 m5 m6 m7 m8 m9 cJ cZ um) [6, 7, 8, 9, 10, 11, 12, 13, 14, 15] (by decide) rfl
                          have hFc := fr_all (ws := wM m0 m1 m2 m3 m4 m5 m6 m7 m8 m9 cJ cZ um) hDs hS hA
                          refine va_calli (va_runV (As := []) (rest := [.int _]) ⟨hx, hb, hml, hown, htsL⟩ (c_X5_cover l dC dI m0 m1 m2 m3 m4 m5 m6 m7 m8 m9 cJ cZ H.size h) (cwV 0 htsL gL_law_X5_cover rfl rfl rfl (by decide +kernel) ⟨Nat.le_of_ble_eq_true rfl, Nat.le_of_ble_eq_true rfl⟩) ⟨fbM, va_recv hKm hPs (ci := 3) (q0 := 0) rfl rfl, fun U hU hW => ⟨rfl, by rw [hU], by rw [hU]; exact hPs, va_K.moved hW.alike hKm, hDs.weaken (fun _ _ _ _ => trivial)⟩⟩ rfl rfl hl.1 rfl (lv_room (Nat.le_of_ble_eq_true rfl)) dL_law_582 ⟨Nat.le_of_ble_eq_true rfl, Nat.le_of_ble_eq_true rfl⟩) hS (fun q _ h => hFc q h) hFc (fun rm um t H locs ht _ h hP1 _ hk1 hS => ?_)
                          have hP : va_P (dC, dI) vwCl (wL b0 h0 h1 h2 g0 g1 m0 m1 m2 m3 m4 m5 m6 m7 m8 m9 cI cJ cZ (ux, um)) H := L_joinM hP (hD _) hk1 hFc (by rw [← ht]; exact hP1)
                          obtain ⟨hr12, hI⟩ := h
                          refine lv_icmp_eq (tgt := 735) hx hb dL_law_585 (by decide) (fun _ => ?_) (fun w => absurd hr12 w)
                          exact next (ux, um) hI _ _ hP hS _ (lv_sub hl [0, 1, 2, 3] rfl)
                        · skip
                          rcases Decidable.em (y_0 = 10) with c_10 | c_10
                          · refine lv_tableIn (off := 557) (tgt := 590) hx hb dL_law_33 (by rw [c_10]; decide) (by rw [c_10]; decide) (by rw [c_10]; rfl) (by decide) ?_
                            refine lv_aload_n hx hb dL_law_590 rfl (lv_at hl 1 rfl) ?_
                            refine lv_aload_n hx hb dL_law_591 rfl (lv_at hl 0 rfl) ?_
                            refine lv_iload_n hx hb dL_law_592 rfl (lv_at hl 3 rfl) ?_
                            refine lv_iconst (v := 1) hx hb dL_law_593 (by decide) ?_
                            refine lv_iadd hx hb dL_law_594 ?_
                            refine va_sld hx hb hX hbl hbA hS (vpk hL hk (j := 1) (by decide)) dL_law_595 ?_
                            refine lv_aload_n hx hb dL_law_596 rfl (lv_at hl 0 rfl) ?_
                            refine lv_iload_n hx hb dL_law_597 rfl (lv_at hl 3 rfl) ?_
                            refine lv_iconst (v := 2) hx hb dL_law_598 (by decide) ?_
                            refine lv_iadd hx hb dL_law_599 ?_
                            refine va_sld hx hb hX hbl hbA hS (vpk hL hk (j := 2) (by decide)) dL_law_600 ?_
                            have h := op_best hI (xs (nI (8 * k) + (1 : Int32)).toNatClampNeg) (xs (nI (8 * k) + (2 : Int32)).toNatClampNeg)
                            have hPs := hP.sub (ws' := wX b0 h0 h1 h2 g0 g1 cI ux) [0, 1, 2, 3, 4, 5] rfl
                            have hDs := (hD (ux, um)).sub (ws' := wX b0 h0 h1 h2 g0 g1 cI ux) [0, 1, 2, 3, 4, 5] (by decide) rfl
                            have hFc := fr_all (ws := wX b0 h0 h1 h2 g0 g1 cI ux) hDs hS hA
                            refine va_calli (va_runV (As := [.int _, .int _]) (rest := []) ⟨hx, hb, hml, hown, htsL⟩ (c_X4_best l dC dI b0 h0 h1 h2 g0 g1 cI H.size h) (cwV 2 htsL gL_law_X4_best rfl rfl rfl (by decide +kernel) ⟨Nat.le_of_ble_eq_true rfl, Nat.le_of_ble_eq_true rfl⟩) ⟨fbM, va_recv hKx hPs (ci := 2) (q0 := 0) rfl rfl, fun U hU hW => ⟨rfl, by rw [hU], by rw [hU]; exact hPs, va_K.moved hW.alike hKx, hDs.weaken (fun _ _ _ _ => trivial)⟩⟩ rfl rfl hl.1 rfl (lv_room (Nat.le_of_ble_eq_true rfl)) dL_law_601 ⟨Nat.le_of_ble_eq_true rfl, Nat.le_of_ble_eq_true rfl⟩) hS (fun q _ h => hFc q h) hFc (fun rx ux t H locs ht _ h hP1 _ hk1 hS => ?_)
                            have hP : va_P (dC, dI) vwCl (wL b0 h0 h1 h2 g0 g1 m0 m1 m2 m3 m4 m5 m6 m7 m8 m9 cI cJ cZ (ux, um)) H := L_joinX hP (hD _) hk1 hFc (by rw [← ht]; exact hP1)
                            refine lv_aload_n hx hb dL_law_604 rfl (lv_at hl 2 rfl) ?_
                            refine lv_aload_n hx hb dL_law_605 rfl (lv_at hl 0 rfl) ?_
                            refine lv_iload_n hx hb dL_law_606 rfl (lv_at hl 3 rfl) ?_
                            refine lv_iconst (v := 1) hx hb dL_law_607 (by decide) ?_
                            refine lv_iadd hx hb dL_law_608 ?_
                            refine va_sld hx hb hX hbl hbA hS (vpk hL hk (j := 1) (by decide)) dL_law_609 ?_
                            refine lv_aload_n hx hb dL_law_610 rfl (lv_at hl 0 rfl) ?_
                            refine lv_iload_n hx hb dL_law_611 rfl (lv_at hl 3 rfl) ?_
                            refine lv_iconst (v := 2) hx hb dL_law_612 (by decide) ?_
                            refine lv_iadd hx hb dL_law_613 ?_
                            refine va_sld hx hb hX hbl hbA hS (vpk hL hk (j := 2) (by decide)) dL_law_614 ?_
                            have hPs := hP.sub (ws' := wM m0 m1 m2 m3 m4 m5 m6 m7 m8 m9 cJ cZ um) [6, 7, 8, 9, 10, 11, 12, 13, 14, 15] rfl
                            have hDs := (hD (ux, um)).sub (ws' := wM m0 m1 m2 m3 m4 m5 m6 m7 m8 m9 cJ cZ um) [6, 7, 8, 9, 10, 11, 12, 13, 14, 15] (by decide) rfl
                            have hFc := fr_all (ws := wM m0 m1 m2 m3 m4 m5 m6 m7 m8 m9 cJ cZ um) hDs hS hA
                            refine va_calli (va_runV (As := [.int _, .int _]) (rest := [.int _]) ⟨hx, hb, hml, hown, htsL⟩ (c_X5_best l dC dI m0 m1 m2 m3 m4 m5 m6 m7 m8 m9 cJ cZ H.size h) (cwV 2 htsL gL_law_X5_best rfl rfl rfl (by decide +kernel) ⟨Nat.le_of_ble_eq_true rfl, Nat.le_of_ble_eq_true rfl⟩) ⟨fbM, va_recv hKm hPs (ci := 3) (q0 := 0) rfl rfl, fun U hU hW => ⟨rfl, by rw [hU], by rw [hU]; exact hPs, va_K.moved hW.alike hKm, hDs.weaken (fun _ _ _ _ => trivial)⟩⟩ rfl rfl hl.1 rfl (lv_room (Nat.le_of_ble_eq_true rfl)) dL_law_615 ⟨Nat.le_of_ble_eq_true rfl, Nat.le_of_ble_eq_true rfl⟩) hS (fun q _ h => hFc q h) hFc (fun rm um t H locs ht _ h hP1 _ hk1 hS => ?_)
                            have hP : va_P (dC, dI) vwCl (wL b0 h0 h1 h2 g0 g1 m0 m1 m2 m3 m4 m5 m6 m7 m8 m9 cI cJ cZ (ux, um)) H := L_joinM hP (hD _) hk1 hFc (by rw [← ht]; exact hP1)
                            obtain ⟨hr12, hI⟩ := h
                            refine lv_icmp_eq (tgt := 735) hx hb dL_law_618 (by decide) (fun _ => ?_) (fun w => absurd hr12 w)
                            exact next (ux, um) hI _ _ hP hS _ (lv_sub hl [0, 1, 2, 3] rfl)
                          · skip
                            rcases Decidable.em (y_0 = 11) with c_11 | c_11
                            · refine lv_tableIn (off := 590) (tgt := 623) hx hb dL_law_33 (by rw [c_11]; decide) (by rw [c_11]; decide) (by rw [c_11]; rfl) (by decide) ?_
                              refine lv_aload_n hx hb dL_law_623 rfl (lv_at hl 1 rfl) ?_
                              refine lv_aload_n hx hb dL_law_624 rfl (lv_at hl 0 rfl) ?_
                              refine lv_iload_n hx hb dL_law_625 rfl (lv_at hl 3 rfl) ?_
                              refine lv_iconst (v := 1) hx hb dL_law_626 (by decide) ?_
                              refine lv_iadd hx hb dL_law_627 ?_
                              refine va_sld hx hb hX hbl hbA hS (vpk hL hk (j := 1) (by decide)) dL_law_628 ?_
                              have h := op_told hI (xs (nI (8 * k) + (1 : Int32)).toNatClampNeg)
                              have hPs := hP.sub (ws' := wX b0 h0 h1 h2 g0 g1 cI ux) [0, 1, 2, 3, 4, 5] rfl
                              refine vp_callSi (W.runV (As := [.int _]) (rest := []) ⟨hx, hb, hml, hown, htsL⟩ (c_X4_told l dC dI b0 h0 h1 h2 g0 g1 cI h) (cwV 1 htsL gL_law_X4_told rfl rfl rfl (by decide +kernel) ⟨Nat.le_of_ble_eq_true rfl, Nat.le_of_ble_eq_true rfl⟩) ⟨fbR, va_recv hKx hPs (ci := 2) (q0 := 0) rfl rfl, fun U hU hW => ⟨rfl, by rw [hU]; exact hPs, va_K.moved hW.alike hKx⟩⟩ rfl rfl hl.1 rfl (lv_room (Nat.le_of_ble_eq_true rfl)) dL_law_629 ⟨Nat.le_of_ble_eq_true rfl, Nat.le_of_ble_eq_true rfl⟩) (fun rx h => ?_)
                              refine lv_aload_n hx hb dL_law_632 rfl (lv_at hl 2 rfl) ?_
                              refine lv_aload_n hx hb dL_law_633 rfl (lv_at hl 0 rfl) ?_
                              refine lv_iload_n hx hb dL_law_634 rfl (lv_at hl 3 rfl) ?_
                              refine lv_iconst (v := 1) hx hb dL_law_635 (by decide) ?_
                              refine lv_iadd hx hb dL_law_636 ?_
                              refine va_sld hx hb hX hbl hbA hS (vpk hL hk (j := 1) (by decide)) dL_law_637 ?_
                              have hPs := hP.sub (ws' := wM m0 m1 m2 m3 m4 m5 m6 m7 m8 m9 cJ cZ um) [6, 7, 8, 9, 10, 11, 12, 13, 14, 15] rfl
                              have hDs := (hD (ux, um)).sub (ws' := wM m0 m1 m2 m3 m4 m5 m6 m7 m8 m9 cJ cZ um) [6, 7, 8, 9, 10, 11, 12, 13, 14, 15] (by decide) rfl
                              have hFc := fr_all (ws := wM m0 m1 m2 m3 m4 m5 m6 m7 m8 m9 cJ cZ um) hDs hS hA
                              refine va_calli (va_runV (As := [.int _]) (rest := [.int _]) ⟨hx, hb, hml, hown, htsL⟩ (c_X5_told l dC dI m0 m1 m2 m3 m4 m5 m6 m7 m8 m9 cJ cZ H.size h) (cwV 1 htsL gL_law_X5_told rfl rfl rfl (by decide +kernel) ⟨Nat.le_of_ble_eq_true rfl, Nat.le_of_ble_eq_true rfl⟩) ⟨fbM, va_recv hKm hPs (ci := 3) (q0 := 0) rfl rfl, fun U hU hW => ⟨rfl, by rw [hU], by rw [hU]; exact hPs, va_K.moved hW.alike hKm, hDs.weaken (fun _ _ _ _ => trivial)⟩⟩ rfl rfl hl.1 rfl (lv_room (Nat.le_of_ble_eq_true rfl)) dL_law_638 ⟨Nat.le_of_ble_eq_true rfl, Nat.le_of_ble_eq_true rfl⟩) hS (fun q _ h => hFc q h) hFc (fun rm um t H locs ht _ h hP1 _ hk1 hS => ?_)
                              have hP : va_P (dC, dI) vwCl (wL b0 h0 h1 h2 g0 g1 m0 m1 m2 m3 m4 m5 m6 m7 m8 m9 cI cJ cZ (ux, um)) H := L_joinM hP (hD _) hk1 hFc (by rw [← ht]; exact hP1)
                              obtain ⟨hr12, hI⟩ := h
                              refine lv_icmp_eq (tgt := 735) hx hb dL_law_641 (by decide) (fun _ => ?_) (fun w => absurd hr12 w)
                              exact next (ux, um) hI _ _ hP hS _ (lv_sub hl [0, 1, 2, 3] rfl)
                            · skip
                              rcases Decidable.em (y_0 = 12) with c_12 | c_12
                              · refine lv_tableIn (off := 613) (tgt := 646) hx hb dL_law_33 (by rw [c_12]; decide) (by rw [c_12]; decide) (by rw [c_12]; rfl) (by decide) ?_
                                refine lv_aload_n hx hb dL_law_646 rfl (lv_at hl 1 rfl) ?_
                                refine lv_aload_n hx hb dL_law_647 rfl (lv_at hl 0 rfl) ?_
                                refine lv_iload_n hx hb dL_law_648 rfl (lv_at hl 3 rfl) ?_
                                refine lv_iconst (v := 1) hx hb dL_law_649 (by decide) ?_
                                refine lv_iadd hx hb dL_law_650 ?_
                                refine va_sld hx hb hX hbl hbA hS (vpk hL hk (j := 1) (by decide)) dL_law_651 ?_
                                refine lv_aload_n hx hb dL_law_652 rfl (lv_at hl 0 rfl) ?_
                                refine lv_iload_n hx hb dL_law_653 rfl (lv_at hl 3 rfl) ?_
                                refine lv_iconst (v := 2) hx hb dL_law_654 (by decide) ?_
                                refine lv_iadd hx hb dL_law_655 ?_
                                refine va_sld hx hb hX hbl hbA hS (vpk hL hk (j := 2) (by decide)) dL_law_656 ?_
                                refine lv_aload_n hx hb dL_law_657 rfl (lv_at hl 0 rfl) ?_
                                refine lv_iload_n hx hb dL_law_658 rfl (lv_at hl 3 rfl) ?_
                                refine lv_iconst (v := 3) hx hb dL_law_659 (by decide) ?_
                                refine lv_iadd hx hb dL_law_660 ?_
                                refine va_sld hx hb hX hbl hbA hS (vpk hL hk (j := 3) (by decide)) dL_law_661 ?_
                                have h := op_lay hI (xs (nI (8 * k) + (1 : Int32)).toNatClampNeg) (xs (nI (8 * k) + (2 : Int32)).toNatClampNeg) (xs (nI (8 * k) + (3 : Int32)).toNatClampNeg)
                                have hPs := hP.sub (ws' := wX b0 h0 h1 h2 g0 g1 cI ux) [0, 1, 2, 3, 4, 5] rfl
                                have hDs := (hD (ux, um)).sub (ws' := wX b0 h0 h1 h2 g0 g1 cI ux) [0, 1, 2, 3, 4, 5] (by decide) rfl
                                have hFc := fr_all (ws := wX b0 h0 h1 h2 g0 g1 cI ux) hDs hS hA
                                refine va_calli (va_runV (As := [.int _, .int _, .int _]) (rest := []) ⟨hx, hb, hml, hown, htsL⟩ (c_X4_lay l dC dI b0 h0 h1 h2 g0 g1 cI H.size h) (cwV 3 htsL gL_law_X4_lay rfl rfl rfl (by decide +kernel) ⟨Nat.le_of_ble_eq_true rfl, Nat.le_of_ble_eq_true rfl⟩) ⟨fbM, va_recv hKx hPs (ci := 2) (q0 := 0) rfl rfl, fun U hU hW => ⟨rfl, by rw [hU], by rw [hU]; exact hPs, va_K.moved hW.alike hKx, hDs.weaken (fun _ _ _ _ => trivial)⟩⟩ rfl rfl hl.1 rfl (lv_room (Nat.le_of_ble_eq_true rfl)) dL_law_662 ⟨Nat.le_of_ble_eq_true rfl, Nat.le_of_ble_eq_true rfl⟩) hS (fun q _ h => hFc q h) hFc (fun rx ux t H locs ht _ h hP1 _ hk1 hS => ?_)
                                have hP : va_P (dC, dI) vwCl (wL b0 h0 h1 h2 g0 g1 m0 m1 m2 m3 m4 m5 m6 m7 m8 m9 cI cJ cZ (ux, um)) H := L_joinX hP (hD _) hk1 hFc (by rw [← ht]; exact hP1)
                                refine lv_aload_n hx hb dL_law_665 rfl (lv_at hl 2 rfl) ?_
                                refine lv_aload_n hx hb dL_law_666 rfl (lv_at hl 0 rfl) ?_
                                refine lv_iload_n hx hb dL_law_667 rfl (lv_at hl 3 rfl) ?_
                                refine lv_iconst (v := 1) hx hb dL_law_668 (by decide) ?_
                                refine lv_iadd hx hb dL_law_669 ?_
                                refine va_sld hx hb hX hbl hbA hS (vpk hL hk (j := 1) (by decide)) dL_law_670 ?_
                                refine lv_aload_n hx hb dL_law_671 rfl (lv_at hl 0 rfl) ?_
                                refine lv_iload_n hx hb dL_law_672 rfl (lv_at hl 3 rfl) ?_
                                refine lv_iconst (v := 2) hx hb dL_law_673 (by decide) ?_
                                refine lv_iadd hx hb dL_law_674 ?_
                                refine va_sld hx hb hX hbl hbA hS (vpk hL hk (j := 2) (by decide)) dL_law_675 ?_
                                refine lv_aload_n hx hb dL_law_676 rfl (lv_at hl 0 rfl) ?_
                                refine lv_iload_n hx hb dL_law_677 rfl (lv_at hl 3 rfl) ?_
                                refine lv_iconst (v := 3) hx hb dL_law_678 (by decide) ?_
                                refine lv_iadd hx hb dL_law_679 ?_
                                refine va_sld hx hb hX hbl hbA hS (vpk hL hk (j := 3) (by decide)) dL_law_680 ?_
                                have hPs := hP.sub (ws' := wM m0 m1 m2 m3 m4 m5 m6 m7 m8 m9 cJ cZ um) [6, 7, 8, 9, 10, 11, 12, 13, 14, 15] rfl
                                have hDs := (hD (ux, um)).sub (ws' := wM m0 m1 m2 m3 m4 m5 m6 m7 m8 m9 cJ cZ um) [6, 7, 8, 9, 10, 11, 12, 13, 14, 15] (by decide) rfl
                                have hFc := fr_all (ws := wM m0 m1 m2 m3 m4 m5 m6 m7 m8 m9 cJ cZ um) hDs hS hA
                                refine va_calli (va_runV (As := [.int _, .int _, .int _]) (rest := [.int _]) ⟨hx, hb, hml, hown, htsL⟩ (c_X5_lay l dC dI m0 m1 m2 m3 m4 m5 m6 m7 m8 m9 cJ cZ H.size h) (cwV 3 htsL gL_law_X5_lay rfl rfl rfl (by decide +kernel) ⟨Nat.le_of_ble_eq_true rfl, Nat.le_of_ble_eq_true rfl⟩) ⟨fbM, va_recv hKm hPs (ci := 3) (q0 := 0) rfl rfl, fun U hU hW => ⟨rfl, by rw [hU], by rw [hU]; exact hPs, va_K.moved hW.alike hKm, hDs.weaken (fun _ _ _ _ => trivial)⟩⟩ rfl rfl hl.1 rfl (lv_room (Nat.le_of_ble_eq_true rfl)) dL_law_681 ⟨Nat.le_of_ble_eq_true rfl, Nat.le_of_ble_eq_true rfl⟩) hS (fun q _ h => hFc q h) hFc (fun rm um t H locs ht _ h hP1 _ hk1 hS => ?_)
                                have hP : va_P (dC, dI) vwCl (wL b0 h0 h1 h2 g0 g1 m0 m1 m2 m3 m4 m5 m6 m7 m8 m9 cI cJ cZ (ux, um)) H := L_joinM hP (hD _) hk1 hFc (by rw [← ht]; exact hP1)
                                obtain ⟨hr12, hI⟩ := h
                                refine lv_icmp_eq (tgt := 735) hx hb dL_law_684 (by decide) (fun _ => ?_) (fun w => absurd hr12 w)
                                exact next (ux, um) hI _ _ hP hS _ (lv_sub hl [0, 1, 2, 3] rfl)
                              · skip
                                rcases Decidable.em (y_0 = 13) with c_13 | c_13
                                · refine lv_tableIn (off := 656) (tgt := 689) hx hb dL_law_33 (by rw [c_13]; decide) (by rw [c_13]; decide) (by rw [c_13]; rfl) (by decide) ?_
                                  refine lv_aload_n hx hb dL_law_689 rfl (lv_at hl 1 rfl) ?_
                                  refine lv_aload_n hx hb dL_law_690 rfl (lv_at hl 0 rfl) ?_
                                  refine lv_iload_n hx hb dL_law_691 rfl (lv_at hl 3 rfl) ?_
                                  refine lv_iconst (v := 1) hx hb dL_law_692 (by decide) ?_
                                  refine lv_iadd hx hb dL_law_693 ?_
                                  refine va_sld hx hb hX hbl hbA hS (vpk hL hk (j := 1) (by decide)) dL_law_694 ?_
                                  refine lv_aload_n hx hb dL_law_695 rfl (lv_at hl 0 rfl) ?_
                                  refine lv_iload_n hx hb dL_law_696 rfl (lv_at hl 3 rfl) ?_
                                  refine lv_iconst (v := 2) hx hb dL_law_697 (by decide) ?_
                                  refine lv_iadd hx hb dL_law_698 ?_
                                  refine va_sld hx hb hX hbl hbA hS (vpk hL hk (j := 2) (by decide)) dL_law_699 ?_
                                  have h := op_laid hI (xs (nI (8 * k) + (1 : Int32)).toNatClampNeg) (xs (nI (8 * k) + (2 : Int32)).toNatClampNeg)
                                  have hPs := hP.sub (ws' := wX b0 h0 h1 h2 g0 g1 cI ux) [0, 1, 2, 3, 4, 5] rfl
                                  refine vp_callSi (W.runV (As := [.int _, .int _]) (rest := []) ⟨hx, hb, hml, hown, htsL⟩ (c_X4_laid l dC dI b0 h0 h1 h2 g0 g1 cI h) (cwV 2 htsL gL_law_X4_laid rfl rfl rfl (by decide +kernel) ⟨Nat.le_of_ble_eq_true rfl, Nat.le_of_ble_eq_true rfl⟩) ⟨fbR, va_recv hKx hPs (ci := 2) (q0 := 0) rfl rfl, fun U hU hW => ⟨rfl, by rw [hU]; exact hPs, va_K.moved hW.alike hKx⟩⟩ rfl rfl hl.1 rfl (lv_room (Nat.le_of_ble_eq_true rfl)) dL_law_700 ⟨Nat.le_of_ble_eq_true rfl, Nat.le_of_ble_eq_true rfl⟩) (fun rx h => ?_)
                                  refine lv_aload_n hx hb dL_law_703 rfl (lv_at hl 2 rfl) ?_
                                  refine lv_aload_n hx hb dL_law_704 rfl (lv_at hl 0 rfl) ?_
                                  refine lv_iload_n hx hb dL_law_705 rfl (lv_at hl 3 rfl) ?_
                                  refine lv_iconst (v := 1) hx hb dL_law_706 (by decide) ?_
                                  refine lv_iadd hx hb dL_law_707 ?_
                                  refine va_sld hx hb hX hbl hbA hS (vpk hL hk (j := 1) (by decide)) dL_law_708 ?_
                                  refine lv_aload_n hx hb dL_law_709 rfl (lv_at hl 0 rfl) ?_
                                  refine lv_iload_n hx hb dL_law_710 rfl (lv_at hl 3 rfl) ?_
                                  refine lv_iconst (v := 2) hx hb dL_law_711 (by decide) ?_
                                  refine lv_iadd hx hb dL_law_712 ?_
                                  refine va_sld hx hb hX hbl hbA hS (vpk hL hk (j := 2) (by decide)) dL_law_713 ?_
                                  have hPs := hP.sub (ws' := wM m0 m1 m2 m3 m4 m5 m6 m7 m8 m9 cJ cZ um) [6, 7, 8, 9, 10, 11, 12, 13, 14, 15] rfl
                                  refine vp_callSi (W.runV (As := [.int _, .int _]) (rest := [.int _]) ⟨hx, hb, hml, hown, htsL⟩ (c_X5_laid l dC dI m0 m1 m2 m3 m4 m5 m6 m7 m8 m9 cJ cZ h) (cwV 2 htsL gL_law_X5_laid rfl rfl rfl (by decide +kernel) ⟨Nat.le_of_ble_eq_true rfl, Nat.le_of_ble_eq_true rfl⟩) ⟨fbR, va_recv hKm hPs (ci := 3) (q0 := 0) rfl rfl, fun U hU hW => ⟨rfl, by rw [hU]; exact hPs, va_K.moved hW.alike hKm⟩⟩ rfl rfl hl.1 rfl (lv_room (Nat.le_of_ble_eq_true rfl)) dL_law_714 ⟨Nat.le_of_ble_eq_true rfl, Nat.le_of_ble_eq_true rfl⟩) (fun rm h => ?_)
                                  have hr12 := h
                                  refine lv_icmp_eq (tgt := 735) hx hb dL_law_717 (by decide) (fun _ => ?_) (fun w => absurd hr12 w)
                                  exact next (ux, um) hI _ _ hP hS _ (lv_sub hl [0, 1, 2, 3] rfl)
                                · skip
                                  rcases Decidable.em (y_0 = 14) with c_14 | c_14
                                  · refine lv_tableIn (off := 689) (tgt := 722) hx hb dL_law_33 (by rw [c_14]; decide) (by rw [c_14]; decide) (by rw [c_14]; rfl) (by decide) ?_
                                    refine lv_aload_n hx hb dL_law_722 rfl (lv_at hl 1 rfl) ?_
                                    have h := op_least hI
                                    have hPs := hP.sub (ws' := wX b0 h0 h1 h2 g0 g1 cI ux) [0, 1, 2, 3, 4, 5] rfl
                                    refine vp_callSi (W.runV (As := []) (rest := []) ⟨hx, hb, hml, hown, htsL⟩ (c_X4_least l dC dI b0 h0 h1 h2 g0 g1 cI h) (cwV 0 htsL gL_law_X4_least rfl rfl rfl (by decide +kernel) ⟨Nat.le_of_ble_eq_true rfl, Nat.le_of_ble_eq_true rfl⟩) ⟨fbR, va_recv hKx hPs (ci := 2) (q0 := 0) rfl rfl, fun U hU hW => ⟨rfl, by rw [hU]; exact hPs, va_K.moved hW.alike hKx⟩⟩ rfl rfl hl.1 rfl (lv_room (Nat.le_of_ble_eq_true rfl)) dL_law_723 ⟨Nat.le_of_ble_eq_true rfl, Nat.le_of_ble_eq_true rfl⟩) (fun rx h => ?_)
                                    refine lv_aload_n hx hb dL_law_726 rfl (lv_at hl 2 rfl) ?_
                                    have hPs := hP.sub (ws' := wM m0 m1 m2 m3 m4 m5 m6 m7 m8 m9 cJ cZ um) [6, 7, 8, 9, 10, 11, 12, 13, 14, 15] rfl
                                    refine vp_callSi (W.runV (As := []) (rest := [.int _]) ⟨hx, hb, hml, hown, htsL⟩ (c_X5_least l dC dI m0 m1 m2 m3 m4 m5 m6 m7 m8 m9 cJ cZ h) (cwV 0 htsL gL_law_X5_least rfl rfl rfl (by decide +kernel) ⟨Nat.le_of_ble_eq_true rfl, Nat.le_of_ble_eq_true rfl⟩) ⟨fbR, va_recv hKm hPs (ci := 3) (q0 := 0) rfl rfl, fun U hU hW => ⟨rfl, by rw [hU]; exact hPs, va_K.moved hW.alike hKm⟩⟩ rfl rfl hl.1 rfl (lv_room (Nat.le_of_ble_eq_true rfl)) dL_law_727 ⟨Nat.le_of_ble_eq_true rfl, Nat.le_of_ble_eq_true rfl⟩) (fun rm h => ?_)
                                    have hr12 := h
                                    refine lv_icmp_eq (tgt := 735) hx hb dL_law_730 (by decide) (fun _ => ?_) (fun w => absurd hr12 w)
                                    exact next (ux, um) hI _ _ hP hS _ (lv_sub hl [0, 1, 2, 3] rfl)
                                  · skip
                                    refine lv_tableOut (tgt := 735) hx hb dL_law_33 (by
                                      have t_0 : y_0.toInt ≠ 0 := fun q => c_0 (Int32.toInt_inj.mp (q.trans (by decide)))
                                      have t_1 : y_0.toInt ≠ 1 := fun q => c_1 (Int32.toInt_inj.mp (q.trans (by decide)))
                                      have t_2 : y_0.toInt ≠ 2 := fun q => c_2 (Int32.toInt_inj.mp (q.trans (by decide)))
                                      have t_3 : y_0.toInt ≠ 3 := fun q => c_3 (Int32.toInt_inj.mp (q.trans (by decide)))
                                      have t_4 : y_0.toInt ≠ 4 := fun q => c_4 (Int32.toInt_inj.mp (q.trans (by decide)))
                                      have t_5 : y_0.toInt ≠ 5 := fun q => c_5 (Int32.toInt_inj.mp (q.trans (by decide)))
                                      have t_6 : y_0.toInt ≠ 6 := fun q => c_6 (Int32.toInt_inj.mp (q.trans (by decide)))
                                      have t_7 : y_0.toInt ≠ 7 := fun q => c_7 (Int32.toInt_inj.mp (q.trans (by decide)))
                                      have t_8 : y_0.toInt ≠ 8 := fun q => c_8 (Int32.toInt_inj.mp (q.trans (by decide)))
                                      have t_9 : y_0.toInt ≠ 9 := fun q => c_9 (Int32.toInt_inj.mp (q.trans (by decide)))
                                      have t_10 : y_0.toInt ≠ 10 := fun q => c_10 (Int32.toInt_inj.mp (q.trans (by decide)))
                                      have t_11 : y_0.toInt ≠ 11 := fun q => c_11 (Int32.toInt_inj.mp (q.trans (by decide)))
                                      have t_12 : y_0.toInt ≠ 12 := fun q => c_12 (Int32.toInt_inj.mp (q.trans (by decide)))
                                      have t_13 : y_0.toInt ≠ 13 := fun q => c_13 (Int32.toInt_inj.mp (q.trans (by decide)))
                                      have t_14 : y_0.toInt ≠ 14 := fun q => c_14 (Int32.toInt_inj.mp (q.trans (by decide)))
                                      omega) (by decide) ?_
                                    exact next (ux, um) hI _ _ hP hS _ (lv_sub hl [0, 1, 2, 3] rfl)
